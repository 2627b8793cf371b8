/-! THE LAW'S TEXT: atoms -/
section Lv
variable {α β : Type} {c : Nat} {B : Nat → Nat} {μ0 ν0 μ ν μ' ν' : Mem} {st st1 : Nat → Nat} {k k1 d a a1 p w : Nat} {ts ts1 ts2 : List Bool} {P : α → β → Prop}
theorem eg13 {v : Int32} : EgL ν (mset ν 264 13 v) := ⟨fun b h1 h2 => mset_ne h1, fun j hj => by rw [mset_ne (by decide)]⟩
theorem mb13 {v : Int32} (h : Mb ν0 ν) : Mb ν0 (mset ν 264 13 v) := ⟨fun b h1 h2 => by rw [mset_ne h1]; exact h.1 b h1 h2, fun i h1 h2 h3 h4 => by rw [mset_atn h3]; exact h.2 i h1 h2 h3 h4⟩
theorem LSt.dep (h : LSt c B μ0 ν0 st k d μ ν a p) {d' : Nat} {v : Int32} (ev : v = nI d') : LSt c B μ0 ν0 st k d' μ (mset ν 264 13 v) a p := by
  subst ev
  obtain ⟨⟨r1, r2, r3, r4, r5⟩, h2, h3, h4, h5⟩ := h
  refine ⟨⟨r1, mb13 r2, by rw [mset_atn (by decide)]; exact r3, r4, r5⟩, h2.fr rfl rfl (by rw [mset_atn (by decide)]) (by rw [mset_ne (by decide)]), mset_at, h4.egl eg13, h5⟩
/-- a token that is a whole atom -/
theorem S_tag (H : Tb c B μ0 ν0) (h : LSt c B μ0 ν0 st k d μ ν a p) (hk : k < a) {a' p' : Nat} (hr : RT c B μ0 ν0 μ' ν' a' p') (e : Ef μ μ') (g : Eg ν ν') (ha : a + 1 ≤ a') (hts : ts.length < 24) {s : Nat} (hs : s = 1007 ∨ s = 1008) {v x : Int32} (ev : v = nI s) (ex : x = nI (mst s)) : Sim (Option.bind (f_X4_addStep μ' 56 v) fun q => some q) (Option.bind (f_X12_emits ν' x 0) fun q => some (true, q)) (CP c B μ0 ν0 st k ts (true :: ts) d a μ ν) := by
  have hc := H.le4
  have hac := hr.1.2.2.1
  refine S_emit (h.tok hr e g) (by omega) (s := s) ev ex (by rcases hs with rfl | rfl <;> rfl) (ty_num (by omega) hts) (fun hL2 hT => Sim.d ?_)
  rw [show decide (1007 ≤ s) = true from decide_eq_true (by omega)] at hT
  exact CP.one hL2 hT ha e.L adC_efl g.L emM_egl
theorem S_atom (H : Tb c B μ0 ν0) : ∀ (kf d : Nat), d ≤ 6 → 8 ≤ kf + d → AtS c B μ0 ν0 (f_X5_readAtom kf) (f_X12_readAtom kf) d
  | 0, d, h1, h2 => absurd h2 (by omega)
  | kf + 1, d, h1, h2 => fun st k μ ν a p ts hts h hk => by
    have hc := H.le4
    have hC := h.1.1
    have hac := hC.2.2.1
    have hM := h.1.2.1
    have hA : d < 6 → AtS c B μ0 ν0 (f_X5_readAtom kf) (f_X12_readAtom kf) (d + 1) := fun hd => S_atom H kf (d + 1) (by omega) (by omega)
    show Sim (f_X5_readAtom_body (f_X5_readAtom kf) μ (nI d)) (f_X12_readAtom_body (f_X12_readAtom kf) ν) _
    unfold f_X5_readAtom_body f_X12_readAtom_body f_X5_readAtom_body_j155
    obtain ⟨c1, c2, c3, c4⟩ := S_sg H h.1 (ch := 40) (v := 40) (by decide) rfl
    refine Sim.l (X8_word H hC (s := 25) (by decide) rfl) (Sim.r c2 ?_)
    dsimp only
    by_cases ep : inR c B 40 40 a = true
    · -- a bracket
      have hin := inR_iff.mp ep
      have el : run c B 97 122 a = a := run_stop (by
        cases q : inR c B 97 122 a with
        | false => rfl
        | true => have := inR_iff.mp q; omega)
      rw [isW_no (s := 25) (by decide) rfl el, if_neg fnt, if_neg fnt, if_pos ep, if_pos ep]
      refine Sim.l c1 ?_
      dsimp only
      rw [if_pos ep, if_pos ep]
      obtain ⟨r3, h3⟩ := c3 ep
      have hL3 := h.tok r3 ef3 egPB
      have e13 : setPB ν (a + 1) a 264 13 = nI d := hL3.2.2.1
      by_cases d6 : d = 6
      · subst d6
        refine Sim.le (by decide) (Sim.rt (by rw [e13]; rfl) ?_)
        rw [hC.2.1]
        refine Sim.l (X8_refuse r3.1 _) (Sim.d ?_)
        exact CP.no (hL3.rf (by omega) hac) hM.pb setPB_12 (h.2.2.2.1.egl egPB.L)
      · refine Sim.lt (nI_lt (b := 6) (by omega) (by decide)) (Sim.re (by rw [e13]; exact fun q => d6 ((nI_eq (b := 6) (by omega) (by decide)).mp q)) ?_)
        rw [e13, nI_1]
        have hL4 := hL3.dep (d' := d + 1) rfl
        refine (S_any H (hA (by omega)) (ts := ts) (by omega) hL4 (by omega)).b fun m q hq => ?_
        obtain ⟨b1, v1⟩ := q
        rcases hq with ⟨rfl, st5, k5, a5, p5, hL5, hs5, ht5, hk5, e5, g5⟩ | ⟨rfl, w, hW, q1, q2, q3⟩
        · dsimp only at hL5 g5 ⊢
          rw [if_pos rfl, hL5.2.2.1, nI_p1]
          have hL6 := hL5.dep (d' := d) rfl
          have hac5 := hL6.1.1.2.2.1
          obtain ⟨d1, d2, d3, d4⟩ := S_sg H hL6.1 (ch := 41) (v := 41) (by decide) rfl
          refine Sim.l (hL6.1.1.needS H (ch := 41) (by decide) rfl) (Sim.r d2 ?_)
          dsimp only
          by_cases eq : inR c B 41 41 a5 = true
          · rw [eq, if_pos rfl, if_pos rfl]
            obtain ⟨r7, h7⟩ := d3 eq
            refine Sim.d ?_
            exact Or.inl ⟨rfl, st5, k5, _, _, hL6.tok r7 ef3 egPB, hs5, ht5, by omega, (ef3.L.trans e5).trans ef3.L, ((egPB.L.trans eg13).trans g5).trans (eg13.trans egPB.L)⟩
          · rw [show inR c B 41 41 a5 = false by simpa using eq, if_neg fnt, if_neg fnt]
            refine Sim.d ?_
            have hkk := ht5.1
            exact CP.no (hL6.rf (by omega) hac5) hL6.1.2.1.pb setPB_12 (hL6.2.2.2.1.egl egPB.L)
        · dsimp only at q1 q2 q3 ⊢
          rw [if_neg fnt]
          exact Sim.l (X8_needSW H hW.1 _) (Sim.d (CP.no hW q1 q2 q3))
    · rw [if_neg ep, if_neg ep]
      have hLB := h.tok c4 Ef.refl egPB
      have hp := X12_passes H c4.2.1 c4.2.2.1 c4.2.2.2.1 c4.2.2.2.2 (s := 74) (by decide) rfl
      rw [isW_id (s := 74) (s' := 25) rfl rfl] at hp
      refine Sim.r hp ?_
      dsimp only
      by_cases en : isW c B 25 a = true
      · -- not
        rw [if_pos en, if_pos en, if_pos en, if_pos en]
        have hle := isW_le hac en
        have hsk := sk_ge (c := c) (B := B) (i := a + wlen 25)
        have w25 : wlen 25 = 3 := rfl
        have r3 : RT c B μ0 ν0 (mset μ 1 3 (nI (sk c B (a + wlen 25)))) (setPB (setPB ν a a) (a + wlen 74) a) (sk c B (a + wlen 25)) (a + wlen 25) := ⟨hC.mv H hle, hM.pb.pb, setPB_10, hle, rfl⟩
        have hL3 := h.tok r3 ef3 (egPB.trans egPB)
        have e13 : setPB (setPB ν a a) (a + wlen 74) a 264 13 = nI d := hL3.2.2.1
        by_cases d6 : d = 6
        · subst d6
          refine Sim.le (by decide) (Sim.rt (by rw [e13]; rfl) ?_)
          rw [hC.2.1]
          refine Sim.l (X8_refuse r3.1 _) (Sim.d ?_)
          exact CP.no (hL3.rf (by omega) hac) hM.pb.pb setPB_12 (h.2.2.2.1.egl (egPB.trans egPB).L)
        · refine Sim.lt (nI_lt (b := 6) (by omega) (by decide)) (Sim.re (by rw [e13]; exact fun q => d6 ((nI_eq (b := 6) (by omega) (by decide)).mp q)) ?_)
          rw [e13, nI_1]
          have hL4 := hL3.dep (d' := d + 1) rfl
          refine (hA (by omega) _ _ _ _ _ _ ts (by omega) hL4 (by omega)).b fun m q hq => ?_
          obtain ⟨b1, v1⟩ := q
          rcases hq with ⟨rfl, st5, k5, a5, p5, hL5, hs5, ht5, hk5, e5, g5⟩ | ⟨rfl, w, hW, q1, q2, q3⟩
          · dsimp only at hL5 g5 ⊢
            rw [if_pos rfl, hL5.2.2.1, nI_p1]
            have hL6 := hL5.dep (d' := d) rfl
            have hac5 := hL6.1.1.2.2.1
            have hkk := ht5.1
            refine S_emit hL6 (by omega) (s := 1009) rfl rfl rfl (ty_not (r := ts)) (fun hL7 hT7 => Sim.d ?_)
            exact Or.inl ⟨rfl, su st5 k5 1009, k5 + 1, a5, p5, hL7, fun i hi => (su_n (by omega)).trans (hs5 i hi), ht5.trans hT7 (fun i hi => su_n (by omega)), by omega, (ef3.L.trans e5).trans adC_efl, (((egPB.trans egPB).L.trans eg13).trans g5).trans (eg13.trans emM_egl)⟩
          · dsimp only at q1 q2 q3 ⊢
            rw [if_neg fnt]
            exact Sim.fl (aW hW fun m2 h2 => Ok.r h2) (fun m5 hm => CP.no hm q1 q2 q3)
      · rw [if_neg en, if_neg en, if_neg en, if_neg en]
        refine Sim.l c1 ?_
        dsimp only
        rw [if_neg ep, if_neg ep]
        -- a tag
        have rC : RT c B μ0 ν0 μ (setPB (setPB ν a a) a a) a a := ⟨hC, hM.pb.pb, setPB_10, hac, hC.2.2.2.2⟩
        have hLC := h.tok rC Ef.refl (egPB.trans egPB)
        have hl : f_X12_letters (setPB (setPB ν a a) a a) = some (setPB (setPB (setPB ν a a) a a) (run c B 97 122 a) a) := by
          have := X12_letters H rC.2.1 rC.2.2.1 rC.2.2.2.1
          rwa [rC.2.2.2.2] at this
        unfold f_X12_readTag
        rw [hl, sb9, X12_isWord H hM.pb.pb.pb setPB_10 setPB_12 hac (s := 70) (by decide) rfl, isW_id (s := 70) (s' := 26) rfl rfl, sb9]
        refine Sim.l (X8_word H hC (s := 26) (by decide) rfl) ?_
        dsimp only
        have hlen : ts.length < 24 := by omega
        by_cases e1 : isW c B 26 a = true
        · rw [if_pos e1, if_pos e1, if_pos e1]
          unfold f_X12_readTag_j33 f_X12_readTag_j55
          rw [if_neg (by decide), if_neg (by decide), Option.bind_assoc]
          have hle := isW_le hac e1
          have w26 : wlen 26 = 4 := rfl
          have hsk := sk_ge (c := c) (B := B) (i := a + wlen 26)
          have r3 : RT c B μ0 ν0 (mset μ 1 3 (nI (sk c B (a + wlen 26)))) (setPB (setPB (setPB ν a a) a a) (run c B 97 122 a) a) (sk c B (a + wlen 26)) (a + wlen 26) := ⟨hC.mv H hle, hM.pb.pb.pb, by rw [setPB_10, isW_end e1], hle, rfl⟩
          have key := S_tag H h hk r3 ef3 ((egPB.trans egPB).trans egPB) (by omega) hlen (s := 1007) (Or.inl rfl) (v := 1007) (x := 7) rfl rfl (ts := ts)
          obtain ⟨x, y, k1, k2, k3⟩ := key
          refine ⟨x, y, k1, ?_, k3⟩
          rw [← k2]
          cases f_X12_emits (setPB (setPB (setPB ν a a) a a) (run c B 97 122 a) a) 7 0 <;> rfl
        · rw [if_neg e1, if_neg e1, if_neg e1]
          rw [X12_isWord H hM.pb.pb.pb setPB_10 setPB_12 hac (s := 71) (by decide) rfl, isW_id (s := 71) (s' := 27) rfl rfl, sb9]
          refine Sim.l (X8_word H hC (s := 27) (by decide) rfl) ?_
          dsimp only
          by_cases e2 : isW c B 27 a = true
          · rw [if_pos e2, if_pos e2, if_pos e2]
            unfold f_X12_readTag_j55
            rw [if_neg (by decide), if_neg (by decide), Option.bind_assoc]
            have hle := isW_le hac e2
            have w27 : wlen 27 = 5 := rfl
            have hsk := sk_ge (c := c) (B := B) (i := a + wlen 27)
            have r3 : RT c B μ0 ν0 (mset μ 1 3 (nI (sk c B (a + wlen 27)))) (setPB (setPB (setPB ν a a) a a) (run c B 97 122 a) a) (sk c B (a + wlen 27)) (a + wlen 27) := ⟨hC.mv H hle, hM.pb.pb.pb, by rw [setPB_10, isW_end e2], hle, rfl⟩
            have key := S_tag H h hk r3 ef3 ((egPB.trans egPB).trans egPB) (by omega) hlen (s := 1008) (Or.inr rfl) (v := 1008) (x := 8) rfl rfl (ts := ts)
            obtain ⟨x, y, k1, k2, k3⟩ := key
            refine ⟨x, y, k1, ?_, k3⟩
            rw [← k2]
            cases f_X12_emits (setPB (setPB (setPB ν a a) a a) (run c B 97 122 a) a) 8 0 <;> rfl
          · rw [if_neg e2, if_neg e2, if_neg e2]
            unfold f_X12_readTag_j55
            rw [if_pos (by decide), if_pos (by decide), setPB_12, setPB_set, sb9]
            dsimp only
            rw [if_neg fnt]
            have rD : RT c B μ0 ν0 μ (setPB (setPB (setPB ν a a) a a) a a) a a := ⟨hC, hM.pb.pb.pb, setPB_10, hac, hC.2.2.2.2⟩
            have hLD := h.tok rD Ef.refl ((egPB.trans egPB).trans egPB)
            obtain ⟨x, y, k1, k2, k3⟩ := S_cmp H hLD hk (ts := ts) (by omega) (f_X12_readAtom kf)
            refine ⟨x, y, ?_, k2, ?_⟩
            · rw [k1]; rfl
            · exact CP.trans (k := k) (k1 := k) (ts := ts) (ts1 := ts) (st := st) (fun i hi => rfl) Ty.refl (Nat.le_refl _) Ef.refl.L ((egPB.trans egPB).trans egPB).L k3
end Lv
