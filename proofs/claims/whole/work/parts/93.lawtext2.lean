/-! THE LAW'S TEXT: parts and sums -/
section Lt
variable {α β : Type} {c : Nat} {B : Nat → Nat} {μ0 ν0 μ ν μ' ν' : Mem} {st st1 : Nat → Nat} {k k1 d a a1 p w : Nat} {ts ts1 ts2 : List Bool} {P : α → β → Prop}
theorem CP.one {s a' p' : Nat} {μ1 ν1 : Mem} (h : LSt c B μ0 ν0 (su st k s) (k + 1) d μ' ν' a' p') (ht : Ty (su st k s) k ts (k + 1) ts1) (ha : a + 1 ≤ a') (e1 : EfL μ μ1) (e2 : EfL μ1 μ') (g1 : EgL ν ν1) (g2 : EgL ν1 ν') : CP c B μ0 ν0 st k ts ts1 d a μ ν μ' (true, ν') := Or.inl ⟨rfl, su st k s, k + 1, a', p', h, fun i hi => su_n (by omega), ht, by omega, e1.trans e2, g1.trans g2⟩
theorem run_hd {lo hi : Nat} (h : inR c B lo hi a = false) : run c B lo hi a = a := run_stop h
theorem isW_no {s : Nat} (hs : s < 79) (hw : wok s = true) (h : run c B 97 122 a = a) : isW c B s a = false := by
  cases q : isW c B s a with
  | false => rfl
  | true =>
    have := isW_end q
    have := (sch_ok s hs hw).2.1
    omega
theorem S_part (H : Tb c B μ0 ν0) (h : LSt c B μ0 ν0 st k d μ ν a p) (hk : k < a) (hts : ts.length < 24) : Sim (f_X5_readPart μ) (f_X12_readPart ν) (CP c B μ0 ν0 st k ts (false :: ts) d a μ ν) := by
  have hc := H.le4
  have hC := h.1.1
  have hac := hC.2.2.1
  have hM := h.1.2.1
  unfold f_X5_readPart f_X5_readPart_j220 f_X8_isAtNumber f_X12_readPart
  rw [show f_X8_runOf μ 48 57 = some (nI (run c B 48 57 a - a)) from X8_run H hC.1 hC.2.1 hac (lo := 48) (hi := 57) (by decide) (by decide), sb9, sb9]
  have hl : f_X12_letters ν = some (setPB ν (run c B 97 122 a) a) := by
    have := X12_letters H hM h.1.2.2.1 h.1.2.2.2.1
    rwa [h.1.2.2.2.2] at this
  refine Sim.r hl ?_
  rw [setPB_10, setPB_12]
  have hrl := run_ge (c := c) (B := B) (lo := 97) (hi := 122) (i := a)
  have hrl2 := run_le (B := B) (lo := 97) (hi := 122) hac
  have hrd := run_ge (c := c) (B := B) (lo := 48) (hi := 57) (i := a)
  have hrd2 := run_le (B := B) (lo := 48) (hi := 57) hac
  by_cases ed : run c B 48 57 a = a
  · -- no digit
    rw [if_neg (show ¬ (if nI (run c B 48 57 a - a) ≤ 0 then (false : Bool) else true) = true by rw [if_pos (by rw [ed, Nat.sub_self]; decide)]; exact fnt)]
    by_cases el : run c B 97 122 a = a
    · -- nor a letter
      rw [if_pos (by rw [el]), el]
      have iw : ∀ s, s < 79 → wok s = true → f_X8_takesWord μ s = some (false, μ) := fun s h1 h2 => by
        rw [X8_word H hC h1 h2, isW_no h1 h2 el]; rfl
      have rB : RT c B μ0 ν0 μ (setPB ν a a) a a := ⟨hC, hM.pb, setPB_10, hac, hC.2.2.2.2⟩
      have hno : numOk c B 0 999 a = false := by
        cases q : numOk c B 0 999 a with
        | false => rfl
        | true =>
          have := (numOk_iff.mp q).1.1
          unfold dgE at this
          omega
      have hn := X12_num H rB.2.1 rB.2.2.1 rB.2.2.2.1 rB.2.2.2.2 0 999
      rw [hno, if_neg fnt] at hn
      refine Sim.r hn ?_
      refine Sim.l (iw 18 (by decide) rfl) (Sim.le fnt (Sim.l (iw 19 (by decide) rfl) (Sim.le fnt (Sim.l (iw 20 (by decide) rfl) (Sim.le fnt (Sim.l (iw 21 (by decide) rfl) (Sim.le fnt (Sim.l (iw 22 (by decide) rfl) (Sim.le fnt (Sim.l (iw 23 (by decide) rfl) (Sim.le fnt (Sim.l (iw 24 (by decide) rfl) (Sim.le fnt ?_)))))))))))))
      have e16 : setPB (setPB ν a a) (dgE c B a) a 264 16 = nI k := by rw [setPB_i (by decide) (by decide), setPB_i (by decide) (by decide)]; exact h.2.1.2.1
      refine Sim.r (X12_emits e16 (by omega) _ _) ?_
      have hq : Cq c μ0 (mset μ 1 4 (nI a)) a := h.rf (by omega) hac
      refine Sim.l (a := mset μ 1 4 (nI a)) ?_ ?_
      · show f_X8_refuse μ (μ 1 3) = _
        rw [X8_refuse hC, hC.2.1]
      unfold f_X12_readPart_j134
      dsimp only
      rw [if_pos (by decide)]
      refine Sim.fl (Ok.r (P := fun m => Cq c μ0 m a) hq) (fun m hm => ?_)
      have e12 : emM (setPB (setPB ν a a) (dgE c B a) a) k 9 (-1) 264 12 = nI a := by rw [emM_i (by decide), setPB_12]
      exact CP.no hm (emM_mb hM.pb.pb) e12 (h.2.2.2.1.egl ((egPB.trans egPB).L.trans emM_egl))
    · -- a word
      rw [if_neg (fun q => el ((nI_eq (by omega) (by omega)).mp q))]
      have go : ∀ s, s < 79 → wok s = true → isW c B s a = true → RT c B μ0 ν0 (mset μ 1 3 (nI (sk c B (a + wlen s)))) (setPB ν (run c B 97 122 a) a) (sk c B (a + wlen s)) (a + wlen s) := fun s _ _ q => ⟨hC.mv H (isW_le hac q), hM.pb, by rw [setPB_10, isW_end q], isW_le hac q, rfl⟩
      have iw : ∀ s' s, s' < 79 → wok s' = true → lenS_l.getD s' 0 = lenS_l.getD s 0 → bytS_l.getD s' [] = bytS_l.getD s [] → f_X12_isWord (setPB ν (run c B 97 122 a) a) s' = some (isW c B s a) := fun s' s h1 h2 h3 h4 => by
        rw [← isW_id (s := s') (s' := s) h3 h4]
        exact X12_isWord H hM.pb setPB_10 setPB_12 hac h1 h2
      -- a fact is told
      have fact : ∀ (s g : Nat) (v x : Int32), s < 79 → wok s = true → isW c B s a = true → g < 7 → v = nI (1000 + g) → x = nI g → Sim (Option.bind (f_X4_addStep (mset μ 1 3 (nI (sk c B (a + wlen s)))) 56 v) fun q => some q) (f_X12_readPart_j127 (setPB ν (run c B 97 122 a) a) x) (CP c B μ0 ν0 st k ts (false :: ts) d a μ ν) := fun s g v x h1 h2 h3 hg ev ex => by
        have hL := h.tok (go s h1 h2 h3) ef3 egPB
        have hlen := (sch_ok s h1 h2).2.1
        have hsk := sk_ge (c := c) (B := B) (i := a + wlen s)
        unfold f_X12_readPart_j127 f_X12_readPart_j134
        refine S_emit hL (by omega) (s := 1000 + g) ev (by rw [ex, (mst_fact (by omega)).1]) (by rw [(mst_fact (by omega)).2]; rfl) (ty_num (by omega) hts) (fun hL2 hT => ?_)
        rw [if_neg (by rw [ex]; exact nI_pos (by omega))]
        refine Sim.d ?_
        rw [show decide (1007 ≤ 1000 + g) = false from decide_eq_false (by omega)] at hT
        exact CP.one hL2 hT (by omega) ef3.L adC_efl egPB.L emM_egl
      refine Sim.l (X8_word H hC (s := 18) (by decide) rfl) (Sim.r (iw 65 18 (by decide) rfl rfl rfl) ?_)
      dsimp only
      by_cases e1 : isW c B 18 a = true
      · rw [if_pos e1, if_pos e1, if_pos e1]
        exact fact 18 0 _ _ (by decide) rfl e1 (by decide) rfl rfl
      rw [if_neg e1, if_neg e1, if_neg e1]
      refine Sim.l (X8_word H hC (s := 19) (by decide) rfl) (Sim.r (iw 66 19 (by decide) rfl rfl rfl) ?_)
      dsimp only
      by_cases e2 : isW c B 19 a = true
      · rw [if_pos e2, if_pos e2, if_pos e2]
        exact fact 19 1 _ _ (by decide) rfl e2 (by decide) rfl rfl
      rw [if_neg e2, if_neg e2, if_neg e2]
      refine Sim.l (X8_word H hC (s := 20) (by decide) rfl) (Sim.r (iw 67 20 (by decide) rfl rfl rfl) ?_)
      dsimp only
      by_cases e3 : isW c B 20 a = true
      · rw [if_pos e3, if_pos e3, if_pos e3]
        exact fact 20 2 _ _ (by decide) rfl e3 (by decide) rfl rfl
      rw [if_neg e3, if_neg e3, if_neg e3]
      refine Sim.l (X8_word H hC (s := 21) (by decide) rfl) (Sim.r (iw 68 21 (by decide) rfl rfl rfl) ?_)
      dsimp only
      by_cases e4 : isW c B 21 a = true
      · rw [if_pos e4, if_pos e4, if_pos e4]
        exact fact 21 3 _ _ (by decide) rfl e4 (by decide) rfl rfl
      rw [if_neg e4, if_neg e4, if_neg e4]
      refine Sim.l (X8_word H hC (s := 22) (by decide) rfl) (Sim.r (iw 61 22 (by decide) rfl rfl rfl) ?_)
      dsimp only
      by_cases e5 : isW c B 22 a = true
      · rw [if_pos e5, if_pos e5, if_pos e5]
        exact fact 22 4 _ _ (by decide) rfl e5 (by decide) rfl rfl
      rw [if_neg e5, if_neg e5, if_neg e5]
      refine Sim.l (X8_word H hC (s := 23) (by decide) rfl) (Sim.r (iw 69 23 (by decide) rfl rfl rfl) ?_)
      dsimp only
      by_cases e6 : isW c B 23 a = true
      · rw [if_pos e6, if_pos e6, if_pos e6]
        exact fact 23 5 _ _ (by decide) rfl e6 (by decide) rfl rfl
      rw [if_neg e6, if_neg e6, if_neg e6]
      refine Sim.l (X8_word H hC (s := 24) (by decide) rfl) (Sim.r (iw 64 24 (by decide) rfl rfl rfl) ?_)
      dsimp only
      by_cases e7 : isW c B 24 a = true
      · rw [if_pos e7, if_pos e7, if_pos e7]
        exact fact 24 6 _ _ (by decide) rfl e7 (by decide) rfl rfl
      · rw [if_neg e7, if_neg e7, if_neg e7]
        refine Sim.l (a := mset μ 1 4 (nI a)) ?_ ?_
        · show f_X8_refuse μ (μ 1 3) = _
          rw [X8_refuse hC, hC.2.1]
        have hq : Cq c μ0 (mset μ 1 4 (nI a)) a := h.rf (by omega) hac
        have e16 : setPB ν (run c B 97 122 a) a 264 16 = nI k := by rw [setPB_i (by decide) (by decide)]; exact h.2.1.2.1
        refine Sim.r (X12_emits e16 (by omega) _ _) ?_
        unfold f_X12_readPart_j134
        rw [if_pos (by decide)]
        refine Sim.fl (Ok.r (P := fun m => Cq c μ0 m a) hq) (fun m hm => ?_)
        have e12 : emM (setPB ν (run c B 97 122 a) a) k (-1) 0 264 12 = nI a := by rw [emM_i (by decide), setPB_12]
        exact CP.no hm (emM_mb hM.pb) e12 (h.2.2.2.1.egl (egPB.L.trans emM_egl))
  · -- a digit
    have hind := run_in (c := c) (B := B) (lo := 48) (hi := 57) (i := a) (j := a) (Nat.le_refl _) (by omega)
    have el : run c B 97 122 a = a := run_stop (by
      cases q : inR c B 97 122 a with
      | false => rfl
      | true => have := inR_iff.mp q; omega)
    rw [if_pos (show (if nI (run c B 48 57 a - a) ≤ 0 then (false : Bool) else true) = true by rw [if_neg (nI_nle (by omega) (by omega))]), if_pos (by rw [el]), el]
    have rB : RT c B μ0 ν0 μ (setPB ν a a) a a := ⟨hC, hM.pb, setPB_10, hac, hC.2.2.2.2⟩
    unfold f_X12_readPart_j134
    refine S_num H rB (fun v m1 w1 a1 p1 i1 o1 ha1 r1 f1 g1 _ => ?_) (fun m1 w1 h1 k1 k2 f1 g1 => ?_)
    · dsimp only
      have hL := h.tok r1 f1 (egPB.trans g1)
      have hac1 := r1.1.2.2.1
      refine S_emit hL (by omega) (s := v) rfl (by rw [(mst_num (by omega)).1]; rfl) (by rw [(mst_num (by omega)).2]) (ty_num (by omega) hts) (fun hL2 hT => ?_)
      rw [if_neg (nI_pos (by omega))]
      refine Sim.d ?_
      rw [show decide (1007 ≤ v) = false from decide_eq_false (by omega)] at hT
      exact CP.one hL2 hT ha1 f1.L adC_efl (egPB.trans g1).L emM_egl
    · dsimp only
      have hq : Cq c μ0 m1 a := ⟨h1, (h.sf (by omega)).ef f1⟩
      have e16 : w1 264 16 = nI k := by rw [g1.2 16 (by decide) (by decide), setPB_i (by decide) (by decide)]; exact h.2.1.2.1
      refine Sim.r (X12_emits e16 (by omega) _ _) ?_
      rw [if_pos (by decide)]
      refine Sim.fl (aW hq fun m h2 => Ok.r h2) (fun m hm => ?_)
      have e12 : emM w1 k 9 (-1) 264 12 = nI a := by rw [emM_i (by decide)]; exact k2
      exact CP.no hm (emM_mb k1) e12 (h.2.2.2.1.egl ((egPB.trans g1).L.trans emM_egl))
/-- a sign that stands there, or not -/
theorem S_sg (H : Tb c B μ0 ν0) (h : RT c B μ0 ν0 μ ν a p) {ch : Nat} (hch : ch < 128) {v : Int32} (ev : v = nI ch) : f_X8_takesSign μ v = some (inR c B ch ch a, if inR c B ch ch a = true then mset μ 1 3 (nI (sk c B (a + 1))) else μ) ∧ f_X12_sign ν v = some (inR c B ch ch a, if inR c B ch ch a = true then setPB ν (a + 1) a else setPB ν a a) ∧ (inR c B ch ch a = true → RT c B μ0 ν0 (mset μ 1 3 (nI (sk c B (a + 1)))) (setPB ν (a + 1) a) (sk c B (a + 1)) (a + 1) ∧ a + 1 ≤ sk c B (a + 1)) ∧ RT c B μ0 ν0 μ (setPB ν a a) a a := by
  subst ev
  refine ⟨X8_sign H h.1 hch, X12_sign H h.2.1 h.2.2.1 h.2.2.2.1 h.2.2.2.2 hch, fun q => ?_, ⟨h.1, h.2.1.pb, setPB_10, h.1.2.2.1, h.1.2.2.2.2⟩⟩
  have hlt := (inR_iff.mp q).1
  exact ⟨⟨h.1.mv H (by omega), h.2.1.pb, setPB_10, by omega, rfl⟩, sk_ge⟩
theorem S_sum (H : Tb c B μ0 ν0) (h : LSt c B μ0 ν0 st k d μ ν a p) (hk : k < a) (hts : ts.length + 2 ≤ 24) : Sim (f_X5_readSum μ) (f_X12_readSum ν) (CP c B μ0 ν0 st k ts (false :: ts) d a μ ν) := by
  have hc := H.le4
  unfold f_X5_readSum f_X12_readSum
  refine (S_part H h hk (ts := ts) (by omega)).b fun m q hq => ?_
  obtain ⟨b, v⟩ := q
  rcases hq with ⟨rfl, st1, k1, a1, p1, hL1, hs1, ht1, hk1, e1, g1⟩ | ⟨rfl, w, hW, q1, q2, q3⟩
  · dsimp only at hL1 g1 ⊢
    rw [if_pos rfl]
    unfold f_X5_readSum_l6 f_X12_readSum_l9
    have hkk := ht1.1
    refine Sim.loop (fun j z z' => z.1 = nI j ∧ ∃ st' k' a' p', LSt c B μ0 ν0 st' k' d z.2 z' a' p' ∧ (∀ i, i < k → st' i = st i) ∧ Ty st' k ts k' (false :: ts) ∧ k' + a ≤ k + a' ∧ EfL μ z.2 ∧ EgL ν z' ∧ j + a ≤ a') (fun t t' => CP c B μ0 ν0 st k ts (false :: ts) d a μ ν t (Sum.elim (fun e => (true, e)) (fun x => x) t')) 400 (by decide) ⟨rfl, st1, k1, a1, p1, hL1, hs1, ht1, hk1, e1, g1, by omega⟩ (fun j z z' hj hI => ?_) (fun t t' ht => ?_)
    · obtain ⟨x, m2⟩ := z
      obtain ⟨i1, st2, k2, a2, p2, hL2, hs2, ht2, hk2, e2, g2, hja⟩ := hI
      dsimp only at i1 hL2 e2 g2
      subst i1
      have hac2 := hL2.1.1.2.2.1
      have hkk2 := ht2.1
      obtain ⟨c1, c2, c3, c4⟩ := S_sg H hL2.1 (ch := 43) (v := 43) (by decide) rfl
      show Sim (f_X5_readSum_b6 m2 (nI j)) (f_X12_readSum_b9 z') _
      unfold f_X5_readSum_b6 f_X12_readSum_b9
      refine Sim.le (nI_ge (b := 400) (by omega) (by decide)) (Sim.l c1 (Sim.r c2 ?_))
      dsimp only
      by_cases ep : inR c B 43 43 a2 = true
      · rw [if_pos ep, if_pos ep, if_pos ep, if_pos ep]
        obtain ⟨r3, h3⟩ := c3 ep
        have hL3 := hL2.tok r3 ef3 egPB
        refine (S_part H hL3 (by omega) (ts := false :: ts) (by show ts.length + 1 < 24; omega)).b fun m4 q4 hq4 => ?_
        obtain ⟨b4, v4⟩ := q4
        rcases hq4 with ⟨rfl, st4, k4, a4, p4, hL4, hs4, ht4, hk4, e4, g4⟩ | ⟨rfl, w, hW, q1, q2, q3⟩
        · dsimp only at hL4 g4 ⊢
          rw [if_pos rfl]
          have hkk4 := ht4.1
          have hac4 := hL4.1.1.2.2.1
          refine S_emit hL4 (by omega) (s := 1010) rfl rfl rfl (ty_plus (r := ts)) (fun hL5 hT5 => Sim.d ?_)
          have t5 : Ty st4 k ts k4 (false :: false :: ts) := ht2.trans ht4 hs4
          refine ⟨by omega, nI_1 _, su st4 k4 1010, k4 + 1, a4, p4, hL5, fun i hi => ?_, t5.trans hT5 (fun i hi => su_n (by omega)), by omega, (e2.trans ef3.L).trans (e4.trans adC_efl), (g2.trans egPB.L).trans (g4.trans emM_egl), by omega⟩
          rw [su_n (by omega), hs4 i (by omega), hs2 i hi]
        · dsimp only at q1 q2 q3 ⊢
          rw [if_neg fnt]
          refine Sim.fl (aW hW fun m5 h5 => Ok.r (P := fun r => ∃ m5, r = Sum.inl (nI j + 1, m5) ∧ Cq c μ0 m5 w) ⟨m5, rfl, h5⟩) (fun r hr => ?_)
          obtain ⟨m5, rfl, h5⟩ := hr
          refine ⟨m5, ?_, CP.no h5 q1 q2 q3⟩
          show f_X5_readSum_b6 m5 (nI j + 1) = _
          unfold f_X5_readSum_b6
          rw [nI_1]
          by_cases q4 : 400 ≤ j + 1
          · exact it (nI_le (a := 400) q4 (by omega)) rfl
          · exact ie (nI_ge (b := 400) (by omega) (by decide)) (bs (X8_signW H h5.1 _) (ie fnt rfl))
      · rw [if_neg ep, if_neg ep, if_neg ep, if_neg ep]
        exact Sim.d (Or.inl ⟨rfl, st2, k2, a2, a2, hL2.tok c4 Ef.refl egPB, hs2, ht2, hk2, e2, g2.trans egPB.L⟩)
    · cases t' with
      | inl e => exact Sim.d ht
      | inr q => exact Sim.d ht
  · dsimp only at q1 q2 q3 ⊢
    rw [if_neg fnt]
    unfold f_X5_readSum_l6
    refine Sim.l (a := m) ?_ (Sim.d (CP.no hW q1 q2 q3))
    unfold loopN
    show (f_X5_readSum_b6 m 0).bind _ = _
    unfold f_X5_readSum_b6
    rw [if_neg (by decide), X8_signW H hW.1 _, sb9, if_neg fnt]
    rfl
end Lt
