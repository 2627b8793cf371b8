/-! THE LAW'S TEXT: conditions -/
def AtS (c : Nat) (B : Nat → Nat) (μ0 ν0 : Mem) (rA : Mem → Int32 → Option Mem) (rA' : Mem → Option (Bool × Mem)) (d : Nat) : Prop := ∀ (st : Nat → Nat) (k : Nat) (μ ν : Mem) (a p : Nat) (ts : List Bool), ts.length ≤ 2 * d + 2 → LSt c B μ0 ν0 st k d μ ν a p → k < a → Sim (rA μ (nI d)) (rA' ν) (CP c B μ0 ν0 st k ts (true :: ts) d a μ ν)
section Lu
variable {α β : Type} {c : Nat} {B : Nat → Nat} {μ0 ν0 μ ν μ' ν' : Mem} {st st1 : Nat → Nat} {k k1 d a a1 p w : Nat} {ts ts1 ts2 : List Bool} {P : α → β → Prop}
theorem Cr.needS (H : Tb c B μ0 ν0) (h : Cr c B μ0 μ a) {ch : Nat} (hch : ch < 128) {v : Int32} (ev : v = nI ch) : f_X8_needSign μ v = some (if inR c B ch ch a = true then mset μ 1 3 (nI (sk c B (a + 1))) else mset μ 1 4 (nI a)) := by
  subst ev
  unfold f_X8_needSign f_X8_needSign_j16
  refine bs (X8_sign H h hch) ?_
  by_cases q : inR c B ch ch a = true
  · refine it q ?_
    rw [if_pos q, if_pos q]
  · refine ie q ?_
    dsimp only
    rw [if_neg q, if_neg q, h.2.1]
    exact bs (X8_refuse h _) rfl
/-- the second sum, and the sign between -/
theorem S_rel (H : Tb c B μ0 ν0) (h : LSt c B μ0 ν0 st k d μ ν a p) (hk : k < a) (hts : ts.length + 3 ≤ 24) {rA : Mem → Option (Bool × Mem)} {b : Bool} {v : Int32} {s : Nat} (ev : v = nI s) (hs : s = 1011 ∨ s = 1012) (hb : (if b = true then (11 : Int32) else 12) = nI (mst s)) {a0 : Nat} (h0 : a0 + 1 ≤ a) : Sim (Option.bind (f_X5_readSum μ) fun q => Option.bind (f_X4_addStep q 56 v) fun q7 => some q7) (f_X12_readAtom_body_j152 rA ν b) (CP c B μ0 ν0 st k (false :: ts) (true :: ts) d a0 μ ν) := by
  have hc := H.le4
  unfold f_X12_readAtom_body_j152 f_X12_readAtom_body_j159
  refine (S_sum H h hk (ts := false :: ts) (by show ts.length + 1 + 2 ≤ 24; omega)).b fun m q hq => ?_
  obtain ⟨b1, v1⟩ := q
  rcases hq with ⟨rfl, st1, k1, a1, p1, hL1, hs1, ht1, hk1, e1, g1⟩ | ⟨rfl, w, hW, q1, q2, q3⟩
  · dsimp only at hL1 g1 ⊢
    rw [if_pos rfl, hb]
    have hac := hL1.1.1.2.2.1
    have hkk := ht1.1
    refine S_emit hL1 (by omega) (s := s) ev rfl (by rcases hs with rfl | rfl <;> rfl) (ts1 := true :: ts) (ts := false :: false :: ts) (by rcases hs with rfl | rfl <;> rfl) (fun hL2 hT => Sim.d ?_)
    refine Or.inl ⟨rfl, su st1 k1 s, k1 + 1, a1, p1, hL2, fun i hi => (su_n (by omega)).trans (hs1 i hi), ht1.trans hT (fun i hi => su_n (by omega)), by omega, e1.trans adC_efl, g1.trans emM_egl⟩
  · dsimp only at q1 q2 q3 ⊢
    rw [if_neg fnt]
    exact Sim.fl (aW hW fun m h2 => Ok.r h2) (fun m hm => CP.no hm q1 q2 q3)
theorem S_cmp (H : Tb c B μ0 ν0) (h : LSt c B μ0 ν0 st k d μ ν a p) (hk : k < a) (hts : ts.length + 3 ≤ 24) (rA : Mem → Option (Bool × Mem)) : Sim (f_X5_readComparison μ) (Option.bind (f_X12_readSum ν) fun q4 => if q4.1 = true then Option.bind (f_X12_sign q4.2 60) fun q5 => if q5.1 = true then f_X12_readAtom_body_j152 rA q5.2 q5.1 else Option.bind (f_X12_sign q5.2 62) fun q6 => if q6.1 = true then f_X12_readAtom_body_j152 rA q6.2 q5.1 else f_X12_readAtom_body_j159 rA q6.2 else some (false, q4.2)) (CP c B μ0 ν0 st k ts (true :: ts) d a μ ν) := by
  have hc := H.le4
  unfold f_X5_readComparison f_X5_readComparison_j56
  refine (S_sum H h hk (ts := ts) (by omega)).b fun m q hq => ?_
  obtain ⟨b1, v1⟩ := q
  rcases hq with ⟨rfl, st1, k1, a1, p1, hL1, hs1, ht1, hk1, e1, g1⟩ | ⟨rfl, w, hW, q1, q2, q3⟩
  · dsimp only at hL1 g1 ⊢
    rw [if_pos rfl]
    have hac := hL1.1.1.2.2.1
    have hkk := ht1.1
    obtain ⟨c1, c2, c3, c4⟩ := S_sg H hL1.1 (ch := 60) (v := 60) (by decide) rfl
    refine Sim.l c1 (Sim.r c2 ?_)
    dsimp only
    by_cases ep : inR c B 60 60 a1 = true
    · rw [if_pos ep, if_pos ep, if_pos ep, if_pos ep]
      obtain ⟨r3, h3⟩ := c3 ep
      have hL3 := hL1.tok r3 ef3 egPB
      refine (S_rel H hL3 (by omega) hts (rA := rA) (s := 1011) (b := inR c B 60 60 a1) rfl (Or.inl rfl) (by rw [if_pos ep]; rfl) (a0 := a1) h3).w fun x y hxy => ?_
      exact CP.trans hs1 ht1 hk1 (e1.trans ef3.L) (g1.trans egPB.L) hxy
    · rw [if_neg ep, if_neg ep, if_neg ep, if_neg ep]
      have hLB := hL1.tok c4 Ef.refl egPB
      obtain ⟨d1, d2, d3, d4⟩ := S_sg H c4 (ch := 62) (v := 62) (by decide) rfl
      refine Sim.l (hL1.1.1.needS H (ch := 62) (by decide) rfl) (Sim.r d2 ?_)
      dsimp only
      by_cases eq : inR c B 62 62 a1 = true
      · rw [if_pos eq, if_pos eq, if_pos eq]
        obtain ⟨r3, h3⟩ := d3 eq
        have hL3 := hLB.tok r3 ef3 egPB
        refine (S_rel H hL3 (by omega) hts (rA := rA) (s := 1012) (b := inR c B 60 60 a1) rfl (Or.inr rfl) (by rw [if_neg ep]; rfl) (a0 := a1) h3).w fun x y hxy => ?_
        exact CP.trans hs1 ht1 hk1 (e1.trans ef3.L) (g1.trans (egPB.trans egPB).L) hxy
      · rw [if_neg eq, if_neg eq, if_neg eq]
        unfold f_X12_readAtom_body_j159
        have hq : Cq c μ0 (mset m 1 4 (nI a1)) a1 := hL1.rf (by omega) hac
        refine Sim.fl ((q_sum H hq).b fun m2 h2 => aW h2 fun m3 h3 => Ok.r h3) (fun m5 hm => ?_)
        exact CP.no hm d4.2.1 setPB_12 (hL1.2.2.2.1.egl (egPB.trans egPB).L)
  · dsimp only at q1 q2 q3 ⊢
    rw [if_neg fnt]
    refine Sim.fl (qS H hW (Ok.e fnt (Ok.s (X8_needSW H hW.1 _) ((q_sum H hW).b fun m2 h2 => aW h2 fun m3 h3 => Ok.r h3)))) (fun m5 hm => CP.no hm q1 q2 q3)
/-- more of them, with a word between -/
theorem S_wloop (H : Tb c B μ0 ν0) {rX : Mem → Option Mem} {rX' : Mem → Option (Bool × Mem)} (hX : ∀ (st : Nat → Nat) (k : Nat) (μ ν : Mem) (a p : Nat), LSt c B μ0 ν0 st k d μ ν a p → k < a → Sim (rX μ) (rX' ν) (CP c B μ0 ν0 st k (true :: ts) (true :: true :: ts) d a μ ν)) {wd wd' s : Nat} {v x : Int32} (h1 : wd < 79) (h2 : wok wd = true) (h3 : wd' < 79) (h4 : wok wd' = true) (h5 : lenS_l.getD wd' 0 = lenS_l.getD wd 0) (h6 : bytS_l.getD wd' [] = bytS_l.getD wd []) (ev : v = nI s) (ex : x = nI (mst s)) (ey : mnu s = 0) (ht : tyA1 s (true :: true :: ts) = some (true :: ts)) {gC : Mem → Int32 → Option ((Int32 × Mem) ⊕ Mem)} {gM : Mem → Option (Mem ⊕ (Mem ⊕ (Bool × Mem)))} (hgC : ∀ m l, gC m l = if 400 ≤ l then some (.inr m) else Option.bind (f_X8_takesWord m wd) fun q1 => if q1.1 = true then Option.bind (rX q1.2) fun q2 => Option.bind (f_X4_addStep q2 56 v) fun q3 => some (.inl ((l + 1), q3)) else some (.inr q1.2)) (hgM : ∀ m, gM m = Option.bind (f_X12_passes m wd') fun q1 => if q1.1 = true then Option.bind (rX' q1.2) fun q2 => if q2.1 = true then Option.bind (f_X12_emits q2.2 x 0) fun q3 => some (.inl q3) else some (.inr (.inr (false, q2.2))) else some (.inr (.inl q1.2))) (hL1 : LSt c B μ0 ν0 st1 k1 d μ' ν' a1 p) (hs1 : ∀ i, i < k → st1 i = st i) (ht1 : Ty st1 k ts k1 (true :: ts)) (hk1 : k1 + a ≤ k + a1) (hka : k < a) (e1 : EfL μ μ') (g1 : EgL ν ν') : Sim (Option.bind (loopN 10000 (fun z : (Int32 × Mem) => gC z.2 z.1) (0, μ')) fun t => some t) (Option.bind (loopN 10000 (fun z : Mem => gM z) ν') fun t : (Mem ⊕ (Bool × Mem)) => Sum.elim (fun e => some (true, e)) (fun x => some x) t) (CP c B μ0 ν0 st k ts (true :: ts) d a μ ν) := by
  have hc := H.le4
  have hkk := ht1.1
  refine Sim.loop (fun j z z' => z.1 = nI j ∧ ∃ st' k' a' p', LSt c B μ0 ν0 st' k' d z.2 z' a' p' ∧ (∀ i, i < k → st' i = st i) ∧ Ty st' k ts k' (true :: ts) ∧ k' + a ≤ k + a' ∧ EfL μ z.2 ∧ EgL ν z' ∧ j + a ≤ a') (fun t t' => CP c B μ0 ν0 st k ts (true :: ts) d a μ ν t (Sum.elim (fun e => (true, e)) (fun x => x) t')) 400 (by decide) ⟨rfl, st1, k1, a1, p, hL1, hs1, ht1, hk1, e1, g1, by omega⟩ (fun j z z' hj hI => ?_) (fun t t' ht => ?_)
  · obtain ⟨y, m2⟩ := z
    obtain ⟨i1, st2, k2, a2, p2, hL2, hs2, ht2, hk2, e2, g2, hja⟩ := hI
    dsimp only at i1 hL2 e2 g2
    subst i1
    have hac2 := hL2.1.1.2.2.1
    have hkk2 := ht2.1
    show Sim (gC m2 (nI j)) (gM z') _
    rw [hgC, hgM]
    have hp := X12_passes H hL2.1.2.1 hL2.1.2.2.1 hL2.1.2.2.2.1 hL2.1.2.2.2.2 h3 h4
    rw [isW_id (s := wd') (s' := wd) h5 h6] at hp
    refine Sim.le (nI_ge (b := 400) (by omega) (by decide)) (Sim.l (X8_word H hL2.1.1 h1 h2) (Sim.r hp ?_))
    dsimp only
    by_cases ep : isW c B wd a2 = true
    · rw [if_pos ep, if_pos ep, if_pos ep, if_pos ep]
      have hle := isW_le hac2 ep
      have hw1 := (sch_ok wd h1 h2).2.1
      have ew : wlen wd' = wlen wd := h5
      rw [ew]
      have r3 : RT c B μ0 ν0 (mset m2 1 3 (nI (sk c B (a2 + wlen wd)))) (setPB z' (a2 + wlen wd) a2) (sk c B (a2 + wlen wd)) (a2 + wlen wd) := ⟨hL2.1.1.mv H hle, hL2.1.2.1.pb, setPB_10, hle, rfl⟩
      have hsk := sk_ge (c := c) (B := B) (i := a2 + wlen wd)
      have hL3 := hL2.tok r3 ef3 egPB
      refine (hX _ _ _ _ _ _ hL3 (by omega)).b fun m4 q4 hq4 => ?_
      obtain ⟨b4, v4⟩ := q4
      rcases hq4 with ⟨rfl, st4, k4, a4, p4, hL4, hs4, ht4, hk4, e4, g4⟩ | ⟨rfl, w, hW, q1, q2, q3⟩
      · dsimp only at hL4 g4 ⊢
        rw [if_pos rfl]
        have hkk4 := ht4.1
        have hac4 := hL4.1.1.2.2.1
        refine S_emit hL4 (by omega) (s := s) ev ex (by rw [ey]; rfl) ht (fun hL5 hT5 => Sim.d ?_)
        have t5 : Ty st4 k ts k4 (true :: true :: ts) := ht2.trans ht4 hs4
        refine ⟨by omega, nI_1 _, su st4 k4 s, k4 + 1, a4, p4, hL5, fun i hi => ?_, t5.trans hT5 (fun i hi => su_n (by omega)), by omega, (e2.trans ef3.L).trans (e4.trans adC_efl), (g2.trans egPB.L).trans (g4.trans emM_egl), by omega⟩
        rw [su_n (by omega), hs4 i (by omega), hs2 i hi]
      · dsimp only at q1 q2 q3 ⊢
        rw [if_neg fnt]
        refine Sim.fl (aW hW fun m5 h5 => Ok.r (P := fun r => ∃ m5, r = Sum.inl (nI j + 1, m5) ∧ Cq c μ0 m5 w) ⟨m5, rfl, h5⟩) (fun r hr => ?_)
        obtain ⟨m5, rfl, h5'⟩ := hr
        refine ⟨m5, ?_, CP.no h5' q1 q2 q3⟩
        show gC m5 (nI j + 1) = _
        rw [hgC, nI_1]
        by_cases q4 : 400 ≤ j + 1
        · exact it (nI_le (a := 400) q4 (by omega)) rfl
        · exact ie (nI_ge (b := 400) (by omega) (by decide)) (bs (X8_wordW H h5'.1 _) (ie fnt rfl))
    · rw [if_neg ep, if_neg ep, if_neg ep, if_neg ep]
      have c4 : RT c B μ0 ν0 m2 (setPB z' a2 a2) a2 a2 := ⟨hL2.1.1, hL2.1.2.1.pb, setPB_10, hac2, hL2.1.1.2.2.2.2⟩
      exact Sim.d (Or.inl ⟨rfl, st2, k2, a2, a2, hL2.tok c4 Ef.refl egPB, hs2, ht2, hk2, e2, g2.trans egPB.L⟩)
  · cases t' with
    | inl e => exact Sim.d ht
    | inr q => exact Sim.d ht
theorem S_each (H : Tb c B μ0 ν0) {rA : Mem → Int32 → Option Mem} {rA' : Mem → Option (Bool × Mem)} (hA : AtS c B μ0 ν0 rA rA' d) (hts : ts.length ≤ 2 * d + 1) (h : LSt c B μ0 ν0 st k d μ ν a p) (hk : k < a) : Sim (f_X5_readEach rA μ (nI d)) (f_X12_readAllOf rA' ν) (CP c B μ0 ν0 st k ts (true :: ts) d a μ ν) := by
  unfold f_X5_readEach f_X12_readAllOf
  refine (hA _ _ _ _ _ _ ts (by omega) h hk).b fun m q hq => ?_
  obtain ⟨b1, v1⟩ := q
  rcases hq with ⟨rfl, st1, k1, a1, p1, hL1, hs1, ht1, hk1, e1, g1⟩ | ⟨rfl, w, hW, q1, q2, q3⟩
  · dsimp only at hL1 g1 ⊢
    rw [if_pos rfl]
    exact S_wloop H (rX := fun m => rA m (nI d)) (rX' := rA') (fun st k μ ν a p hl hk => hA st k μ ν a p (true :: ts) (by show ts.length + 1 ≤ _; omega) hl hk) (wd := 16) (wd' := 72) (s := 1013) (by decide) rfl (by decide) rfl rfl rfl rfl rfl rfl ty_and (gC := fun m l => f_X5_readEach_b7 rA m (nI d) l) (gM := fun m => f_X12_readAllOf_b9 rA' m) (fun m l => rfl) (fun m => rfl) hL1 hs1 ht1 hk1 hk e1 g1
  · dsimp only at q1 q2 q3 ⊢
    rw [if_neg fnt]
    unfold f_X5_readEach_l7
    refine Sim.l (a := m) ?_ (Sim.d (CP.no hW q1 q2 q3))
    unfold loopN
    show (f_X5_readEach_b7 rA m (nI d) 0).bind _ = _
    unfold f_X5_readEach_b7
    rw [if_neg (by decide), X8_wordW H hW.1 _, sb9, if_neg fnt]
    rfl
theorem S_any (H : Tb c B μ0 ν0) {rA : Mem → Int32 → Option Mem} {rA' : Mem → Option (Bool × Mem)} (hA : AtS c B μ0 ν0 rA rA' d) (hts : ts.length ≤ 2 * d) (h : LSt c B μ0 ν0 st k d μ ν a p) (hk : k < a) : Sim (f_X5_readAny rA μ (nI d)) (f_X12_readCond rA' ν) (CP c B μ0 ν0 st k ts (true :: ts) d a μ ν) := by
  unfold f_X5_readAny f_X12_readCond
  refine (S_each H hA (ts := ts) (by omega) h hk).b fun m q hq => ?_
  obtain ⟨b1, v1⟩ := q
  rcases hq with ⟨rfl, st1, k1, a1, p1, hL1, hs1, ht1, hk1, e1, g1⟩ | ⟨rfl, w, hW, q1, q2, q3⟩
  · dsimp only at hL1 g1 ⊢
    rw [if_pos rfl]
    exact S_wloop H (rX := fun m => f_X5_readEach rA m (nI d)) (rX' := fun m => f_X12_readAllOf rA' m) (fun st k μ ν a p hl hk => S_each H hA (ts := true :: ts) (by show ts.length + 1 ≤ _; omega) hl hk) (wd := 17) (wd' := 73) (s := 1014) (by decide) rfl (by decide) rfl rfl rfl rfl rfl rfl ty_or (gC := fun m l => f_X5_readAny_b7 rA m (nI d) l) (gM := fun m => f_X12_readCond_b9 rA' m) (fun m l => rfl) (fun m => rfl) hL1 hs1 ht1 hk1 hk e1 g1
  · dsimp only at q1 q2 q3 ⊢
    rw [if_neg fnt]
    unfold f_X5_readAny_l7
    refine Sim.l (a := m) ?_ (Sim.d (CP.no hW q1 q2 q3))
    unfold loopN
    show (f_X5_readAny_b7 rA m (nI d) 0).bind _ = _
    unfold f_X5_readAny_b7
    rw [if_neg (by decide), X8_wordW H hW.1 _, sb9, if_neg fnt]
    rfl
end Lu
