/-! DAYS: the class's, the model's -/
def sA (a k : Nat) : Prop := a ≤ k ∧ k ≤ a + 14
def sD (a k : Nat) : Prop := sA a k ∨ s5 k
section Day
variable {n : Nat} {f : Int32} {μ : Mem} {a : Nat} {L : Ld} {T : Tx}
theorem X2_payOff (h : CL n f μ a L) (hw : WF n L) {l p : Nat} (hl : l < 2 * n) (hP : Pledged n l L) (hp : p < n) : Ok (f_X2_payOff μ a (nI l) (nI p)) (fun μ' => CL n f μ' a (payA L l p (idx (L 7 l))) ∧ Fr (sA a) μ μ') := by
  have hn := h.n6
  obtain ⟨hh, eh⟩ := hP.hold hn
  obtain ⟨d, hd, ed⟩ := hw.2.1
  obtain ⟨m, hm1, hm, em⟩ : ∃ m, 1 ≤ m ∧ m ≤ 999 ∧ L 8 l = nI m := by
    obtain ⟨-, h'', -, -, -, q, -⟩ := hP; exact q
  generalize idx (L 7 l) = h' at hh eh
  unfold f_X2_payOff
  refine Ok.s (h.rdP (k := 1) (by decide) hp) ?_
  refine Ok.s (h.rdL (k := 8) (by decide) hl) ?_
  refine Ok.s (wr_nI (by omega) (by decide)) ?_
  have c1 : CL n f (mset μ (a + 1) p (L 1 p - L 8 l)) a (upd2 L 1 p (L 1 p - L 8 l)) := h.set (by decide) (by omega)
  refine Ok.s (a := nI h') (by rw [← eh]; exact c1.rdL (k := 7) (by decide) hl) ?_
  refine Ok.s (a := L 8 l) (c1.rdL (k := 8) (by decide) hl) ?_
  refine Ok.b (X2_earn c1 hh (L 8 l)) (fun ν hν => ?_)
  obtain ⟨c2, F2⟩ := hν
  refine Ok.s (a := L 8 l) (c2.rdL (k := 8) (by decide) hl) ?_
  have e2 : ν a 2 = nI d := (c2.at0 (i := 2) (by decide)).trans ed
  refine Ok.b (X1_add c2 (d := d) (l := l) (w := 1) (m := m) ed hd (by omega) (by decide) hm e2 rfl rfl em) (fun ν2 hν => ?_)
  obtain ⟨c3, F3⟩ := hν
  refine Ok.b (X2_letGo c3 (by omega) 0 (-1)) (fun ν3 hν => ?_)
  obtain ⟨c4, F4⟩ := hν
  refine Ok.r ⟨c4, ?_⟩
  exact (((Fr.set (show sA a (a + 1) by unfold sA; omega)).trans (F2.mono fun k hk => by unfold sA; omega)).trans (F3.mono fun k hk => by unfold sA; omega)).trans (F4.mono fun k hk => by unfold sA; omega)
theorem X2_settle (h : CL n f μ a L) (hw : WF n L) {l : Nat} (hl : l < 2 * n) (hP : Pledged n l L) : Ok (f_X2_settle μ a (nI l)) (fun μ' => CL n f μ' a (settleA L l) ∧ Fr (sA a) μ μ') := by
  have hn := h.n6
  obtain ⟨d, hd, ed⟩ := hw.2.1
  obtain ⟨m, hm1, hm, em⟩ : ∃ m, 1 ≤ m ∧ m ≤ 999 ∧ L 8 l = nI m := by
    obtain ⟨-, h'', -, -, -, q, -⟩ := hP; exact q
  have lost : Ok (f_X2_settle_j65 μ a (nI l)) (fun μ' => CL n f μ' a (lostA L l) ∧ Fr (sA a) μ μ') := by
    unfold f_X2_settle_j65
    refine Ok.s (h.rdL (k := 8) (by decide) hl) ?_
    have e2 : μ a 2 = nI d := (h.at0 (i := 2) (by decide)).trans ed
    refine Ok.b (X1_add h (d := d) (l := l) (w := 2) (m := m) ed hd (by omega) (by decide) hm e2 rfl rfl em) (fun ν hν => ?_)
    obtain ⟨c3, F3⟩ := hν
    refine Ok.s (a := L 7 l) (c3.rdL (k := 7) (by decide) hl) ?_
    refine Ok.b (X2_letGo c3 (by omega) 2 (L 7 l)) (fun ν3 hν => ?_)
    obtain ⟨c4, F4⟩ := hν
    exact Ok.r ⟨c4, (F3.mono fun k hk => by unfold sA; omega).trans (F4.mono fun k hk => by unfold sA; omega)⟩
  unfold f_X2_settle settleA
  refine Ok.s (X11_ownerOf (by omega)) ?_
  refine Ok.s (h.rdL (k := 11) (by decide) hl) ?_
  refine Ok.s (h.rdP (k := 1) (by decide) (show l / 2 < n by omega)) ?_
  refine Ok.s (h.rdL (k := 8) (by decide) hl) ?_
  by_cases c1 : L 1 (l / 2) < L 8 l
  · refine Ok.t c1 ?_
    rw [if_pos c1]
    by_cases c2 : L 11 l = -1
    · refine Ok.t c2 ?_
      rw [if_pos c2]; exact lost
    · refine Ok.e c2 ?_
      rw [if_neg c2]
      obtain ⟨hs, es⟩ := hP.sure hn c2
      refine Ok.s (a := L 1 (idx (L 11 l))) (by rw [es]; unfold idx; rw [nI_clamp (by unfold idx at hs; omega)]; exact h.rdP (k := 1) (by decide) hs) ?_
      refine Ok.s (h.rdL (k := 8) (by decide) hl) ?_
      by_cases c3 : L 1 (idx (L 11 l)) < L 8 l
      · refine Ok.t c3 ?_
        rw [if_pos c3]; exact lost
      · refine Ok.e c3 ?_
        rw [if_neg c3]
        have := X2_payOff h hw hl hP hs
        rw [← es] at this
        exact this.b fun ν hν => Ok.r hν
  · refine Ok.e c1 ?_
    rw [if_neg c1]
    exact (X2_payOff h hw hl hP (show l / 2 < n by omega)).b fun ν hν => Ok.r hν
theorem X12_isPaid (h : ML n f (μ 265) L) {l p : Nat} (hl : l < 2 * n) (hP : Pledged n l L) (hp : p < n) : Ok (f_X12_isPaid μ (nI l) (nI p)) (fun μ' => ML n f (μ' 265) (payA L l p (idx (L 7 l))) ∧ Ms s65 μ μ') := by
  have hn := h.n6
  obtain ⟨hh, eh⟩ := hP.hold hn
  generalize idx (L 7 l) = h' at hh eh
  unfold f_X12_isPaid
  refine Ok.s (X12_lace2 h hl) ?_
  refine Ok.s (X12_atN (k := 0)) ?_
  refine Ok.s (a := L 1 p) (by rw [rd_nI (by omega) (by decide)]; exact congrArg some (h.atP (k := 1) (by decide) hp)) ?_
  refine Ok.s (wr_nI (by omega) (by decide)) ?_
  have c1 : ML n f (mset μ 265 (28 + 5 * p + 0) (L 1 p - L 8 l) 265) (upd2 L 1 p (L 1 p - L 8 l)) := h.putP (k := 1) (by decide) hp rfl
  refine Ok.s (a := nI h') (by rw [← eh]; exact X12_lace1 c1 hl) ?_
  refine Ok.b (X12_gets c1 hh (L 8 l)) (fun ν hν => ?_)
  obtain ⟨c2, F2⟩ := hν
  refine Ok.b (X12_comesBack c2 hl) (fun ν2 hν => ?_)
  obtain ⟨c3, F3⟩ := hν
  refine Ok.b (X12_tells c3 (nI l) 1 (L 8 l)) (fun ν3 hν => ?_)
  obtain ⟨c4, F4⟩ := hν
  rw [logA_row] at c4
  exact Ok.r ⟨c4, (((Ms.set (S := s65) rfl (by omega) (by omega)).trans F2).trans F3).trans F4⟩
theorem X12_isLostNow (h : ML n f (μ 265) L) {l : Nat} (hl : l < 2 * n) : Ok (f_X12_isLostNow μ (nI l)) (fun μ' => ML n f (μ' 265) (lostA L l) ∧ Ms s65 μ μ') := by
  unfold f_X12_isLostNow
  refine Ok.s (X12_lace2 h hl) ?_
  refine Ok.s (X12_lace1 h hl) ?_
  refine Ok.b (X12_tellsLace h hl 2 (L 7 l) 0 0 0) (fun ν hν => ?_)
  obtain ⟨c3, F3⟩ := hν
  refine Ok.b (X12_tells c3 (nI l) 2 (L 8 l)) (fun ν3 hν => ?_)
  obtain ⟨c4, F4⟩ := hν
  rw [logA_row] at c4
  exact Ok.r ⟨c4, F3.trans F4⟩
theorem X12_isCalled (h : ML n f (μ 265) L) {l : Nat} (hl : l < 2 * n) (hP : Pledged n l L) : Ok (f_X12_isCalled μ (nI l)) (fun μ' => ML n f (μ' 265) (settleA L l) ∧ Ms s65 μ μ') := by
  have hn := h.n6
  have lost : Ok (f_X12_isCalled_j63 μ (nI l)) (fun μ' => ML n f (μ' 265) (lostA L l) ∧ Ms s65 μ μ') := by
    unfold f_X12_isCalled_j63
    exact (X12_isLostNow h hl).b fun ν hν => Ok.r hν
  unfold f_X12_isCalled settleA
  refine Ok.s (X12_lace2 h hl) ?_
  refine Ok.s (X12_lace5 h hl) ?_
  refine Ok.s (X12_ownerOf (by omega)) ?_
  refine Ok.s (X12_of0 h (show l / 2 < n by omega)) ?_
  by_cases c1 : L 1 (l / 2) < L 8 l
  · refine Ok.t c1 ?_
    rw [if_pos c1]
    by_cases c2 : L 11 l = -1
    · refine Ok.t c2 ?_
      rw [if_pos c2]; exact lost
    · refine Ok.e c2 ?_
      rw [if_neg c2]
      obtain ⟨hs, es⟩ := hP.sure hn c2
      refine Ok.s (a := L 1 (idx (L 11 l))) (by rw [es]; unfold idx; rw [nI_clamp (by unfold idx at hs; omega)]; exact X12_of0 h hs) ?_
      by_cases c3 : L 1 (idx (L 11 l)) < L 8 l
      · refine Ok.t c3 ?_
        rw [if_pos c3]; exact lost
      · refine Ok.e c3 ?_
        rw [if_neg c3]
        have := X12_isPaid h hl hP hs
        rw [← es] at this
        exact this.b fun ν hν => Ok.r hν
  · refine Ok.e c1 ?_
    rw [if_neg c1]
    refine Ok.s (X12_ownerOf (by omega)) ?_
    exact (X12_isPaid h hl hP (show l / 2 < n by omega)).b fun ν hν => Ok.r hν
/-! walking -/
theorem X2_fall (h : CL n f μ a L) {p : Nat} (hp : p < n) : Ok (f_X2_fall μ a (nI p)) (fun μ' => CL n f μ' a (fallA L p) ∧ Fr (sA a) μ μ') := by
  have hn := h.n6
  unfold f_X2_fall
  refine Ok.s (h.rdP (k := 1) (by decide) hp) ?_
  rw [h.at0 (i := 3) (by decide)]
  refine Ok.s J9_max ?_
  refine Ok.s (wr_nI (by omega) (by decide)) ?_
  have c1 : CL n f (mset μ (a + 1) p (mx 0 (L 1 p - L 0 3))) a (upd2 L 1 p (mx 0 (L 1 p - L 0 3))) := h.set (by decide) (by omega)
  refine Ok.s (a := L 5 p) (c1.rdP (k := 5) (by decide) hp) ?_
  refine Ok.s J9_min ?_
  refine Ok.s (wr_nI (by omega) (by decide)) ?_
  refine Ok.r ⟨c1.set (by decide) (by omega), ?_⟩
  exact (Fr.set (show sA a (a + 1) by unfold sA; omega)).put (show sA a (a + 5) by unfold sA; omega)
theorem X2_walk (h : CL n f μ a L) {p : Nat} (hp : p < n) (w : Int32) : Ok (f_X2_walk μ a (nI p) w) (fun μ' => CL n f μ' a (stepA L p w) ∧ Fr (sA a) μ μ') := by
  have hn := h.n6
  unfold f_X2_walk stepA goA
  refine Ok.s (h.rdP (k := 3) (by decide) hp) ?_
  refine Ok.s (h.rdP (k := 4) (by decide) hp) ?_
  by_cases c : L 4 p ≤ L 3 p
  · refine Ok.t c ?_
    rw [if_pos c]
    refine Ok.s (h.rdP (k := 4) (by decide) hp) ?_
    refine Ok.s (h.rdP (k := 3) (by decide) hp) ?_
    refine Ok.s J9_max ?_
    refine Ok.s (wr_nI (by omega) (by decide)) ?_
    exact Ok.r ⟨h.set (by decide) (by omega), Fr.set (show sA a (a + 3) by unfold sA; omega)⟩
  · refine Ok.e c ?_
    rw [if_neg c]
    refine Ok.s (h.rdP (k := 4) (by decide) hp) ?_
    refine Ok.s (h.rdP (k := 3) (by decide) hp) ?_
    refine Ok.s J9_min ?_
    refine Ok.s (wr_nI (by omega) (by decide)) ?_
    exact Ok.r ⟨h.set (by decide) (by omega), Fr.set (show sA a (a + 3) by unfold sA; omega)⟩
theorem die_eq (s : Int32) : (((Int32.toUInt32 s >>> (Int32.toUInt32 16 &&& Int32.toUInt32 31)).toInt32) &&& (32767 : Int32)) = ((s >>> ((16 : Int32) &&& 31)) &&& (32767 : Int32)) := by
  apply b_ext
  intro i hi
  have h1 := b_ushr 16 (by decide) s i
  have h2 := b_sshr 16 (by decide) s hi
  rw [show nI 16 = (16 : Int32) from rfl] at h1 h2
  rw [b_and, b_and, h1, h2]
  by_cases c : 16 + i < 32
  · rw [if_pos c]
  · have h3 : bt 32767 i = false := (by decide +kernel : ∀ i, i < 32 → ¬ 16 + i < 32 → bt 32767 i = false) i hi c
    rw [h3, Bool.and_false, Bool.and_false]
theorem X2_draw (h : CL n f μ a L) : Ok (f_X2_draw μ a) (fun q => q.1 = ((seedA L >>> ((16 : Int32) &&& 31)) &&& (32767 : Int32)) ∧ CL n f q.2 a (upd2 L 0 4 (seedA L)) ∧ Fr (sA a) μ q.2) := by
  unfold f_X2_draw
  have e : (1103515245 * (μ a 4)) + 12345 = seedA L := by unfold seedA; rw [h.at0 (i := 4) (by decide)]
  rw [e, mset_at, die_eq]
  exact Ok.r ⟨rfl, h.set (k := 0) (by decide) (by omega), Fr.set (show sA a a by unfold sA; omega)⟩
theorem rm100 (x : Int32) : rm9 x 100 = some (x - x / 100 * 100) := by unfold rm9; rw [if_neg (by decide)]
theorem LC.a18 {a : Nat} {μ μ' : Mem} {T : Tx} (h : LC μ 48 T) (ha : a ≤ 18) (hF : Fr (sD a) μ μ') : LC μ' 48 T := h.fr fun j hj => hF _ (by unfold sD sA s5; omega)
theorem CL.of5 {μ μ' : Mem} (h : CL n f μ a L) (ha : a ≤ 18) (hF : Fr s5 μ μ') : CL n f μ' a L := h.fr fun j hj => hF _ (by unfold s5; omega)
theorem iter_s {α : Type} {g : Nat → α → α} {i : Nat} {x : α} : iter g (i + 1) x = g i (iter g i x) := rfl
theorem one_eq {dr : Bool} {p : Nat} {s : Ld × Int32} (h : s.1 3 p = s.1 4 p) : oneA dr T n p s = s := by unfold oneA; rw [if_pos h]
theorem one_still {p : Nat} {s : Ld × Int32} (h : ¬ s.1 3 p = s.1 4 p) : oneA false T n p s = (stepA s.1 p (walkA T n s.1 p), s.2) := by unfold oneA; rw [if_neg h, if_neg (by decide)]
theorem one_go {p : Nat} {s : Ld × Int32} (h : ¬ s.1 3 p = s.1 4 p) (h2 : rateA T n (upd2 s.1 0 4 (seedA s.1)) p ≤ dieA (seedA s.1)) : oneA true T n p s = (stepA (upd2 s.1 0 4 (seedA s.1)) p (walkA T n (upd2 s.1 0 4 (seedA s.1)) p), s.2) := by unfold oneA; rw [if_neg h, if_pos rfl, if_pos h2]
theorem one_fall {p : Nat} {s : Ld × Int32} (h : ¬ s.1 3 p = s.1 4 p) (h2 : ¬ rateA T n (upd2 s.1 0 4 (seedA s.1)) p ≤ dieA (seedA s.1)) : oneA true T n p s = (fallA (upd2 s.1 0 4 (seedA s.1)) p, s.2 + 1) := by unfold oneA; rw [if_neg h, if_pos rfl, if_neg h2]
theorem grow_t {l : Nat} (h : L 6 l = 1) : growS T n l L = upd2 L 8 l (mn 999 (L 8 l + growA T n L l)) := if_pos h
theorem grow_f {l : Nat} (h : ¬ L 6 l = 1) : growS T n l L = L := if_neg h
theorem due_f {l : Nat} (h : ¬ L 6 l = 1) : dueS l L = L := if_neg h
theorem due_w {l : Nat} (h : L 6 l = 1) (h2 : L 0 2 < L 10 l) : dueS l L = L := by unfold dueS; rw [if_pos h, if_pos h2]
theorem due_s {l : Nat} (h : L 6 l = 1) (h2 : ¬ L 0 2 < L 10 l) : dueS l L = settleA L l := by unfold dueS; rw [if_pos h, if_neg h2]
theorem X2_walkAll (h : CL n f μ a L) (hw : WF n L) (ha : a ≤ 18) (hT : LC μ 48 T) (hW : WT T) (dr : Bool) : Ok (f_X2_walkAll μ a 48 dr) (fun q => q.1 = (walkersA dr T n L).2 ∧ CL n f q.2 a (walkersA dr T n L).1 ∧ Fr (sD a) μ q.2) := by
  have hn := h.n6
  unfold f_X2_walkAll f_X2_walkAll_l5
  refine Ok.loop (fun j z => z.1 = (iter (oneA dr T n) j (L, 0)).2 ∧ z.2.1 = nI j ∧ CL n f z.2.2 a (iter (oneA dr T n) j (L, 0)).1 ∧ Fr (sD a) μ z.2.2) (fun t => t.1 = (walkersA dr T n L).2 ∧ CL n f t.2 a (walkersA dr T n L).1 ∧ Fr (sD a) μ t.2) n (by omega) ⟨rfl, rfl, h, Fr.refl⟩ (fun j z hj hI => ?_) (fun t ht => Ok.r ht)
  obtain ⟨acc, c, ν⟩ := z
  obtain ⟨e1, e2, hC, hF⟩ := hI
  dsimp only at e1 e2 hC hF
  have hw2 : WF n (iter (oneA dr T n) j (L, 0)).1 := hw.ones hW hj
  subst e1 e2
  show Ok (f_X2_walkAll_b5 ν a 48 dr _ (nI j)) _
  unfold f_X2_walkAll_b5
  by_cases hc : j = n
  · subst hc
    exact Ok.t hC.ge1 (Ok.d ⟨rfl, hC, hF⟩)
  · have hj2 : j < n := by omega
    refine Ok.e (hC.lt1 hj2) ?_
    have hnext : iter (oneA dr T n) (j + 1) (L, 0) = oneA dr T n j (iter (oneA dr T n) j (L, 0)) := rfl
    generalize iter (oneA dr T n) j (L, 0) = s at hC hw2 hnext ⊢
    refine Ok.s (hC.rdP (k := 3) (by decide) hj2) ?_
    refine Ok.s (hC.rdP (k := 4) (by decide) hj2) ?_
    by_cases c3 : s.1 3 j = s.1 4 j
    · refine Ok.t c3 ?_
      rw [one_eq c3] at hnext
      refine Ok.c hj2 ?_
      rw [hnext]
      exact ⟨rfl, nI_1 _, hC, hF⟩
    · refine Ok.e c3 ?_
      -- the step itself
      have go : ∀ (ν2 : Mem) (L2 : Ld), CL n f ν2 a L2 → WF n L2 → Fr (sD a) μ ν2 → iter (oneA dr T n) (j + 1) (L, 0) = (stepA L2 j (walkA T n L2 j), s.2) → Ok (f_X2_walkAll_j64_5 ν2 a 48 dr s.2 (nI j)) (LoopP (fun j z => z.1 = (iter (oneA dr T n) j (L, 0)).2 ∧ z.2.1 = nI j ∧ CL n f z.2.2 a (iter (oneA dr T n) j (L, 0)).1 ∧ Fr (sD a) μ z.2.2) (fun t => t.1 = (walkersA dr T n L).2 ∧ CL n f t.2 a (walkersA dr T n L).1 ∧ Fr (sD a) μ t.2) n j) := by
        intro ν2 L2 hC2 hw3 hF2 hnx
        unfold f_X2_walkAll_j64_5
        refine Ok.b (X2_walkOf hC2 hw3 ha (hT.a18 ha hF2) hW hj2) (fun q hq => ?_)
        obtain ⟨v, ν3⟩ := q
        obtain ⟨rfl, hF3⟩ := hq
        dsimp only at hF3 ⊢
        refine Ok.b (X2_walk (hC2.of5 ha hF3) hj2 _) (fun ν4 hq => ?_)
        unfold f_X2_walkAll_j77_5
        refine Ok.c hj2 ?_
        rw [hnx]
        exact ⟨rfl, nI_1 _, hq.1, (hF2.trans (hF3.mono fun k hk => Or.inr hk)).trans (hq.2.mono fun k hk => Or.inl hk)⟩
      cases dr with
      | false =>
        refine Ok.e (by decide) ?_
        rw [one_still c3] at hnext
        exact go ν s.1 hC hw2 hF hnext
      | true =>
        refine Ok.t rfl ?_
        refine Ok.b (X2_draw hC) (fun q hq => ?_)
        obtain ⟨v, ν2⟩ := q
        obtain ⟨rfl, hC2, hF2⟩ := hq
        dsimp only at hC2 hF2 ⊢
        refine Ok.s (rm100 _) ?_
        have hFb := hF.trans (hF2.mono fun k hk => Or.inl hk)
        refine Ok.b (X2_fallOf hC2 hw2.seed ha (hT.a18 ha hFb) hW hj2) (fun q hq => ?_)
        obtain ⟨v, ν3⟩ := q
        obtain ⟨rfl, hF3⟩ := hq
        dsimp only at hF3 ⊢
        have hFc := hFb.trans (hF3.mono fun k hk => Or.inr hk)
        by_cases c4 : rateA T n (upd2 s.1 0 4 (seedA s.1)) j ≤ dieA (seedA s.1)
        · refine Ok.t c4 ?_
          rw [one_go c3 c4] at hnext
          exact go ν3 _ (hC2.of5 ha hF3) hw2.seed hFc hnext
        · refine Ok.e c4 ?_
          rw [one_fall c3 c4] at hnext
          refine Ok.b (X2_fall (hC2.of5 ha hF3) hj2) (fun ν4 hq => ?_)
          unfold f_X2_walkAll_j77_5
          refine Ok.c hj2 ?_
          rw [hnext]
          exact ⟨rfl, nI_1 _, hq.1, hFc.trans (hq.2.mono fun k hk => Or.inl hk)⟩
theorem CL.setf (h : CL n f μ a L) {v : Int32} : CL n v (mset μ a 5 v) a L := by
  obtain ⟨h1, h2, h3, h4⟩ := h
  refine ⟨fun k i hd => ?_, h2, mset_at, ?_⟩
  · have h5 := h1 k i hd
    unfold craw at h5 ⊢
    rw [mset_ne (show a + 13 ≠ a by omega), mset_ne (show a + 14 ≠ a by omega)]
    by_cases hk' : k ≤ 12
    · rw [if_pos hk'] at h5 ⊢
      by_cases e : k = 0
      · subst e
        rw [show a + 0 = a from rfl] at h5 ⊢
        rw [mset_atn (by unfold dm at hd; omega), h5]
      · rw [mset_ne (by omega), h5]
    · rw [if_neg hk'] at h5 ⊢
      exact h5
  · rw [mset_ne (by omega)]; exact h4
theorem ML.setf {w : Nat → Int32} (h : ML n f w L) {v : Int32} : ML n v (upd w 5 v) L :=
  ⟨fun k i hd => by rw [pk_un (midx_n5 hd).1]; exact h.1 k i hd, h.2.1, pk_us⟩
theorem X2_liveOn (h : CL n f μ a L) (hw : WF n L) (ha : a ≤ 18) (hT : LC μ 48 T) (hW : WT T) (dr : Bool) {k : Nat} (hk : k ≤ 60) : Ok (f_X2_liveOn μ a (nI k) 48 dr) (fun q => q.1 = (daysA dr T n L k).2 ∧ CL n (f + (daysA dr T n L k).2) q.2 a (daysA dr T n L k).1 ∧ Fr (sD a) μ q.2) := by
  have hn := h.n6
  unfold f_X2_liveOn f_X2_liveOn_l6
  refine Ok.loop (fun j z => z.1 = (daysA dr T n L j).2 ∧ z.2.1 = nI j ∧ CL n f z.2.2 a (daysA dr T n L j).1 ∧ Fr (sD a) μ z.2.2) (fun t => t.1 = (daysA dr T n L k).2 ∧ CL n f t.2 a (daysA dr T n L k).1 ∧ Fr (sD a) μ t.2) k (by omega) ⟨rfl, rfl, h, Fr.refl⟩ (fun j z hj hI => ?_) (fun t ht => ?_)
  · obtain ⟨acc, c, ν⟩ := z
    obtain ⟨e1, e2, hC, hF⟩ := hI
    dsimp only at e1 e2 hC hF
    have hw2 : WF n (daysA dr T n L j).1 := hw.days hn hW j
    subst e1 e2
    show Ok (f_X2_liveOn_b6 ν a 48 (nI k) dr _ (nI j)) _
    unfold f_X2_liveOn_b6
    by_cases hc : j = k
    · subst hc
      exact Ok.t (nI_le (Nat.le_refl _) (by omega)) (Ok.d ⟨rfl, hC, hF⟩)
    · have hj2 : j < k := by omega
      refine Ok.e (nI_ge hj2 (by omega)) ?_
      have hnext : daysA dr T n L (j + 1) = ((dayA dr T n (daysA dr T n L j).1).1, (daysA dr T n L j).2 + (dayA dr T n (daysA dr T n L j).1).2) := rfl
      generalize daysA dr T n L j = s at hC hw2 hnext ⊢
      refine Ok.b (X2_walkAll hC hw2 ha (hT.a18 ha hF) hW dr) (fun q hq => ?_)
      obtain ⟨v, ν2⟩ := q
      obtain ⟨rfl, hC2, hF2⟩ := hq
      dsimp only at hC2 hF2 ⊢
      have hF3 := hF.trans hF2
      have hw3 : WF n (walkersA dr T n s.1).1 := hw2.ones hW (Nat.le_refl _)
      have hday : dayA dr T n s.1 = (upd2 (dueA T n (walkersA dr T n s.1).1) 0 2 (mn 9999 (dueA T n (walkersA dr T n s.1).1 0 2 + 1)), (walkersA dr T n s.1).2) := rfl
      rw [hday] at hnext
      generalize walkersA dr T n s.1 = w at hC2 hw3 hnext ⊢
      obtain ⟨Lw, cw⟩ := w
      dsimp only at hC2 hw3 hnext ⊢
      unfold f_X2_liveOn_l26
      refine Ok.loop (fun i z => z.1 = nI i ∧ CL n f z.2 a (iter (growS T n) i Lw) ∧ Fr (sD a) μ z.2) (fun ν => CL n f ν a (iter (growS T n) (2 * n) Lw) ∧ Fr (sD a) μ ν) (2 * n) (by omega) ⟨rfl, hC2, hF3⟩ (fun i z hi hI => ?_) (fun ν3 hν => ?_)
      · obtain ⟨c, ν⟩ := z
        obtain ⟨e1, hC, hF⟩ := hI
        dsimp only at e1 hC hF
        have hwi : WF n (iter (growS T n) i Lw) := hw3.grows hW hi
        subst e1
        show Ok (f_X2_liveOn_b26 ν a 48 (nI k) dr _ (nI j) (nI i)) _
        unfold f_X2_liveOn_b26
        by_cases hc : i = 2 * n
        · subst hc
          exact Ok.t hC.ge2 (Ok.d ⟨hC, hF⟩)
        · have hi2 : i < 2 * n := by omega
          refine Ok.e (hC.lt2 hi2) ?_
          have hnx : iter (growS T n) (i + 1) Lw = growS T n i (iter (growS T n) i Lw) := rfl
          generalize iter (growS T n) i Lw = Li at hC hwi hnx ⊢
          refine Ok.s (X2_isPledged hC hi2) ?_
          by_cases c6 : Li 6 i = 1
          · refine Ok.t (decide_eq_true c6) ?_
            rw [grow_t c6] at hnx
            refine Ok.s (hC.rdL (k := 8) (by decide) hi2) ?_
            refine Ok.b (X2_growthOf hC hwi ha (hT.a18 ha hF) hW hi2) (fun q hq => ?_)
            obtain ⟨v, ν2⟩ := q
            obtain ⟨rfl, hF5⟩ := hq
            dsimp only at hF5 ⊢
            refine Ok.s J9_min ?_
            refine Ok.s (wr_nI (by omega) (by decide)) ?_
            unfold f_X2_liveOn_j74_26
            refine Ok.c hi2 ?_
            rw [hnx]
            exact ⟨nI_1 _, (hC.of5 ha hF5).set (by decide) (by omega), (hF.trans (hF5.mono fun k hk => Or.inr hk)).put (Or.inl (by unfold sA; omega))⟩
          · refine Ok.e (by simp [c6]) ?_
            rw [grow_f c6] at hnx
            unfold f_X2_liveOn_j74_26
            refine Ok.c hi2 ?_
            rw [hnx]
            exact ⟨nI_1 _, hC, hF⟩
      · obtain ⟨hC3, hF4⟩ := hν
        have hw4 : WF n (iter (growS T n) (2 * n) Lw) := hw3.grows hW (Nat.le_refl _)
        unfold dueA at hnext
        generalize iter (growS T n) (2 * n) Lw = Lg at hC3 hw4 hnext ⊢
        unfold f_X2_liveOn_j80_6 f_X2_liveOn_l83
        refine Ok.loop (fun i z => z.1 = nI i ∧ CL n f z.2 a (iter dueS i Lg) ∧ Fr (sD a) μ z.2) (fun ν => CL n f ν a (iter dueS (2 * n) Lg) ∧ Fr (sD a) μ ν) (2 * n) (by omega) ⟨rfl, hC3, hF4⟩ (fun i z hi hI => ?_) (fun ν4 hν => ?_)
        · obtain ⟨c, ν⟩ := z
          obtain ⟨e1, hC, hF⟩ := hI
          dsimp only at e1 hC hF
          have hwi : WF n (iter dueS i Lg) := hw4.calls hn hi
          subst e1
          show Ok (f_X2_liveOn_b83 ν a 48 (nI k) dr _ (nI j) (nI i)) _
          unfold f_X2_liveOn_b83
          by_cases hc : i = 2 * n
          · subst hc
            exact Ok.t hC.ge2 (Ok.d ⟨hC, hF⟩)
          · have hi2 : i < 2 * n := by omega
            refine Ok.e (hC.lt2 hi2) ?_
            have hnx : iter dueS (i + 1) Lg = dueS i (iter dueS i Lg) := rfl
            generalize iter dueS i Lg = Li at hC hwi hnx ⊢
            refine Ok.s (X2_isPledged hC hi2) ?_
            by_cases c6 : Li 6 i = 1
            · refine Ok.t (decide_eq_true c6) ?_
              refine Ok.s (hC.rdL (k := 10) (by decide) hi2) ?_
              rw [hC.at0 (i := 2) (by decide)]
              by_cases c7 : Li 0 2 < Li 10 i
              · refine Ok.t c7 ?_
                rw [due_w c6 c7] at hnx
                unfold f_X2_liveOn_j123_83
                refine Ok.c hi2 ?_
                rw [hnx]
                exact ⟨nI_1 _, hC, hF⟩
              · refine Ok.e c7 ?_
                rw [due_s c6 c7] at hnx
                refine Ok.b (X2_settle hC hwi hi2 ((hwi.lace hi2).pledged c6)) (fun ν2 hq => ?_)
                unfold f_X2_liveOn_j123_83
                refine Ok.c hi2 ?_
                rw [hnx]
                exact ⟨nI_1 _, hq.1, hF.trans (hq.2.mono fun k hk => Or.inl hk)⟩
            · refine Ok.e (by simp [c6]) ?_
              rw [due_f c6] at hnx
              unfold f_X2_liveOn_j123_83
              refine Ok.c hi2 ?_
              rw [hnx]
              exact ⟨nI_1 _, hC, hF⟩
        · obtain ⟨hC4, hF5⟩ := hν
          generalize iter dueS (2 * n) Lg = Lc at hC4 hnext ⊢
          unfold f_X2_liveOn_j129_6
          rw [hC4.at0 (i := 2) (by decide)]
          refine Ok.s J9_min ?_
          refine Ok.c hj2 ?_
          rw [hnext]
          exact ⟨rfl, nI_1 _, hC4.set (k := 0) (by decide) (by omega), hF5.put (Or.inl (by unfold sA; omega))⟩
  · obtain ⟨acc, ν⟩ := t
    obtain ⟨e1, hC, hF⟩ := ht
    dsimp only at e1 hC hF
    subst e1
    show Ok (f_X2_liveOn_j151 ν a 48 _) _
    unfold f_X2_liveOn_j151
    rw [hC.2.2.1]
    exact Ok.r ⟨rfl, hC.setf, hF.put (Or.inl (by unfold sA; omega))⟩
/-! the model's -/
theorem X12_drawn (h : ML n f (μ 265) L) : Ok (f_X12_drawn μ 100) (fun q => q.1 = dieA (seedA L) ∧ ML n f (q.2 265) (upd2 L 0 4 (seedA L)) ∧ Ms s65 μ q.2) := by
  unfold f_X12_drawn
  refine Ok.s (h.rd0 4 7 rfl rfl (by decide)) ?_
  refine Ok.s (wr_k 7 rfl (by decide) (by decide)) ?_
  refine Ok.s (a := seedA L) (by rw [rd_k (k := 7) 7 rfl (by decide) (by decide), mset_at]; rfl) ?_
  refine Ok.s (rm100 _) ?_
  exact Ok.r ⟨rfl, h.put (k := 0) (dm0 (by decide)) (by decide) (by decide) rfl, Ms.set (S := s65) rfl (by decide) (by decide)⟩
theorem X12_falls (h : ML n f (μ 265) L) {p : Nat} (hp : p < n) : Ok (f_X12_falls μ (nI p)) (fun μ' => ML n (f + 1) (μ' 265) (fallA L p) ∧ Ms s65 μ μ') := by
  have hn := h.n6
  unfold f_X12_falls
  refine Ok.s (X12_atN (k := 0)) ?_
  refine Ok.s (X12_of0 h hp) ?_
  refine Ok.s (h.rd0 3 4 rfl rfl (by decide)) ?_
  refine Ok.s J9_max ?_
  refine Ok.s (wr_nI (by omega) (by decide)) ?_
  have c1 : ML n f (mset μ 265 (28 + 5 * p + 0) (mx 0 (L 1 p - L 0 3)) 265) (upd2 L 1 p (mx 0 (L 1 p - L 0 3))) := h.putP (k := 1) (by decide) hp rfl
  refine Ok.s (X12_atN (k := 4)) ?_
  refine Ok.s (a := L 5 p) (X12_of4 c1 hp) ?_
  refine Ok.s J9_min ?_
  refine Ok.s (wr_nI (by omega) (by decide)) ?_
  have c2 := c1.putP (k := 5) (p := p) (j := 28 + 5 * p + 4) (v := mn 9 (L 5 p + 1)) (by decide) hp rfl
  refine Ok.s (a := f) (by rw [rd_k (k := 5) 5 rfl (by decide) (by decide)]; exact congrArg some c2.2.2) ?_
  refine Ok.s (wr_k 5 rfl (by decide) (by decide)) ?_
  refine Ok.r ⟨?_, ((Ms.set (S := s65) rfl (by omega) (by omega)).put rfl (by omega) (by omega)).put rfl (by decide) (by decide)⟩
  rw [mset_eq]
  exact c2.setf
theorem on_eq : ∀ x, x < 20 → ∀ g, g < 20 → ∀ w, w < 10 → nI x + (if 0 ≤ (nI g - nI x) then mn (if 0 ≤ nI g - nI x then nI g - nI x else -(nI g - nI x)) (nI w) else -(mn (if 0 ≤ nI g - nI x then nI g - nI x else -(nI g - nI x)) (nI w))) = goA (nI g) (nI x) (nI w) := by decide +kernel
theorem X12_walksOn (h : ML n f (μ 265) L) (hw : WF n L) (hT : LM (μ 265) T) (hW : WT T) {p : Nat} (hp : p < n) : Ok (f_X12_walksOn μ (nI p)) (fun μ' => ML n f (μ' 265) (stepA L p (walkA T n L p)) ∧ Ms s72 μ μ') := by
  have hn := h.n6
  obtain ⟨x, hx, ex⟩ := (hw.man hp).2.2.1
  obtain ⟨y, hy, ey⟩ := (hw.man hp).2.2.2.1
  obtain ⟨w, hw9, ew⟩ := walkA_nI (n := n) hW hw hp
  unfold f_X12_walksOn
  refine Ok.s (X12_of3 h hp) ?_
  refine Ok.s (X12_of2 h hp) ?_
  refine Ok.s (a := if 0 ≤ L 4 p - L 3 p then L 4 p - L 3 p else -(L 4 p - L 3 p)) rfl ?_
  refine Ok.b (X12_walksBy h hw hT hW hp) (fun q hq => ?_)
  obtain ⟨v, ν⟩ := q
  obtain ⟨rfl, hF⟩ := hq
  dsimp only at hF ⊢
  have f65 : ν 265 = μ 265 := hF 265 (by decide)
  have h2 : ML n f (ν 265) L := by rw [f65]; exact h
  refine Ok.s J9_min ?_
  refine Ok.s (X12_atN (k := 2)) ?_
  refine Ok.s (a := L 3 p) (by rw [rd_nI (by omega) (by decide)]; exact congrArg some (h2.atP (k := 3) (by decide) hp)) ?_
  refine Ok.s (wr_nI (by omega) (by decide)) ?_
  refine Ok.r ⟨?_, ((Ms.of hF f65).mono fun k hk => Or.inr hk).put (Or.inl rfl) (by omega) (by omega)⟩
  have e : L 3 p + (if 0 ≤ L 4 p - L 3 p then mn (if 0 ≤ L 4 p - L 3 p then L 4 p - L 3 p else -(L 4 p - L 3 p)) (walkA T n L p) else -(mn (if 0 ≤ L 4 p - L 3 p then L 4 p - L 3 p else -(L 4 p - L 3 p)) (walkA T n L p))) = goA (L 4 p) (L 3 p) (walkA T n L p) := by
    rw [ex, ey, ew]; exact on_eq x (by omega) y (by omega) w (by omega)
  rw [e]
  exact h2.putP (k := 3) (by decide) hp rfl
theorem X12_oneDay (h : ML n f (μ 265) L) (hw : WF n L) (hT : LM (μ 265) T) (hW : WT T) {st dr : Bool} (hd : dr = !st) : Ok (f_X12_oneDay μ st) (fun μ' => ML n (f + (dayA dr T n L).2) (μ' 265) (dayA dr T n L).1 ∧ Ms s72 μ μ') := by
  have hn := h.n6
  unfold f_X12_oneDay f_X12_oneDay_l2
  refine Ok.loop (fun j z => z.1 = nI j ∧ ML n (f + (iter (oneA dr T n) j (L, 0)).2) (z.2 265) (iter (oneA dr T n) j (L, 0)).1 ∧ Ms s72 μ z.2) (fun ν => ML n (f + (walkersA dr T n L).2) (ν 265) (walkersA dr T n L).1 ∧ Ms s72 μ ν) n (by omega) ⟨rfl, by show ML n (f + 0) _ _; rw [Int32.add_zero]; exact h, Ms.refl⟩ (fun j z hj hI => ?_) (fun ν hν => ?_)
  · obtain ⟨c, ν⟩ := z
    obtain ⟨e2, hC, hF⟩ := hI
    dsimp only at e2 hC hF
    have hw2 : WF n (iter (oneA dr T n) j (L, 0)).1 := hw.ones hW hj
    subst e2
    show Ok (f_X12_oneDay_b2 ν st (nI j)) _
    unfold f_X12_oneDay_b2
    refine Ok.s (X12_people hC) ?_
    by_cases hc : j = n
    · subst hc
      exact Ok.t (nI_le (Nat.le_refl _) (by omega)) (Ok.d ⟨hC, hF⟩)
    · have hj2 : j < n := by omega
      refine Ok.e (nI_ge hj2 (by omega)) ?_
      have hnext : iter (oneA dr T n) (j + 1) (L, 0) = oneA dr T n j (iter (oneA dr T n) j (L, 0)) := rfl
      generalize iter (oneA dr T n) j (L, 0) = s at hC hw2 hnext ⊢
      refine Ok.s (X12_isThere hC hj2) ?_
      by_cases c3 : s.1 3 j = s.1 4 j
      · refine Ok.t (if_pos c3) ?_
        rw [one_eq c3] at hnext
        refine Ok.c hj2 ?_
        rw [hnext]
        exact ⟨nI_1 _, hC, hF⟩
      · refine Ok.e (by rw [if_neg c3]; decide) ?_
        have go : ∀ (ν2 : Mem) (L2 : Ld), ML n (f + s.2) (ν2 265) L2 → WF n L2 → Ms s72 μ ν2 → iter (oneA dr T n) (j + 1) (L, 0) = (stepA L2 j (walkA T n L2 j), s.2) → Ok (f_X12_oneDay_j47_2 ν2 st (nI j)) (LoopP (fun j z => z.1 = nI j ∧ ML n (f + (iter (oneA dr T n) j (L, 0)).2) (z.2 265) (iter (oneA dr T n) j (L, 0)).1 ∧ Ms s72 μ z.2) (fun ν => ML n (f + (walkersA dr T n L).2) (ν 265) (walkersA dr T n L).1 ∧ Ms s72 μ ν) n j) := by
          intro ν2 L2 hC2 hw3 hF2 hnx
          unfold f_X12_oneDay_j47_2
          refine Ok.b (X12_walksOn hC2 hw3 (hT.ms hF2) hW hj2) (fun ν3 hq => ?_)
          unfold f_X12_oneDay_j52_2
          refine Ok.c hj2 ?_
          rw [hnx]
          exact ⟨nI_1 _, hq.1, hF2.trans hq.2⟩
        cases st with
        | true =>
          subst hd
          refine Ok.t rfl ?_
          rw [show (!true) = false from rfl, one_still c3] at hnext
          exact go ν s.1 hC hw2 hF hnext
        | false =>
          subst hd
          refine Ok.e (by decide) ?_
          refine Ok.b (X12_drawn hC) (fun q hq => ?_)
          obtain ⟨v, ν2⟩ := q
          obtain ⟨rfl, hC2, hF2⟩ := hq
          dsimp only at hC2 hF2 ⊢
          have hFb := hF.trans (hF2.mono fun k hk => Or.inl hk)
          refine Ok.b (X12_fallsBy hC2 hw2.seed (hT.ms hFb) hW hj2) (fun q hq => ?_)
          obtain ⟨v, ν3⟩ := q
          obtain ⟨rfl, hF3⟩ := hq
          dsimp only at hF3 ⊢
          have f65 : ν3 265 = ν2 265 := hF3 265 (by decide)
          have hC3 : ML n (f + s.2) (ν3 265) (upd2 s.1 0 4 (seedA s.1)) := by rw [f65]; exact hC2
          have hFc := hFb.trans ((Ms.of hF3 f65).mono fun k hk => Or.inr hk)
          by_cases c4 : rateA T n (upd2 s.1 0 4 (seedA s.1)) j ≤ dieA (seedA s.1)
          · refine Ok.t c4 ?_
            rw [show (!false) = true from rfl, one_go c3 c4] at hnext
            exact go ν3 _ hC3 hw2.seed hFc hnext
          · refine Ok.e c4 ?_
            rw [show (!false) = true from rfl, one_fall c3 c4] at hnext
            refine Ok.b (X12_falls hC3 hj2) (fun ν4 hq => ?_)
            unfold f_X12_oneDay_j52_2
            refine Ok.c hj2 ?_
            dsimp only
            rw [show (!false) = true from rfl, hnext, ← Int32.add_assoc]
            exact ⟨nI_1 _, hq.1, hFc.trans (hq.2.mono fun k hk => Or.inl hk)⟩
  · obtain ⟨hC2, hF3⟩ := hν
    have hw3 : WF n (walkersA dr T n L).1 := hw.ones hW (Nat.le_refl _)
    have hday : dayA dr T n L = (upd2 (dueA T n (walkersA dr T n L).1) 0 2 (mn 9999 (dueA T n (walkersA dr T n L).1 0 2 + 1)), (walkersA dr T n L).2) := rfl
    rw [hday]
    generalize walkersA dr T n L = w at hC2 hw3 ⊢
    obtain ⟨Lw, cw⟩ := w
    dsimp only at hC2 hw3 ⊢
    generalize f + cw = f2 at hC2 ⊢
    unfold f_X12_oneDay_j58 f_X12_oneDay_l60
    refine Ok.loop (fun i z => z.1 = nI i ∧ ML n f2 (z.2 265) (iter (growS T n) i Lw) ∧ Ms s72 μ z.2) (fun ν => ML n f2 (ν 265) (iter (growS T n) (2 * n) Lw) ∧ Ms s72 μ ν) (2 * n) (by omega) ⟨rfl, hC2, hF3⟩ (fun i z hi hI => ?_) (fun ν3 hν => ?_)
    · obtain ⟨c, ν⟩ := z
      obtain ⟨e1, hC, hF⟩ := hI
      dsimp only at e1 hC hF
      have hwi : WF n (iter (growS T n) i Lw) := hw3.grows hW hi
      subst e1
      show Ok (f_X12_oneDay_b60 ν (nI i)) _
      unfold f_X12_oneDay_b60
      refine Ok.s (X12_laces hC) ?_
      by_cases hc : i = 2 * n
      · subst hc
        exact Ok.t (nI_le (Nat.le_refl _) (by omega)) (Ok.d ⟨hC, hF⟩)
      · have hi2 : i < 2 * n := by omega
        refine Ok.e (nI_ge hi2 (by omega)) ?_
        have hnx : iter (growS T n) (i + 1) Lw = growS T n i (iter (growS T n) i Lw) := rfl
        generalize iter (growS T n) i Lw = Li at hC hwi hnx ⊢
        refine Ok.s (X12_isPledged hC hi2) ?_
        by_cases c6 : Li 6 i = 1
        · refine Ok.t (decide_eq_true c6) ?_
          rw [grow_t c6] at hnx
          refine Ok.s (X12_laceAtN (k := 2)) ?_
          refine Ok.s (X12_lace2 hC hi2) ?_
          refine Ok.b (X12_growsBy hC hwi (hT.ms hF) hW hi2) (fun q hq => ?_)
          obtain ⟨v, ν2⟩ := q
          obtain ⟨rfl, hF5⟩ := hq
          dsimp only at hF5 ⊢
          have f65 : ν2 265 = ν 265 := hF5 265 (by decide)
          refine Ok.s J9_min ?_
          refine Ok.s (wr_nI (by omega) (by decide)) ?_
          unfold f_X12_oneDay_j104_60
          refine Ok.c hi2 ?_
          rw [hnx]
          exact ⟨nI_1 _, ML.putL (k := 8) (by rw [f65]; exact hC) (by decide) hi2 rfl, (hF.trans ((Ms.of hF5 f65).mono fun k hk => Or.inr hk)).put (Or.inl rfl) (by omega) (by omega)⟩
        · refine Ok.e (by simp [c6]) ?_
          rw [grow_f c6] at hnx
          unfold f_X12_oneDay_j104_60
          refine Ok.c hi2 ?_
          rw [hnx]
          exact ⟨nI_1 _, hC, hF⟩
    · obtain ⟨hC3, hF4⟩ := hν
      have hw4 : WF n (iter (growS T n) (2 * n) Lw) := hw3.grows hW (Nat.le_refl _)
      unfold dueA
      generalize iter (growS T n) (2 * n) Lw = Lg at hC3 hw4 ⊢
      unfold f_X12_oneDay_j110 f_X12_oneDay_l112
      refine Ok.loop (fun i z => z.1 = nI i ∧ ML n f2 (z.2 265) (iter dueS i Lg) ∧ Ms s72 μ z.2) (fun ν => ML n f2 (ν 265) (iter dueS (2 * n) Lg) ∧ Ms s72 μ ν) (2 * n) (by omega) ⟨rfl, hC3, hF4⟩ (fun i z hi hI => ?_) (fun ν4 hν => ?_)
      · obtain ⟨c, ν⟩ := z
        obtain ⟨e1, hC, hF⟩ := hI
        dsimp only at e1 hC hF
        have hwi : WF n (iter dueS i Lg) := hw4.calls hn hi
        subst e1
        show Ok (f_X12_oneDay_b112 ν (nI i)) _
        unfold f_X12_oneDay_b112
        refine Ok.s (X12_laces hC) ?_
        by_cases hc : i = 2 * n
        · subst hc
          exact Ok.t (nI_le (Nat.le_refl _) (by omega)) (Ok.d ⟨hC, hF⟩)
        · have hi2 : i < 2 * n := by omega
          refine Ok.e (nI_ge hi2 (by omega)) ?_
          have hnx : iter dueS (i + 1) Lg = dueS i (iter dueS i Lg) := rfl
          generalize iter dueS i Lg = Li at hC hwi hnx ⊢
          refine Ok.s (X12_isPledged hC hi2) ?_
          by_cases c6 : Li 6 i = 1
          · refine Ok.t (decide_eq_true c6) ?_
            refine Ok.s (X12_lace4 hC hi2) ?_
            refine Ok.s (hC.rd0 2 3 rfl rfl (by decide)) ?_
            by_cases c7 : Li 0 2 < Li 10 i
            · refine Ok.t c7 ?_
              rw [due_w c6 c7] at hnx
              unfold f_X12_oneDay_j148_112
              refine Ok.c hi2 ?_
              rw [hnx]
              exact ⟨nI_1 _, hC, hF⟩
            · refine Ok.e c7 ?_
              rw [due_s c6 c7] at hnx
              refine Ok.b (X12_isCalled hC hi2 ((hwi.lace hi2).pledged c6)) (fun ν2 hq => ?_)
              unfold f_X12_oneDay_j148_112
              refine Ok.c hi2 ?_
              rw [hnx]
              exact ⟨nI_1 _, hq.1, hF.trans (hq.2.mono fun k hk => Or.inl hk)⟩
          · refine Ok.e (by simp [c6]) ?_
            rw [due_f c6] at hnx
            unfold f_X12_oneDay_j148_112
            refine Ok.c hi2 ?_
            rw [hnx]
            exact ⟨nI_1 _, hC, hF⟩
      · obtain ⟨hC4, hF5⟩ := hν
        generalize iter dueS (2 * n) Lg = Lc at hC4 ⊢
        unfold f_X12_oneDay_j154
        refine Ok.s (hC4.rd0 2 3 rfl rfl (by decide)) ?_
        refine Ok.s J9_min ?_
        refine Ok.s (wr_k 3 rfl (by decide) (by decide)) ?_
        exact Ok.r ⟨hC4.put (k := 0) (dm0 (by decide)) (by decide) (by decide) rfl, hF5.put (Or.inl rfl) (by decide) (by decide)⟩
end Day
