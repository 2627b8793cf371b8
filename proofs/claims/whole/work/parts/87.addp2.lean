/-! A PERSON MORE: the model -/
theorem MLd.five {D : Nat → Nat → Prop} {w : Nat → Int32} {L : Ld} {z n : Nat} (h : MLd D w L) (hD : ∀ k i, D k i → dm 6 z k i) (hn : n < 6) (x y u v t : Int32) : MLd (fun k i => D k i ∨ (1 ≤ k ∧ k ≤ 5 ∧ i = n)) (upd (upd (upd (upd (upd w (28 + 5 * n + 0) x) (28 + 5 * n + 1) y) (28 + 5 * n + 2) u) (28 + 5 * n + 3) v) (28 + 5 * n + 4) t) (upd2 (upd2 (upd2 (upd2 (upd2 L 1 n x) 2 n y) 3 n u) 4 n v) 5 n t) := by
  have dP : ∀ k, 1 ≤ k → k ≤ 5 → dm 6 z k n := fun k h1 h2 => dmP h1 h2 hn
  have mP : ∀ k, 1 ≤ k → k ≤ 5 → midx k n = 28 + 5 * n + (k - 1) := fun k h1 h2 => midxP h1 h2
  obtain ⟨r1, d1⟩ := h.put hD (k := 1) (i := n) (v := x) (dP 1 (by decide) (by decide)) (mP 1 (by decide) (by decide))
  obtain ⟨r2, d2⟩ := r1.put d1 (k := 2) (i := n) (v := y) (dP 2 (by decide) (by decide)) (mP 2 (by decide) (by decide))
  obtain ⟨r3, d3⟩ := r2.put d2 (k := 3) (i := n) (v := u) (dP 3 (by decide) (by decide)) (mP 3 (by decide) (by decide))
  obtain ⟨r4, d4⟩ := r3.put d3 (k := 4) (i := n) (v := v) (dP 4 (by decide) (by decide)) (mP 4 (by decide) (by decide))
  obtain ⟨r5, d5⟩ := r4.put d4 (k := 5) (i := n) (v := t) (dP 5 (by decide) (by decide)) (mP 5 (by decide) (by decide))
  exact fun k i hd => r5 k i (dom5 (D := D) k i hd)
theorem MLd.six {D : Nat → Nat → Prop} {w : Nat → Int32} {L : Ld} {z l : Nat} (h : MLd D w L) (hD : ∀ k i, D k i → dm 6 z k i) (hl : l < 12) (x y u v s t : Int32) : MLd (fun k i => D k i ∨ (6 ≤ k ∧ k ≤ 11 ∧ i = l)) (upd (upd (upd (upd (upd (upd w (58 + 6 * l + 0) x) (58 + 6 * l + 1) y) (58 + 6 * l + 2) u) (58 + 6 * l + 3) v) (58 + 6 * l + 4) s) (58 + 6 * l + 5) t) (rowA L l x y u v s t) := by
  have dL : ∀ k, 6 ≤ k → k ≤ 11 → dm 6 z k l := fun k h1 h2 => dmL h1 h2 (by omega)
  have mL : ∀ k, 6 ≤ k → k ≤ 11 → midx k l = 58 + 6 * l + (k - 6) := fun k h1 h2 => midxL h1 h2
  obtain ⟨a1, b1⟩ := h.put hD (k := 6) (i := l) (v := x) (dL 6 (by decide) (by decide)) (mL 6 (by decide) (by decide))
  obtain ⟨a2, b2⟩ := a1.put b1 (k := 7) (i := l) (v := y) (dL 7 (by decide) (by decide)) (mL 7 (by decide) (by decide))
  obtain ⟨a3, b3⟩ := a2.put b2 (k := 8) (i := l) (v := u) (dL 8 (by decide) (by decide)) (mL 8 (by decide) (by decide))
  obtain ⟨a4, b4⟩ := a3.put b3 (k := 9) (i := l) (v := v) (dL 9 (by decide) (by decide)) (mL 9 (by decide) (by decide))
  obtain ⟨a5, b5⟩ := a4.put b4 (k := 10) (i := l) (v := s) (dL 10 (by decide) (by decide)) (mL 10 (by decide) (by decide))
  obtain ⟨a6, b6⟩ := a5.put b5 (k := 11) (i := l) (v := t) (dL 11 (by decide) (by decide)) (mL 11 (by decide) (by decide))
  exact fun k i hd => a6 k i (dom6 (D := D) k i hd)
theorem Ms.putE {μ μ1 : Mem} {j : Nat} {v : Int32} (h : Ms s65 μ μ1) (h1 : j ≠ 2) (h2 : j < 370) : Ms s65 μ (mset μ1 265 j v) := h.trans (Ms.set rfl h1 h2)
/-- a lace comes back, at any memory -/
theorem X12_back6 {ν : Mem} {l : Nat} (hl : l < 12) : ∃ ν', f_X12_comesBack ν (nI l) = some ν' ∧ ν' 265 = upd (upd (upd (upd (upd (upd (ν 265) (58 + 6 * l + 0) 0) (58 + 6 * l + 1) (-1)) (58 + 6 * l + 2) 0) (58 + 6 * l + 3) 0) (58 + 6 * l + 4) 0) (58 + 6 * l + 5) (-1) ∧ Ms s65 ν ν' ∧ ∀ j, j < 28 → ν' 265 j = ν 265 j := by
  refine ⟨mset (mset (mset (mset (mset (mset ν 265 (58 + 6 * l + 0) 0) 265 (58 + 6 * l + 1) (-1)) 265 (58 + 6 * l + 2) 0) 265 (58 + 6 * l + 3) 0) 265 (58 + 6 * l + 4) 0) 265 (58 + 6 * l + 5) (-1), ?_, ?_, ?_, fun j hj => ?_⟩
  · unfold f_X12_comesBack
    refine bs (?_ : f_X12_tellsLace ν (nI l) 0 (-1) 0 0 0 = some _) rfl
    unfold f_X12_tellsLace
    exact bs (X12_laceAtN (k := 0)) (bs (wr_nI (by omega) (by decide)) (bs (X12_laceAtN (k := 1)) (bs (wr_nI (by omega) (by decide)) (bs (X12_laceAtN (k := 2)) (bs (wr_nI (by omega) (by decide)) (bs (X12_laceAtN (k := 3)) (bs (wr_nI (by omega) (by decide)) (bs (X12_laceAtN (k := 4)) (bs (wr_nI (by omega) (by decide)) (bs (X12_laceAtN (k := 5)) (bs (wr_nI (by omega) (by decide)) rfl)))))))))))
  · rw [mset_eq, mset_eq, mset_eq, mset_eq, mset_eq, mset_eq]
  · exact Ms.putE (Ms.putE (Ms.putE (Ms.putE (Ms.putE (Ms.putE (Ms.refl) (by omega) (by omega)) (by omega) (by omega)) (by omega) (by omega)) (by omega) (by omega)) (by omega) (by omega)) (by omega) (by omega)
  · rw [mset_atn (by omega), mset_atn (by omega), mset_atn (by omega), mset_atn (by omega), mset_atn (by omega), mset_atn (by omega)]
theorem X12_addPerson {n : Nat} {f : Int32} {ν : Mem} {L : Ld} (h : ML n f (ν 265) L) (hn : n < 6) (x y : Int32) {z : Nat} (hz : z < 2 ^ 31) : Ok (f_X12_readPerson_j57 ν (nI n) x y (nI z)) (fun q => q.1 = true ∧ ML (n + 1) f (q.2 265) (addP L n x y (nI z)) ∧ Ms s65 ν q.2) := by
  obtain ⟨g1, g2, g3⟩ := h
  have D0 : ∀ k i, dm n (zz L) k i → dm 6 (zz L) k i := fun k i hd => by unfold dm at hd ⊢; omega
  have q0 : MLd (fun k i => dm n (zz L) k i) (ν 265) L := g1
  have r1 := q0.five D0 hn x y (nI z) (nI z) 0
  have D1 : ∀ k i, (dm n (zz L) k i ∨ (1 ≤ k ∧ k ≤ 5 ∧ i = n)) → dm 6 (zz L) k i := fun k i hd => by
    rcases hd with q | ⟨q1, q2, rfl⟩
    · exact D0 k i q
    · exact dmP q1 q2 hn
  have r2 := r1.six D1 (l := 2 * n) (by omega) 0 (-1) 0 0 0 (-1)
  have D2 : ∀ k i, ((dm n (zz L) k i ∨ (1 ≤ k ∧ k ≤ 5 ∧ i = n)) ∨ (6 ≤ k ∧ k ≤ 11 ∧ i = 2 * n)) → dm 6 (zz L) k i := fun k i hd => by
    rcases hd with q | ⟨q1, q2, rfl⟩
    · exact D1 k i q
    · exact dmL q1 q2 (by omega)
  have r3 := r2.six D2 (l := 2 * n + 1) (by omega) 0 (-1) 0 0 0 (-1)
  have D3 : ∀ k i, (((dm n (zz L) k i ∨ (1 ≤ k ∧ k ≤ 5 ∧ i = n)) ∨ (6 ≤ k ∧ k ≤ 11 ∧ i = 2 * n)) ∨ (6 ≤ k ∧ k ≤ 11 ∧ i = 2 * n + 1)) → dm 6 (zz L) k i := fun k i hd => by
    rcases hd with q | ⟨q1, q2, rfl⟩
    · exact D2 k i q
    · exact dmL q1 q2 (by omega)
  have r4 := (r3.put D3 (k := 0) (i := 0) (j := 0) (v := nI (n + 1)) (dm0 (by decide)) rfl).1
  unfold f_X12_readPerson_j57
  refine Ok.t (nI_pos' hz) ?_
  refine Ok.s (X12_atN (k := 0)) (Ok.s (wr_nI (by omega) (by decide)) ?_)
  refine Ok.s (X12_atN (k := 1)) (Ok.s (wr_nI (by omega) (by decide)) ?_)
  refine Ok.s (X12_atN (k := 2)) (Ok.s (wr_nI (by omega) (by decide)) ?_)
  refine Ok.s (X12_atN (k := 3)) (Ok.s (wr_nI (by omega) (by decide)) ?_)
  refine Ok.s (X12_atN (k := 4)) (Ok.s (wr_nI (by omega) (by decide)) ?_)
  have w1 : mset (mset (mset (mset (mset ν 265 (28 + 5 * n + 0) x) 265 (28 + 5 * n + 1) y) 265 (28 + 5 * n + 2) (nI z)) 265 (28 + 5 * n + 3) (nI z)) 265 (28 + 5 * n + 4) 0 265 = upd (upd (upd (upd (upd (ν 265) (28 + 5 * n + 0) x) (28 + 5 * n + 1) y) (28 + 5 * n + 2) (nI z)) (28 + 5 * n + 3) (nI z)) (28 + 5 * n + 4) 0 := by
    rw [mset_eq, mset_eq, mset_eq, mset_eq, mset_eq]
  have s1 : Ms s65 ν (mset (mset (mset (mset (mset ν 265 (28 + 5 * n + 0) x) 265 (28 + 5 * n + 1) y) 265 (28 + 5 * n + 2) (nI z)) 265 (28 + 5 * n + 3) (nI z)) 265 (28 + 5 * n + 4) 0) := Ms.putE (Ms.putE (Ms.putE (Ms.putE (Ms.putE (Ms.refl) (by omega) (by omega)) (by omega) (by omega)) (by omega) (by omega)) (by omega) (by omega)) (by omega) (by omega)
  have z1 : ∀ j, j < 28 → mset (mset (mset (mset (mset ν 265 (28 + 5 * n + 0) x) 265 (28 + 5 * n + 1) y) 265 (28 + 5 * n + 2) (nI z)) 265 (28 + 5 * n + 3) (nI z)) 265 (28 + 5 * n + 4) 0 265 j = ν 265 j := fun j hj => by
    rw [mset_atn (by omega), mset_atn (by omega), mset_atn (by omega), mset_atn (by omega), mset_atn (by omega)]
  generalize mset (mset (mset (mset (mset ν 265 (28 + 5 * n + 0) x) 265 (28 + 5 * n + 1) y) 265 (28 + 5 * n + 2) (nI z)) 265 (28 + 5 * n + 3) (nI z)) 265 (28 + 5 * n + 4) 0 = ν1 at w1 s1 z1 ⊢
  rw [two_nI]
  obtain ⟨ν2, e2, w2, s2, z2⟩ := X12_back6 (ν := ν1) (l := 2 * n) (by omega)
  obtain ⟨ν3, e3, w3, s3, z3⟩ := X12_back6 (ν := ν2) (l := 2 * n + 1) (by omega)
  refine Ok.s e2 ?_
  rw [nI_1]
  refine Ok.s e3 ?_
  have hr0 : rd ν3 265 2068 0 = some (nI n) := by
    rw [rd_k (k := 0) 0 rfl (by decide) (by decide), z3 0 (by decide), z2 0 (by decide), z1 0 (by decide)]
    have := g1 0 0 (dm0 (by decide))
    rw [show midx 0 0 = 0 from rfl] at this
    rw [this, g2.2.1]
  refine Ok.s hr0 (Ok.s (wr_k 0 rfl (by decide) (by decide)) ?_)
  rw [nI_1]
  have s4 : Ms s65 ν (mset ν3 265 0 (nI (n + 1))) := Ms.putE (s1.trans (s2.trans s3)) (by decide) (by decide)
  have w4 : mset ν3 265 0 (nI (n + 1)) 265 = upd (ν3 265) 0 (nI (n + 1)) := mset_eq
  have e5 : mset ν3 265 0 (nI (n + 1)) 265 5 = f := by rw [mset_atn (by decide), z3 5 (by decide), z2 5 (by decide), z1 5 (by decide)]; exact g3
  rw [← w1, ← w2, ← w3, ← w4] at r4
  have sz : SzW (n + 1) (addP L n x y (nI z)) := ⟨by omega, addP_p.2.2.2.2.2, g2.2.2.1, g2.2.2.2⟩
  have hM : ML (n + 1) f (mset ν3 265 0 (nI (n + 1)) 265) (addP L n x y (nI z)) := ⟨fun k i hd => r4 k i (dmMore hd), sz, e5⟩
  exact Ok.r ⟨rfl, hM, s4⟩
