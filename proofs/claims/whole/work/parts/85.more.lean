/-! A PERSON MORE -/
def CLd (D : Nat → Nat → Prop) (μ : Mem) (a : Nat) (L : Ld) : Prop := ∀ k i, D k i → craw μ a k i = L k i
def MLd (D : Nat → Nat → Prop) (w : Nat → Int32) (L : Ld) : Prop := ∀ k i, D k i → w (midx k i) = L k i
theorem CLd.put {D : Nat → Nat → Prop} {μ : Mem} {a : Nat} {L : Ld} (h : CLd D μ a L) {k i : Nat} {v : Int32} (hk : k ≤ 12) : CLd (fun k' i' => D k' i' ∨ (k' = k ∧ i' = i)) (mset μ (a + k) i v) a (upd2 L k i v) := fun k' i' hd => by
  unfold craw
  rw [mset_ne (show a + 13 ≠ a + k by omega), mset_ne (show a + 14 ≠ a + k by omega)]
  by_cases e : k' = k ∧ i' = i
  · obtain ⟨rfl, rfl⟩ := e
    rw [if_pos hk, mset_at, upd2_at]
  · have h5 := h k' i' (hd.elim id (fun q => absurd q e))
    unfold craw at h5
    rw [upd2_n (by omega), ← h5]
    by_cases hk' : k' ≤ 12
    · rw [if_pos hk', if_pos hk']
      by_cases e1 : k' = k
      · subst e1
        rw [mset_atn (fun q => e ⟨rfl, q⟩)]
      · rw [mset_ne (by omega)]
    · rw [if_neg hk', if_neg hk']
theorem MLd.put {D : Nat → Nat → Prop} {w : Nat → Int32} {L : Ld} {z : Nat} (h : MLd D w L) (hD : ∀ k i, D k i → dm 6 z k i) {k i j : Nat} {v : Int32} (hd : dm 6 z k i) (hj : midx k i = j) : MLd (fun k' i' => D k' i' ∨ (k' = k ∧ i' = i)) (upd w j v) (upd2 L k i v) ∧ ∀ k' i', (D k' i' ∨ (k' = k ∧ i' = i)) → dm 6 z k' i' := by
  refine ⟨fun k' i' hd' => ?_, fun k' i' hd' => ?_⟩
  · by_cases e : k' = k ∧ i' = i
    · obtain ⟨rfl, rfl⟩ := e
      rw [hj, pk_us, upd2_at]
    · have h1 : D k' i' := hd'.elim id (fun q => absurd q e)
      rw [pk_un (fun q => e (midx_inj (Nat.le_refl 6) (hD _ _ h1) hd (q.trans hj.symm))), upd2_n (by omega)]
      exact h k' i' h1
  · rcases hd' with q | ⟨rfl, rfl⟩
    · exact hD _ _ q
    · exact hd
def addP (L : Ld) (n : Nat) (x y z : Int32) : Ld := upd2 (rowA (rowA (upd2 (upd2 (upd2 (upd2 (upd2 L 1 n x) 2 n y) 3 n z) 4 n z) 5 n 0) (2 * n) 0 (-1) 0 0 0 (-1)) (2 * n + 1) 0 (-1) 0 0 0 (-1)) 0 0 (nI (n + 1))
theorem addP_old {L : Ld} {n k i : Nat} {x y z : Int32} (h0 : ¬ (k = 0 ∧ i = 0)) (hp : 1 ≤ k → k ≤ 5 → i ≠ n) (hl : 6 ≤ k → k ≤ 11 → i ≠ 2 * n ∧ i ≠ 2 * n + 1) : addP L n x y z k i = L k i := by
  unfold addP rowA
  rw [upd2_n (by omega), upd2_n (by omega), upd2_n (by omega), upd2_n (by omega), upd2_n (by omega), upd2_n (by omega), upd2_n (by omega), upd2_n (by omega), upd2_n (by omega), upd2_n (by omega), upd2_n (by omega), upd2_n (by omega), upd2_n (by omega), upd2_n (by omega), upd2_n (by omega), upd2_n (by omega), upd2_n (by omega), upd2_n (by omega)]
theorem addP_p {L : Ld} {n : Nat} {x y z : Int32} : addP L n x y z 1 n = x ∧ addP L n x y z 2 n = y ∧ addP L n x y z 3 n = z ∧ addP L n x y z 4 n = z ∧ addP L n x y z 5 n = 0 ∧ addP L n x y z 0 0 = nI (n + 1) := by
  unfold addP rowA upd2
  simp
theorem addP_l {L : Ld} {n : Nat} {x y z : Int32} : InShoe (2 * n) (addP L n x y z) ∧ InShoe (2 * n + 1) (addP L n x y z) := by
  unfold InShoe addP rowA upd2
  simp
theorem zz_addP {L : Ld} {n : Nat} {x y z : Int32} : zz (addP L n x y z) = zz L := rfl
theorem Pledged.more {n l : Nat} {L : Ld} (h : Pledged n l L) : Pledged (n + 1) l L := by
  obtain ⟨h1, q, h2, h3, h4, h5, h6, h7, h8⟩ := h
  refine ⟨h1, q, by omega, h3, h4, h5, h6, h7, ?_⟩
  rcases h8 with e | ⟨s, s1, s2⟩
  · exact Or.inl e
  · exact Or.inr ⟨s, by omega, s2⟩
theorem LaceW.more {n l : Nat} {L : Ld} (h : LaceW n l L) : LaceW (n + 1) l L := by
  rcases h with h | h | ⟨h1, q, h2, h3⟩
  · exact Or.inl h
  · exact Or.inr (Or.inl h.more)
  · exact Or.inr (Or.inr ⟨h1, q, by omega, h3⟩)
theorem WF.add {n : Nat} {L : Ld} (h : WF n L) {x y z : Nat} (hx : x ≤ 999) (hy1 : 1 ≤ y) (hy : y ≤ 9) (hz : z ≤ 19) : WF (n + 1) (addP L n (nI x) (nI y) (nI z)) := by
  obtain ⟨p1, p2, p3, p4, p5, -⟩ := addP_p (L := L) (n := n) (x := nI x) (y := nI y) (z := nI z)
  obtain ⟨l1, l2⟩ := addP_l (L := L) (n := n) (x := nI x) (y := nI y) (z := nI z)
  obtain ⟨h1, h2, h3, h4, h5, h6, h7⟩ := h
  refine ⟨?_, ?_, ?_, fun p hp => ?_, fun l hl => ?_, fun k hk => ?_, fun q hq => ?_⟩
  · rw [addP_old (by omega) (by omega) (by omega)]; exact h1
  · rw [addP_old (by omega) (by omega) (by omega)]; exact h2
  · rw [addP_old (by omega) (by omega) (by omega)]; exact h3
  · by_cases e : p = n
    · subst e
      exact ⟨⟨x, hx, p1⟩, ⟨y, hy1, hy, p2⟩, ⟨z, hz, p3⟩, ⟨z, hz, p4⟩, ⟨0, by decide, p5⟩⟩
    · exact (h4 p (by omega)).congr fun k k1 k2 => addP_old (by omega) (fun _ _ => e) (by omega)
  · by_cases e1 : l = 2 * n
    · subst e1; exact Or.inl l1
    · by_cases e2 : l = 2 * n + 1
      · subst e2; exact Or.inl l2
      · exact (h5 l (by omega)).more.congr fun k k1 k2 => addP_old (by omega) (by omega) (fun _ _ => ⟨e1, e2⟩)
  · exact (h6 k hk).congr fun j j1 j2 => addP_old (by omega) (by omega) (by omega)
  · rw [addP_old (by omega) (by omega) (by omega)]; exact h7 q hq
theorem dom5 {D : Nat → Nat → Prop} {n : Nat} : ∀ k i, (D k i ∨ (1 ≤ k ∧ k ≤ 5 ∧ i = n)) → ((((((D k i ∨ (k = 1 ∧ i = n)) ∨ (k = 2 ∧ i = n)) ∨ (k = 3 ∧ i = n)) ∨ (k = 4 ∧ i = n)) ∨ (k = 5 ∧ i = n))) := fun k i hd => by
      rcases hd with q | ⟨q1, q2, rfl⟩
      · exact Or.inl (Or.inl (Or.inl (Or.inl (Or.inl (q)))))
      · rcases (show k = 1 ∨ k = 2 ∨ k = 3 ∨ k = 4 ∨ k = 5 by omega) with rfl | rfl | rfl | rfl | rfl
        · exact Or.inl (Or.inl (Or.inl (Or.inl (Or.inr ⟨rfl, rfl⟩))))
        · exact Or.inl (Or.inl (Or.inl (Or.inr ⟨rfl, rfl⟩)))
        · exact Or.inl (Or.inl (Or.inr ⟨rfl, rfl⟩))
        · exact Or.inl (Or.inr ⟨rfl, rfl⟩)
        · exact Or.inr ⟨rfl, rfl⟩
theorem dom6 {D : Nat → Nat → Prop} {l : Nat} : ∀ k i, (D k i ∨ (6 ≤ k ∧ k ≤ 11 ∧ i = l)) → (((((((D k i ∨ (k = 6 ∧ i = l)) ∨ (k = 7 ∧ i = l)) ∨ (k = 8 ∧ i = l)) ∨ (k = 9 ∧ i = l)) ∨ (k = 10 ∧ i = l)) ∨ (k = 11 ∧ i = l))) := fun k i hd => by
      rcases hd with q | ⟨q1, q2, rfl⟩
      · exact Or.inl (Or.inl (Or.inl (Or.inl (Or.inl (Or.inl (q))))))
      · rcases (show k = 6 ∨ k = 7 ∨ k = 8 ∨ k = 9 ∨ k = 10 ∨ k = 11 by omega) with rfl | rfl | rfl | rfl | rfl | rfl
        · exact Or.inl (Or.inl (Or.inl (Or.inl (Or.inl (Or.inr ⟨rfl, rfl⟩)))))
        · exact Or.inl (Or.inl (Or.inl (Or.inl (Or.inr ⟨rfl, rfl⟩))))
        · exact Or.inl (Or.inl (Or.inl (Or.inr ⟨rfl, rfl⟩)))
        · exact Or.inl (Or.inl (Or.inr ⟨rfl, rfl⟩))
        · exact Or.inl (Or.inr ⟨rfl, rfl⟩)
        · exact Or.inr ⟨rfl, rfl⟩
