/-! THE MEMORY THAT THE CONSTRUCTORS LEAVE -/
theorem muC_ne : ∀ (l : Nat) {b : Nat}, b ≠ 265 → muC l b = mu0 b
  | 0, _, h => by
    show mset (mset mu0 265 4 5) 265 7 1 _ = _
    rw [mset_ne h, mset_ne h]
  | l + 1, _, h => by
    show mset (mset (mset (mset (mset (mset (muC l) 265 (58 + 6 * l) 0) 265 (58 + 6 * l + 1) (-1)) 265 (58 + 6 * l + 2) 0) 265 (58 + 6 * l + 3) 0) 265 (58 + 6 * l + 4) 0) 265 (58 + 6 * l + 5) (-1) _ = _
    rw [mset_ne h, mset_ne h, mset_ne h, mset_ne h, mset_ne h, mset_ne h]
    exact muC_ne l h
def L00 : Ld := fun k i => if k = 0 then (if i = 3 then 5 else if i = 4 then 1 else 0) else 0
def T00 : Tx := fun _ _ => 0
theorem dm00 {k i : Nat} (h : dm 0 (zz L00) k i) : (k = 0 ∧ i < 5) ∨ (k = 12 ∧ i < 20) ∨ (k = 13 ∧ i = 0) := by
  have hz : zz L00 = 0 := by decide +kernel
  rw [hz] at h
  unfold dm at h
  omega
theorem sz00 : SzW 0 L00 := ⟨by decide, by decide +kernel, by decide +kernel, by decide +kernel⟩
theorem cl00 : CL 0 0 (muC 12) 3 L00 := by
  have h1 : ∀ i, i < 5 → craw (muC 12) 3 0 i = L00 0 i := by decide +kernel
  have h2 : ∀ i, i < 20 → craw (muC 12) 3 12 i = L00 12 i := by decide +kernel
  refine ⟨fun k i h => ?_, sz00, by decide +kernel, 0, by decide, by decide +kernel⟩
  rcases dm00 h with ⟨rfl, h9⟩ | ⟨rfl, h9⟩ | ⟨rfl, rfl⟩
  · exact h1 i h9
  · exact h2 i h9
  · decide +kernel
theorem ml00 : ML 0 0 (muC 12 265) L00 := by
  have h1 : ∀ i, i < 5 → muC 12 265 (midx 0 i) = L00 0 i := by decide +kernel
  have h2 : ∀ i, i < 20 → muC 12 265 (midx 12 i) = L00 12 i := by decide +kernel
  refine ⟨fun k i h => ?_, sz00, by decide +kernel⟩
  rcases dm00 h with ⟨rfl, h9⟩ | ⟨rfl, h9⟩ | ⟨rfl, rfl⟩
  · exact h1 i h9
  · exact h2 i h9
  · decide +kernel
theorem wf00 : WF 0 L00 := by
  have hz : zz L00 = 0 := by decide +kernel
  refine ⟨⟨0, by decide, rfl⟩, ⟨0, by decide, rfl⟩, ⟨5, by decide, rfl⟩, fun p h => absurd h (by omega), fun l h => absurd h (by omega), fun k h => absurd h (by omega), fun q _ => ⟨0, by decide, rfl⟩⟩
theorem wt00 : WT T00 := ⟨by decide, fun _ => rfl, by decide, by decide, fun i h => absurd h (Nat.not_lt_zero i)⟩
theorem lc00 : LC (muC 12) 48 T00 := ⟨by decide +kernel, by decide +kernel, by decide +kernel, fun i h => absurd h (Nat.not_lt_zero i), fun i h => absurd h (Nat.not_lt_zero i)⟩
theorem lm00 : LM (muC 12 265) T00 := ⟨by decide +kernel, fun h => absurd (show (0 : Nat) = 1 from h) (by decide)⟩
theorem inv0 : Inv (muC 12) := by
  refine ⟨⟨0, 0, L00, T00, 0, fun _ => (0, 0, L00), ⟨cl00, ml00, wf00, lc00, lm00, wt00⟩, ⟨by decide, by decide +kernel, 0, by decide, by decide +kernel, fun j h => absurd h (Nat.not_lt_zero j)⟩, ⟨by decide, by decide +kernel, fun j h => absurd h (Nat.not_lt_zero j)⟩, fun j h => absurd h (Nat.not_lt_zero j)⟩, ⟨false, 0, 0, L00, T00, ⟨by decide +kernel, fun h => by cases h⟩, ⟨by decide +kernel, fun h => by cases h⟩, fun h => by cases h⟩, ⟨0, fun _ => 0, by decide, fun _ => Nat.zero_lt_succ 255, ⟨by decide +kernel, fun i h => absurd h (Nat.not_lt_zero i)⟩, by decide +kernel, fun i h => absurd h (Nat.not_lt_zero i)⟩, by decide +kernel, by decide +kernel, by decide +kernel⟩
