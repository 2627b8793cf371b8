/-! CALLS: the best digits as a number -/
theorem dig_num {b : Nat → Nat} (hb : ∀ o, b o < 4) : ∀ {j o : Nat}, o < j → dig (numD b j) o = b o
  | 0, _, h => absurd h (by omega)
  | j + 1, o, h => by
    have hlt := numD_lt hb j
    have hbj := hb j
    show (numD b j + b j * 4 ^ j) / 4 ^ o % 4 = b o
    by_cases e : o = j
    · subst e
      rw [Nat.add_mul_div_right _ _ (Nat.pow_pos (by decide)), Nat.div_eq_of_lt hlt]
      omega
    · have ih := dig_num hb (j := j) (o := o) (by omega)
      unfold dig at ih
      obtain ⟨d, rfl⟩ : ∃ d, j = o + 1 + d := ⟨j - (o + 1), by omega⟩
      rw [show b (o + 1 + d) * 4 ^ (o + 1 + d) = (b (o + 1 + d) * 4 ^ d * 4) * 4 ^ o by rw [Nat.pow_add, Nat.pow_succ]; simp only [Nat.mul_assoc, Nat.mul_comm, Nat.mul_left_comm], Nat.add_mul_div_right _ _ (Nat.pow_pos (by decide))]
      omega
theorem sum_num {x y b : Nat → Nat} (hb : ∀ o, b o < 4) {n : Nat} : ∀ j, j ≤ n → sumD x y (numD b n) j = (Nat.rec 0 (fun o s => s + dA (x o) (y o) (b o)) j : Nat)
  | 0, _ => rfl
  | j + 1, h => by
    show sumD x y (numD b n) j + dA (x j) (y j) (dig (numD b n) j) = (Nat.rec 0 (fun o s => s + dA (x o) (y o) (b o)) j : Nat) + dA (x j) (y j) (b j)
    rw [sum_num hb j (by omega), dig_num hb (by omega)]
/-- no choice with digits no better is better, and one as good has no lesser number -/
theorem best_num {x y b : Nat → Nat} (hb : ∀ o, b o < 4) {n m : Nat} (hm : m < 4 ^ n) (h : ∀ o, o < n → dA (x o) (y o) (dig m o) ≤ dA (x o) (y o) (b o) ∧ (dA (x o) (y o) (dig m o) = dA (x o) (y o) (b o) → b o ≤ dig m o)) : sumD x y m n ≤ sumD x y (numD b n) n ∧ (sumD x y m n = sumD x y (numD b n) n → numD b n ≤ m) := by
  obtain ⟨h1, h2⟩ := best_sum (x := x) (y := y) (b := b) (m := m) n h
  rw [sum_num hb n (Nat.le_refl _)]
  refine ⟨h1, fun e => ?_⟩
  have := h2 e
  rwa [Nat.mod_eq_of_lt hm] at this
theorem num_dig {m : Nat} : ∀ j, numD (dig m) j = m % 4 ^ j
  | 0 => by show 0 = m % 1; omega
  | j + 1 => by
    show numD (dig m) j + dig m j * 4 ^ j = _
    rw [num_dig j, mod_dig]
theorem num_le {b c : Nat → Nat} : ∀ j, (∀ o, o < j → b o ≤ c o) → numD b j ≤ numD c j
  | 0, _ => Nat.le_refl _
  | j + 1, h => Nat.add_le_add (num_le j (fun o ho => h o (by omega))) (Nat.mul_le_mul_right _ (h j (by omega)))
