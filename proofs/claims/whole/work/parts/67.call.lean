/-! CALLS: the best of each debtor, in digits of four (0 none, 1 the left, 2 the right, 3 both) -/
def dA (x y d : Nat) : Nat := (d % 2) * x + (d / 2) * y
def bet (x y w b c : Nat) : Nat := if w < dA x y c then b else if dA x y c ≤ dA x y b then b else c
def bestD (x y w t1 t2 : Nat) : Nat := bet x y w (bet x y w (bet x y w 0 t1) t2) (t1 + t2)
/-- d is part of t1 + t2 -/
def subD (t1 t2 d : Nat) : Prop := d < 4 ∧ (d % 2 = 1 → t1 = 1) ∧ (d / 2 = 1 → t2 = 2)
theorem dA_v {x y : Nat} : dA x y 0 = 0 ∧ dA x y 1 = x ∧ dA x y 2 = y ∧ dA x y 3 = x + y := by
  unfold dA
  refine ⟨by omega, by omega, by omega, by omega⟩
theorem bestD_ok {x y w t1 t2 : Nat} (h1 : t1 = 0 ∨ (t1 = 1 ∧ 1 ≤ x)) (h2 : t2 = 0 ∨ (t2 = 2 ∧ 1 ≤ y)) : subD t1 t2 (bestD x y w t1 t2) ∧ dA x y (bestD x y w t1 t2) ≤ w ∧ ∀ d, subD t1 t2 d → dA x y d ≤ w → dA x y d ≤ dA x y (bestD x y w t1 t2) ∧ (dA x y d = dA x y (bestD x y w t1 t2) → bestD x y w t1 t2 ≤ d) := by
  obtain ⟨v0, v1, v2, v3⟩ := dA_v (x := x) (y := y)
  have key : ∀ b, subD t1 t2 b → dA x y b ≤ w → (∀ d, d = 0 ∨ (d = 1 ∧ t1 = 1) ∨ (d = 2 ∧ t2 = 2) ∨ (d = 3 ∧ t1 = 1 ∧ t2 = 2) → dA x y d ≤ w → dA x y d ≤ dA x y b ∧ (dA x y d = dA x y b → b ≤ d)) → subD t1 t2 b ∧ dA x y b ≤ w ∧ ∀ d, subD t1 t2 d → dA x y d ≤ w → dA x y d ≤ dA x y b ∧ (dA x y d = dA x y b → b ≤ d) := by
    intro b hb hw h
    refine ⟨hb, hw, fun d hd hdw => h d ?_ hdw⟩
    obtain ⟨q1, q2, q3⟩ := hd
    rcases (show d = 0 ∨ d = 1 ∨ d = 2 ∨ d = 3 by omega) with rfl | rfl | rfl | rfl
    · exact Or.inl rfl
    · exact Or.inr (Or.inl ⟨rfl, q2 (by decide)⟩)
    · exact Or.inr (Or.inr (Or.inl ⟨rfl, q3 (by decide)⟩))
    · exact Or.inr (Or.inr (Or.inr ⟨rfl, q2 (by decide), q3 (by decide)⟩))
  have s0 : subD t1 t2 0 := ⟨by decide, fun q => absurd q (by decide), fun q => absurd q (by decide)⟩
  rcases h1 with rfl | ⟨rfl, hx⟩ <;> rcases h2 with rfl | ⟨rfl, hy⟩
  · have e : bestD x y w 0 0 = 0 := by unfold bestD bet; simp [v0]
    rw [e]
    refine key 0 s0 (by omega) (fun d hd hdw => ?_)
    rcases hd with rfl | ⟨rfl, q⟩ | ⟨rfl, q⟩ | ⟨rfl, q, q'⟩ <;> omega
  · have s2 : subD 0 2 2 := ⟨by decide, by decide, by decide⟩
    by_cases c : w < y
    · have e : bestD x y w 0 2 = 0 := by unfold bestD bet; simp [v0, v2, c]
      rw [e]
      refine key 0 s0 (by omega) (fun d hd hdw => ?_)
      rcases hd with rfl | ⟨rfl, q⟩ | ⟨rfl, q⟩ | ⟨rfl, q, q'⟩ <;> omega
    · have e : bestD x y w 0 2 = 2 := by unfold bestD bet; simp [v0, v2, c]; omega
      rw [e]
      refine key 2 s2 (by omega) (fun d hd hdw => ?_)
      rcases hd with rfl | ⟨rfl, q⟩ | ⟨rfl, q⟩ | ⟨rfl, q, q'⟩ <;> omega
  · have s1 : subD 1 0 1 := ⟨by decide, by decide, by decide⟩
    by_cases c : w < x
    · have e : bestD x y w 1 0 = 0 := by unfold bestD bet; simp [v0, v1, c]
      rw [e]
      refine key 0 s0 (by omega) (fun d hd hdw => ?_)
      rcases hd with rfl | ⟨rfl, q⟩ | ⟨rfl, q⟩ | ⟨rfl, q, q'⟩ <;> omega
    · have e : bestD x y w 1 0 = 1 := by
        have : ¬ x ≤ 0 := by omega
        unfold bestD bet; simp [v0, v1, c, this]
      rw [e]
      refine key 1 s1 (by omega) (fun d hd hdw => ?_)
      rcases hd with rfl | ⟨rfl, q⟩ | ⟨rfl, q⟩ | ⟨rfl, q, q'⟩ <;> omega
  · have s1 : subD 1 2 1 := ⟨by decide, by decide, by decide⟩
    have s2 : subD 1 2 2 := ⟨by decide, by decide, by decide⟩
    have s3 : subD 1 2 3 := ⟨by decide, by decide, by decide⟩
    -- the first
    obtain ⟨b1, hb1, e1⟩ : ∃ b1, ((b1 = 0 ∧ w < x) ∨ (b1 = 1 ∧ x ≤ w)) ∧ bet x y w 0 1 = b1 := by
      unfold bet
      rw [v0, v1]
      by_cases c : w < x
      · exact ⟨0, Or.inl ⟨rfl, c⟩, if_pos c⟩
      · exact ⟨1, Or.inr ⟨rfl, by omega⟩, by rw [if_neg c, if_neg (by omega)]⟩
    obtain ⟨b2, hb2, e2⟩ : ∃ b2, ((b2 = b1 ∧ (w < y ∨ y ≤ dA x y b1)) ∨ (b2 = 2 ∧ y ≤ w ∧ dA x y b1 < y)) ∧ bet x y w b1 2 = b2 := by
      unfold bet
      rw [v2]
      by_cases c : w < y
      · exact ⟨b1, Or.inl ⟨rfl, Or.inl c⟩, if_pos c⟩
      · by_cases d : y ≤ dA x y b1
        · exact ⟨b1, Or.inl ⟨rfl, Or.inr d⟩, by rw [if_neg c, if_pos d]⟩
        · exact ⟨2, Or.inr ⟨rfl, by omega, by omega⟩, by rw [if_neg c, if_neg d]⟩
    obtain ⟨b3, hb3, e3⟩ : ∃ b3, ((b3 = b2 ∧ (w < x + y ∨ x + y ≤ dA x y b2)) ∨ (b3 = 3 ∧ x + y ≤ w ∧ dA x y b2 < x + y)) ∧ bet x y w b2 3 = b3 := by
      unfold bet
      rw [v3]
      by_cases c : w < x + y
      · exact ⟨b2, Or.inl ⟨rfl, Or.inl c⟩, if_pos c⟩
      · by_cases d : x + y ≤ dA x y b2
        · exact ⟨b2, Or.inl ⟨rfl, Or.inr d⟩, by rw [if_neg c, if_pos d]⟩
        · exact ⟨3, Or.inr ⟨rfl, by omega, by omega⟩, by rw [if_neg c, if_neg d]⟩
    have e : bestD x y w 1 2 = b3 := by
      show bet x y w (bet x y w (bet x y w 0 1) 2) 3 = b3
      rw [e1, e2, e3]
    rw [e]
    have fin : ∀ b, b = b3 → subD 1 2 b → dA x y b ≤ w → (∀ d, d = 0 ∨ d = 1 ∨ d = 2 ∨ d = 3 → dA x y d ≤ w → dA x y d ≤ dA x y b ∧ (dA x y d = dA x y b → b ≤ d)) → subD 1 2 b3 ∧ dA x y b3 ≤ w ∧ ∀ d, subD 1 2 d → dA x y d ≤ w → dA x y d ≤ dA x y b3 ∧ (dA x y d = dA x y b3 → b3 ≤ d) := by
      intro b hb q1 q2 q3
      subst hb
      exact key b q1 q2 (fun d hd => q3 d (by omega))
    rcases hb3 with ⟨h3, w3⟩ | ⟨h3, w3, w3'⟩
    · rcases hb2 with ⟨h2, w2⟩ | ⟨h2, w2, w2'⟩
      · rcases hb1 with ⟨h1, w1⟩ | ⟨h1, w1⟩
        · have hb : b3 = 0 := by omega
          subst h1
          subst h2
          rw [v0] at w2 w3
          refine fin 0 hb.symm s0 (by omega) (fun d hd hdw => ?_)
          rcases hd with rfl | rfl | rfl | rfl <;> omega
        · have hb : b3 = 1 := by omega
          subst h1
          subst h2
          rw [v1] at w2 w3
          refine fin 1 hb.symm s1 (by omega) (fun d hd hdw => ?_)
          rcases hd with rfl | rfl | rfl | rfl <;> omega
      · have hb : b3 = 2 := by omega
        subst h2
        rw [v2] at w3
        refine fin 2 hb.symm s2 (by omega) (fun d hd hdw => ?_)
        rcases hb1 with ⟨h1, w1⟩ | ⟨h1, w1⟩
        · subst h1
          rw [v0] at w2'
          rcases hd with rfl | rfl | rfl | rfl <;> omega
        · subst h1
          rw [v1] at w2'
          rcases hd with rfl | rfl | rfl | rfl <;> omega
    · refine fin 3 h3.symm s3 (by omega) (fun d hd hdw => ?_)
      rcases hd with rfl | rfl | rfl | rfl <;> omega
/-! sums and numbers of digits -/
def dig (m o : Nat) : Nat := m / 4 ^ o % 4
def sumD (x y : Nat → Nat) (m : Nat) : Nat → Nat
  | 0 => 0
  | o + 1 => sumD x y m o + dA (x o) (y o) (dig m o)
def numD (b : Nat → Nat) : Nat → Nat
  | 0 => 0
  | o + 1 => numD b o + b o * 4 ^ o
theorem numD_lt {b : Nat → Nat} (h : ∀ o, b o < 4) : ∀ j, numD b j < 4 ^ j
  | 0 => (by decide : 0 < 1)
  | j + 1 => by
    have ih := numD_lt h j
    have hb := h j
    have h4 : b j * 4 ^ j ≤ 3 * 4 ^ j := Nat.mul_le_mul_right _ (by omega)
    show numD b j + b j * 4 ^ j < 4 ^ (j + 1)
    rw [Nat.pow_succ]
    omega
theorem mod_dig {m j : Nat} : m % 4 ^ (j + 1) = m % 4 ^ j + dig m j * 4 ^ j := by
  unfold dig
  rw [Nat.pow_succ, Nat.mod_mul, Nat.mul_comm (4 ^ j)]
/-- no payable choice of laces is better than the best digits, and none as good has a lesser number -/
theorem best_sum {x y : Nat → Nat} {b : Nat → Nat} {m : Nat} : ∀ j, (∀ o, o < j → dA (x o) (y o) (dig m o) ≤ dA (x o) (y o) (b o) ∧ (dA (x o) (y o) (dig m o) = dA (x o) (y o) (b o) → b o ≤ dig m o)) → sumD x y m j ≤ (fun s => s) (Nat.rec 0 (fun o s => s + dA (x o) (y o) (b o)) j) ∧ (sumD x y m j = (Nat.rec 0 (fun o s => s + dA (x o) (y o) (b o)) j : Nat) → numD b j ≤ m % 4 ^ j)
  | 0, _ => ⟨Nat.le_refl _, fun _ => Nat.zero_le _⟩
  | j + 1, h => by
    obtain ⟨i1, i2⟩ := best_sum j (fun o ho => h o (by omega))
    obtain ⟨g1, g2⟩ := h j (by omega)
    refine ⟨Nat.add_le_add i1 g1, fun e => ?_⟩
    have e' : sumD x y m j + dA (x j) (y j) (dig m j) = (Nat.rec 0 (fun o s => s + dA (x o) (y o) (b o)) j : Nat) + dA (x j) (y j) (b j) := e
    have i1' : sumD x y m j ≤ (Nat.rec 0 (fun o s => s + dA (x o) (y o) (b o)) j : Nat) := i1
    have a1 := i2 (by omega)
    have a2 := g2 (by omega)
    show numD b j + b j * 4 ^ j ≤ m % 4 ^ (j + 1)
    rw [mod_dig]
    exact Nat.add_le_add a1 (Nat.mul_le_mul_right _ a2)
