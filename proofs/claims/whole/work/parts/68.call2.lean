/-! CALLS: amounts by digits -/
theorem bt_div {m i : Nat} (hi : i < 32) : bt (nI m) i = decide (m / 2 ^ i % 2 = 1) := by
  show (BitVec.ofNat 32 m).getLsbD i = _
  rw [BitVec.getLsbD_ofNat, decide_eq_true hi, Bool.true_and, Nat.testBit_eq_decide_div_mod_eq]
theorem four_pow (o : Nat) : 2 ^ (2 * o) = 4 ^ o := by rw [Nat.pow_mul]
theorem dig_0 {m o : Nat} (h : 2 * o + 1 < 32) : bt (nI m) (2 * o) = decide (dig m o % 2 = 1) := by
  rw [bt_div (by omega), four_pow]
  unfold dig
  congr 1
  rw [show m / 4 ^ o % 4 % 2 = m / 4 ^ o % 2 by omega]
theorem dig_1 {m o : Nat} (h : 2 * o + 1 < 32) : bt (nI m) (2 * o + 1) = decide (dig m o / 2 = 1) := by
  rw [bt_div (by omega), Nat.pow_succ, four_pow, ← Nat.div_div_eq_div_mul]
  unfold dig
  congr 1
  rw [show m / 4 ^ o / 2 % 2 = m / 4 ^ o % 4 / 2 by omega]
theorem dig_lt {m o : Nat} : dig m o < 4 := Nat.mod_lt _ (by decide)
section Ca
variable {n : Nat} {f : Int32} {μ : Mem} {L : Ld} {T : Tx} {a : Nat}
def xA (L : Ld) (o : Nat) : Nat := amtN L (2 * o)
def yA (L : Ld) (o : Nat) : Nat := amtN L (2 * o + 1)
theorem amt8 (hw : WF n L) (hn : n ≤ 6) {l : Nat} (hl : l < 2 * n) : amtN L l ≤ 999 ∧ L 8 l = nI (amtN L l) := by
  by_cases c : L 6 l = 1
  · exact amtN_eq hw hn hl c
  · have := (hw.lace hl).amt0 c
    unfold amtN idx
    rw [this]
    exact ⟨by decide, rfl⟩
theorem amt_dig (hw : WF n L) (hn : n ≤ 6) (m : Nat) : amt n L (nI m) = nI (sumD (xA L) (yA L) m n) := by
  have key : ∀ j, j ≤ n → osum (fun l => if bt (nI m) l = true then L 8 l else 0) (2 * j) = nI (sumD (xA L) (yA L) m j) := by
    intro j
    induction j with
    | zero => intro _; rfl
    | succ j ih =>
      intro hj
      obtain ⟨g1, g2⟩ := amt8 hw hn (show 2 * j < 2 * n by omega)
      obtain ⟨g3, g4⟩ := amt8 hw hn (show 2 * j + 1 < 2 * n by omega)
      show osum (fun l => if bt (nI m) l = true then L 8 l else 0) (2 * j) + (if bt (nI m) (2 * j) = true then L 8 (2 * j) else 0) + (if bt (nI m) (2 * j + 1) = true then L 8 (2 * j + 1) else 0) = nI (sumD (xA L) (yA L) m j + dA (xA L j) (yA L j) (dig m j))
      rw [ih (by omega), dig_0 (by omega), dig_1 (by omega), g2, g4]
      have hd := dig_lt (m := m) (o := j)
      unfold dA xA yA
      rcases (show dig m j = 0 ∨ dig m j = 1 ∨ dig m j = 2 ∨ dig m j = 3 by omega) with e | e | e | e <;> rw [e]
      · simp
      · simp [nI_add]
      · simp [nI_add]
      · simp [nI_add, Nat.add_assoc]
  exact key n (Nat.le_refl _)
end Ca
