/-! CALLS: the class -/
theorem dig_single {c o o' : Nat} (hc : c < 4) : dig (c * 4 ^ o) o' = if o' = o then c else 0 := by
  unfold dig
  by_cases e : o' = o
  · subst e
    rw [if_pos rfl, Nat.mul_div_cancel _ (Nat.pow_pos (by decide))]
    omega
  · rw [if_neg e]
    rcases Nat.lt_or_ge o' o with h | h
    · obtain ⟨d, rfl⟩ : ∃ d, o = o' + 1 + d := ⟨o - (o' + 1), by omega⟩
      rw [show c * 4 ^ (o' + 1 + d) = (c * 4 ^ d * 4) * 4 ^ o' by rw [Nat.pow_add, Nat.pow_succ]; simp only [Nat.mul_assoc, Nat.mul_comm, Nat.mul_left_comm], Nat.mul_div_cancel _ (Nat.pow_pos (by decide))]
      omega
    · obtain ⟨d, rfl⟩ : ∃ d, o' = o + 1 + d := ⟨o' - (o + 1), by omega⟩
      have h1 : c * 4 ^ o < 4 ^ (o + 1) := by
        rw [Nat.pow_succ, Nat.mul_comm]
        exact Nat.mul_lt_mul_of_pos_left hc (Nat.pow_pos (by decide))
      have h2 : 4 ^ (o + 1) ≤ 4 ^ (o + 1 + d) := Nat.pow_le_pow_right (by decide) (by omega)
      rw [Nat.div_eq_of_lt (by omega)]
theorem sum_single {x y : Nat → Nat} {c o : Nat} (hc : c < 4) : ∀ j, sumD x y (c * 4 ^ o) j = if o < j then dA (x o) (y o) c else 0
  | 0 => by rw [if_neg (by omega)]; rfl
  | j + 1 => by
    show sumD x y (c * 4 ^ o) j + dA (x j) (y j) (dig (c * 4 ^ o) j) = _
    rw [sum_single hc j, dig_single hc]
    have z : dA (x j) (y j) 0 = 0 := by unfold dA; omega
    by_cases e : j = o
    · subst e
      rw [if_neg (show ¬ j < j by omega), if_pos rfl, if_pos (by omega), Nat.zero_add]
    · rw [if_neg e, z]
      by_cases h : o < j
      · rw [if_pos h, if_pos (by omega)]; rfl
      · rw [if_neg h, if_neg (by omega)]
section Cb
variable {n : Nat} {f : Int32} {μ : Mem} {L : Ld} {T : Tx} {a : Nat} {p : Nat}
def mineB (L : Ld) (p l : Nat) : Bool := decide (L 6 l = 1) && decide (L 7 l = nI p)
def tL (L : Ld) (p o : Nat) : Nat := if mineB L p (2 * o) = true then 1 else 0
def tR (L : Ld) (p o : Nat) : Nat := if mineB L p (2 * o + 1) = true then 2 else 0
def bD (n : Nat) (L : Ld) (p o : Nat) : Nat := if o < n then bestD (xA L o) (yA L o) (idx (L 1 o)) (tL L p o) (tR L p o) else 0
theorem tLR (hw : WF n L) (hn : n ≤ 6) {o : Nat} (ho : o < n) : (tL L p o = 0 ∨ (tL L p o = 1 ∧ 1 ≤ xA L o)) ∧ (tR L p o = 0 ∨ (tR L p o = 2 ∧ 1 ≤ yA L o)) := by
  have one : ∀ l, l < 2 * n → mineB L p l = true → 1 ≤ amtN L l := fun l hl h => by
    unfold mineB at h
    rw [Bool.and_eq_true] at h
    obtain ⟨m1, h', m2, m3, m4, ⟨x, hx1, hx, ex⟩, -⟩ := (hw.lace hl).pledged (of_decide_eq_true h.1)
    unfold amtN idx
    rw [ex, nI_clamp (by omega)]
    exact hx1
  unfold tL tR xA yA
  constructor
  · by_cases c : mineB L p (2 * o) = true
    · rw [if_pos c]; exact Or.inr ⟨rfl, one _ (by omega) c⟩
    · rw [if_neg c]; exact Or.inl rfl
  · by_cases c : mineB L p (2 * o + 1) = true
    · rw [if_pos c]; exact Or.inr ⟨rfl, one _ (by omega) c⟩
    · rw [if_neg c]; exact Or.inl rfl
theorem bD_ok (hw : WF n L) (hn : n ≤ 6) {o : Nat} (ho : o < n) : subD (tL L p o) (tR L p o) (bestD (xA L o) (yA L o) (idx (L 1 o)) (tL L p o) (tR L p o)) ∧ dA (xA L o) (yA L o) (bestD (xA L o) (yA L o) (idx (L 1 o)) (tL L p o) (tR L p o)) ≤ idx (L 1 o) ∧ ∀ d, subD (tL L p o) (tR L p o) d → dA (xA L o) (yA L o) d ≤ idx (L 1 o) → dA (xA L o) (yA L o) d ≤ dA (xA L o) (yA L o) (bestD (xA L o) (yA L o) (idx (L 1 o)) (tL L p o) (tR L p o)) ∧ (dA (xA L o) (yA L o) d = dA (xA L o) (yA L o) (bestD (xA L o) (yA L o) (idx (L 1 o)) (tL L p o) (tR L p o)) → bestD (xA L o) (yA L o) (idx (L 1 o)) (tL L p o) (tR L p o) ≤ d) := bestD_ok (tLR (p := p) hw hn ho).1 (tLR (p := p) hw hn ho).2
theorem bD_lt (hw : WF n L) (hn : n ≤ 6) : ∀ o, bD n L p o < 4 := fun o => by
  unfold bD
  split
  · rename_i ho; exact (bD_ok (p := p) hw hn ho).1.1
  · decide
theorem pw4 {o : Nat} (ho : o < 6) : (1 <<< (nI (2 * o) &&& 31) : Int32) = nI (1 * 4 ^ o) ∧ (1 <<< (nI (2 * o + 1) &&& 31) : Int32) = nI (2 * 4 ^ o) := by
  constructor
  · have := pw_nI (m := 2 * o) (by omega)
    rw [four_pow] at this
    rw [Nat.one_mul]; exact this
  · have := pw_nI (m := 2 * o + 1) (by omega)
    rw [Nat.pow_succ, four_pow, Nat.mul_comm (4 ^ o) 2] at this
    exact this
theorem X2_laceFor (h : CL n f μ a L) {l : Nat} (hl : l < 2 * n) : f_X2_laceFor μ a (nI l) (nI p) = some (if mineB L p l = true then 1 <<< (nI l &&& 31) else 0) := by
  unfold f_X2_laceFor f_X2_laceFor_j24 f_X2_laceFor_j25
  refine bs (X2_isPledged h hl) ?_
  unfold mineB
  by_cases c : L 6 l = 1
  · refine it (decide_eq_true c) (bs (h.rdL (k := 7) (by decide) hl) ?_)
    by_cases d : L 7 l = nI p
    · rw [if_pos d, if_pos (by simp [c, d])]
    · rw [if_neg d, if_neg (by simp [d])]
  · refine ie (by simp [c]) ?_
    rw [if_neg (by simp [c])]
theorem better (h : CL n f μ a L) (hw : WF n L) {o b c w : Nat} (ho : o < n) (hb : b < 4) (hc : c < 4) (hw9 : w ≤ 999) : f_X2_betterCall μ a (nI (b * 4 ^ o)) (nI (c * 4 ^ o)) (nI w) = some (nI (bet (xA L o) (yA L o) w b c * 4 ^ o)) := by
  have hn := h.n6
  obtain ⟨g1, -⟩ := amt8 hw hn (show 2 * o < 2 * n by omega)
  obtain ⟨g2, -⟩ := amt8 hw hn (show 2 * o + 1 < 2 * n by omega)
  have am : ∀ c, c < 4 → amt n L (nI (c * 4 ^ o)) = nI (dA (xA L o) (yA L o) c) ∧ dA (xA L o) (yA L o) c ≤ 1998 := fun c hc => by
    rw [amt_dig hw hn, sum_single hc, if_pos ho]
    refine ⟨rfl, ?_⟩
    obtain ⟨v0, v1, v2, v3⟩ := dA_v (x := xA L o) (y := yA L o)
    unfold xA yA at *
    rcases (show c = 0 ∨ c = 1 ∨ c = 2 ∨ c = 3 by omega) with e | e | e | e <;> subst e <;> omega
  obtain ⟨e1, l1⟩ := am c hc
  obtain ⟨e2, l2⟩ := am b hb
  unfold f_X2_betterCall f_X2_betterCall_j27 f_X2_betterCall_j28
  refine bs (X2_amountOf h _) ?_
  rw [e1]
  unfold bet
  by_cases d1 : w < dA (xA L o) (yA L o) c
  · rw [if_pos d1]
    exact it (nI_lt d1 (by omega)) rfl
  · rw [if_neg d1]
    refine ie (nI_nlt (by omega) (by omega)) (bs (X2_amountOf h _) ?_)
    rw [e2]
    by_cases d2 : dA (xA L o) (yA L o) c ≤ dA (xA L o) (yA L o) b
    · rw [if_pos d2, if_pos (nI_le d2 (by omega))]
    · rw [if_neg d2, if_neg (nI_ge (by omega) (by omega))]
theorem bet_lt {x y w b c : Nat} (hb : b < 4) (hc : c < 4) : bet x y w b c < 4 := by
  unfold bet
  split
  · exact hb
  · split
    · exact hb
    · exact hc
theorem X2_callable (h : CL n f μ a L) (hw : WF n L) {o : Nat} (ho : o < n) : f_X2_callable μ a (nI p) (nI o) = some (nI (bD n L p o * 4 ^ o)) := by
  have hn := h.n6
  obtain ⟨w, hw9, ew⟩ := (hw.man ho).1
  obtain ⟨p1, p2⟩ := pw4 (show o < 6 by omega)
  have rw1 : rd μ (a + 1) 6 (nI o) = some (nI w) := by rw [h.rdP (k := 1) (by decide) ho, ew]
  have iw : idx (L 1 o) = w := by unfold idx; rw [ew, nI_clamp (by omega)]
  have e1 : f_X2_laceFor μ a (2 * nI o) (nI p) = some (nI (tL L p o * 4 ^ o)) := by
    rw [two_nI, X2_laceFor h (show 2 * o < 2 * n by omega), p1]
    unfold tL
    split
    · rfl
    · rw [Nat.zero_mul]; rfl
  have e2 : f_X2_laceFor μ a (2 * nI o + 1) (nI p) = some (nI (tR L p o * 4 ^ o)) := by
    rw [two_nI, nI_1, X2_laceFor h (show 2 * o + 1 < 2 * n by omega), p2]
    unfold tR
    split
    · rfl
    · rw [Nat.zero_mul]; rfl
  have t1 : tL L p o < 4 := by unfold tL; split <;> decide
  have t2 : tR L p o < 4 := by unfold tR; split <;> decide
  have t3 : tL L p o + tR L p o < 4 := by unfold tL tR; split <;> split <;> decide
  have eo : nI (tL L p o * 4 ^ o) ||| nI (tR L p o * 4 ^ o) = nI ((tL L p o + tR L p o) * 4 ^ o) := by
    unfold tL tR
    by_cases c : mineB L p (2 * o) = true
    · rw [if_pos c]
      by_cases d : mineB L p (2 * o + 1) = true
      · rw [if_pos d, Int32.or_comm]
        have := or_add (a := 1) (b := 1 * 4 ^ o) (2 * o + 1) (by rw [Nat.pow_succ, four_pow]; have := Nat.pow_pos (n := o) (show 0 < 4 by decide); omega)
        rw [Nat.pow_succ, four_pow] at this
        rw [show 2 * 4 ^ o = 1 * (4 ^ o * 2) by omega, this]
        congr 1
        omega
      · rw [if_neg d, Nat.zero_mul, show nI 0 = (0 : Int32) from rfl, or_zero]
    · rw [if_neg c, Nat.zero_mul, Nat.zero_add, show nI 0 = (0 : Int32) from rfl, Int32.or_comm, or_zero]
  unfold f_X2_callable
  refine bs e1 (bs e2 (bs rw1 ?_))
  have b1 := better h hw (b := 0) (c := tL L p o) (w := w) ho (by decide) t1 hw9
  rw [Nat.zero_mul] at b1
  refine bs b1 (bs rw1 (bs (better h hw ho (bet_lt (by decide) t1) t2 hw9) (bs rw1 ?_)))
  rw [eo]
  refine bs (better h hw ho (bet_lt (bet_lt (by decide) t1) t2) t3 hw9) ?_
  unfold bD bestD
  rw [if_pos ho, iw]
end Cb
