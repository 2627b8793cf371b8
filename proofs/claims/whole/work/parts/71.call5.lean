/-! CALLS: the model -/
section Cc
variable {n : Nat} {f : Int32} {μ : Mem} {L : Ld} {T : Tx} {a : Nat} {p : Nat}
def mineM (n : Nat) (L : Ld) (p : Nat) : Int32 := held n L p &&& pledS n L
theorem mine_b (hn : n ≤ 6) {l : Nat} (hl : l < 32) : bt (mineM n L p) l = (decide (l < 2 * n) && mineB L p l) := by
  unfold mineM held pledS mineB
  rw [b_and, ob_b hl (by omega), ob_b hl (by omega)]
  cases decide (l < 2 * n) <;> cases decide (L 7 l = nI p) <;> cases decide (L 6 l = 1) <;> rfl
def subM (n : Nat) (L : Ld) (p m : Nat) : Prop := ∀ o, o < n → subD (tL L p o) (tR L p o) (dig m o)
theorem sub_iff (hn : n ≤ 6) {m : Nat} (hm : m < 4 ^ n) : (nI m &&& (mineM n L p ^^^ (-1))) = 0 ↔ subM n L p m := by
  constructor
  · intro h o ho
    have hb : ∀ l, l < 32 → bt (nI m) l = true → bt (mineM n L p) l = true := fun l hl q => by
      have : bt (nI m &&& (mineM n L p ^^^ (-1))) l = false := by rw [h]; exact b_0 l
      rw [b_and, bt_not hl, q] at this
      cases e : bt (mineM n L p) l with
      | true => rfl
      | false => rw [e] at this; cases this
    refine ⟨dig_lt, fun q => ?_, fun q => ?_⟩
    · have := hb (2 * o) (by omega) (by rw [dig_0 (by omega)]; exact decide_eq_true q)
      rw [mine_b hn (by omega), Bool.and_eq_true] at this
      unfold tL
      rw [if_pos this.2]
    · have := hb (2 * o + 1) (by omega) (by rw [dig_1 (by omega)]; exact decide_eq_true q)
      rw [mine_b hn (by omega), Bool.and_eq_true] at this
      unfold tR
      rw [if_pos this.2]
  · intro h
    apply b_ext
    intro l hl
    rw [b_and, bt_not hl, b_0, mine_b hn hl]
    have hodd : l = 2 * (l / 2) ∨ l = 2 * (l / 2) + 1 := by omega
    by_cases hln : l < 2 * n
    · obtain ⟨q0, q1, q2⟩ := h (l / 2) (by omega)
      rcases hodd with e | e
      · have e1 : bt (nI m) l = decide (dig m (l / 2) % 2 = 1) := by
          have := dig_0 (m := m) (o := l / 2) (by omega)
          rwa [← e] at this
        rw [e1]
        by_cases d : dig m (l / 2) % 2 = 1
        · have := q1 d
          unfold tL at this
          rw [← e] at this
          by_cases w : mineB L p l = true
          · rw [w, decide_eq_true hln]; simp
          · rw [if_neg w] at this; omega
        · rw [decide_eq_false d]; rfl
      · have e1 : bt (nI m) l = decide (dig m (l / 2) / 2 = 1) := by
          have := dig_1 (m := m) (o := l / 2) (by omega)
          rwa [← e] at this
        rw [e1]
        by_cases d : dig m (l / 2) / 2 = 1
        · have := q2 d
          unfold tR at this
          rw [← e] at this
          by_cases w : mineB L p l = true
          · rw [w, decide_eq_true hln]; simp
          · rw [if_neg w] at this; omega
        · rw [decide_eq_false d]; rfl
    · have : bt (nI m) l = false := by
        rw [bt_div hl]
        have h4 : 4 ^ n ≤ 2 ^ l := by rw [← four_pow]; exact Nat.pow_le_pow_right (by decide) (by omega)
        rw [Nat.div_eq_of_lt (by omega)]
        rfl
      rw [this]; rfl
def paidB (L : Ld) (m : Nat) : Nat → Bool
  | 0 => true
  | o + 1 => paidB L m o && decide (dA (xA L o) (yA L o) (dig m o) ≤ idx (L 1 o))
theorem paid_iff {m : Nat} : ∀ j, paidB L m j = true ↔ ∀ o, o < j → dA (xA L o) (yA L o) (dig m o) ≤ idx (L 1 o)
  | 0 => ⟨fun _ o h => absurd h (by omega), fun _ => rfl⟩
  | j + 1 => by
    show (paidB L m j && decide (dA (xA L j) (yA L j) (dig m j) ≤ idx (L 1 j))) = true ↔ _
    rw [Bool.and_eq_true, paid_iff j]
    constructor
    · rintro ⟨h1, h2⟩ o ho
      rcases Nat.lt_or_ge o j with w | w
      · exact h1 o w
      · rw [show o = j by omega]; exact of_decide_eq_true h2
    · intro h
      exact ⟨fun o ho => h o (by omega), decide_eq_true (h j (by omega))⟩
theorem and_dig {m o : Nat} (ho : o < 6) : nI m &&& (3 <<< (nI (2 * o) &&& 31)) = nI (dig m o * 4 ^ o) := by
  apply b_ext
  intro l hl
  rw [b_and, three_b (by omega) hl]
  have hd := dig_lt (m := m) (o := o)
  rcases (show l = 2 * (l / 2) ∨ l = 2 * (l / 2) + 1 by omega) with e | e
  · rw [e, dig_0 (by omega), dig_0 (by omega), dig_single hd]
    by_cases c : l / 2 = o
    · rw [if_pos c, c, decide_eq_true (show 2 * o = 2 * o ∨ 2 * o = 2 * o + 1 from Or.inl rfl), Bool.and_true]
    · rw [if_neg c, decide_eq_false (show ¬ (2 * (l / 2) = 2 * o ∨ 2 * (l / 2) = 2 * o + 1) by omega), Bool.and_false]; rfl
  · rw [e, dig_1 (by omega), dig_1 (by omega), dig_single hd]
    by_cases c : l / 2 = o
    · rw [if_pos c, c, decide_eq_true (show 2 * o + 1 = 2 * o ∨ 2 * o + 1 = 2 * o + 1 from Or.inr rfl), Bool.and_true]
    · rw [if_neg c, decide_eq_false (show ¬ (2 * (l / 2) + 1 = 2 * o ∨ 2 * (l / 2) + 1 = 2 * o + 1) by omega), Bool.and_false]; rfl
theorem X12_canBePaid (h : ML n f (μ 265) L) (hw : WF n L) (m : Nat) : f_X12_canBePaid μ (nI m) = some (paidB L m n) := by
  have hn := h.n6
  unfold f_X12_canBePaid f_X12_canBePaid_l4
  refine bind_loop (fun o => (paidB L m o, nI o)) n (paidB L m n) rfl (fun o ho => ?_) ?_ (by omega) rfl
  · show f_X12_canBePaid_b4 μ (nI m) (paidB L m o) (nI o) = _
    have hnx : paidB L m (o + 1) = (paidB L m o && decide (dA (xA L o) (yA L o) (dig m o) ≤ idx (L 1 o))) := rfl
    unfold f_X12_canBePaid_b4
    refine bs (X12_people h) (ie (nI_ge ho (by omega)) ?_)
    cases hq : paidB L m o with
    | false =>
      refine ie fnt ?_
      unfold f_X12_canBePaid_j40_4 f_X12_canBePaid_j41_4
      rw [hnx, hq, nI_1]; rfl
    | true =>
      obtain ⟨w, hw9, ew⟩ := (hw.man ho).1
      obtain ⟨g1, -⟩ := amt8 hw hn (show 2 * o < 2 * n by omega)
      obtain ⟨g2, -⟩ := amt8 hw hn (show 2 * o + 1 < 2 * n by omega)
      have hd := dig_lt (m := m) (o := o)
      have hlim : dA (xA L o) (yA L o) (dig m o) ≤ 1998 := by
        obtain ⟨v0, v1, v2, v3⟩ := dA_v (x := xA L o) (y := yA L o)
        unfold xA yA at *
        rcases (show dig m o = 0 ∨ dig m o = 1 ∨ dig m o = 2 ∨ dig m o = 3 by omega) with e | e | e | e <;> rw [e] <;> omega
      rw [two_nI, and_dig (by omega)]
      refine it rfl (bs (X12_amountOf h _) (bs (X12_of0 h ho) ?_))
      rw [amt_dig hw hn, sum_single hd, if_pos ho, hnx, hq, nI_1, ew]
      unfold idx
      rw [nI_clamp (by omega)]
      by_cases c : dA (xA L o) (yA L o) (dig m o) ≤ w
      · rw [if_neg (nI_nlt c (by omega)), decide_eq_true c]; rfl
      · rw [if_pos (nI_lt (by omega) (by omega)), decide_eq_false c]; rfl
  · show f_X12_canBePaid_b4 μ (nI m) _ (nI n) = _
    unfold f_X12_canBePaid_b4
    exact bs (X12_people h) (it (nI_le (Nat.le_refl _) (by omega)) rfl)
end Cc
