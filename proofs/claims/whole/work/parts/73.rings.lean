/-! RINGS: the model -/
section Rg
variable {n : Nat} {f : Int32} {μ : Mem} {L : Ld} {T : Tx} {a : Nat}
def balT (L : Ld) (q l : Nat) : Int32 := L 8 l * ((b2i (if nI (l / 2) = nI q then (true : Bool) else false)) - (b2i (if L 7 l = nI q then (true : Bool) else false)))
def balS (L : Ld) (m q : Nat) (j : Nat) : Int32 := osum (fun l => if bt (nI m) l = true then balT L q l else 0) j
def ringB (n : Nat) (L : Ld) (m : Nat) : Nat → Bool
  | 0 => true
  | q + 1 => ringB n L m q && decide (balS L m q (2 * n) = 0)
theorem X12_isRing (h : ML n f (μ 265) L) (m : Nat) : f_X12_isRing μ (nI m) = some (ringB n L m n) := by
  have hn := h.n6
  unfold f_X12_isRing f_X12_isRing_l4
  refine bind_loop (fun q => (ringB n L m q, nI q)) n (ringB n L m n) rfl (fun q hq => ?_) ?_ (by omega) rfl
  · show f_X12_isRing_b4 μ (nI m) (ringB n L m q) (nI q) = _
    have hnx : ringB n L m (q + 1) = (ringB n L m q && decide (balS L m q (2 * n) = 0)) := rfl
    unfold f_X12_isRing_b4
    refine bs (X12_people h) (ie (nI_ge hq (by omega)) ?_)
    unfold f_X12_isRing_l18
    refine bind_loop (fun l => (balS L m q l, nI l)) (2 * n) (balS L m q (2 * n)) rfl (fun l hl => ?_) ?_ (by omega) ?_
    · show f_X12_isRing_b18 μ (nI m) (ringB n L m q) (nI q) (balS L m q l) (nI l) = _
      have hs : balS L m q (l + 1) = balS L m q l + (if bt (nI m) l = true then balT L q l else 0) := rfl
      unfold f_X12_isRing_b18 f_X12_isRing_j80_18
      refine bs (X12_laces h) (ie (nI_ge hl (by omega)) (bs (X12_has (by omega)) ?_))
      by_cases c : bt (nI m) l = true
      · refine it c (bs (X12_lace2 h hl) (bs (X12_ownerOf (by omega)) (bs (X12_lace1 h hl) ?_)))
        rw [hs, if_pos c, nI_1]
        rfl
      · refine ie c ?_
        rw [hs, if_neg c, nI_1, Int32.add_zero]
    · show f_X12_isRing_b18 μ (nI m) _ (nI q) _ (nI (2 * n)) = _
      unfold f_X12_isRing_b18
      exact bs (X12_laces h) (it (nI_le (Nat.le_refl _) (by omega)) rfl)
    · unfold f_X12_isRing_j86_4
      rw [hnx, nI_1]
      cases hr : ringB n L m q with
      | false => rfl
      | true =>
        rw [if_pos rfl, Bool.true_and]
        by_cases d : balS L m q (2 * n) = 0
        · rw [if_pos d, decide_eq_true d]
        · rw [if_neg d, decide_eq_false d]
  · show f_X12_isRing_b4 μ (nI m) _ (nI n) = _
    unfold f_X12_isRing_b4
    exact bs (X12_people h) (it (nI_le (Nat.le_refl _) (by omega)) rfl)
end Rg
