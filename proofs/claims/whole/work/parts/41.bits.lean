/-! ===== Int32 by its bits: bt x i ===== -/
def bt (x : Int32) (i : Nat) : Bool := x.toBitVec.getLsbD i
theorem b_ext {x y : Int32} (h : ∀ i, i < 32 → bt x i = bt y i) : x = y := Int32.toBitVec_inj.mp (BitVec.eq_of_getLsbD_eq (fun i hi => h i hi))
theorem b_or (x y : Int32) (i : Nat) : bt (x ||| y) i = (bt x i || bt y i) := by unfold bt; rw [Int32.toBitVec_or, BitVec.getLsbD_or]
theorem b_and (x y : Int32) (i : Nat) : bt (x &&& y) i = (bt x i && bt y i) := by unfold bt; rw [Int32.toBitVec_and, BitVec.getLsbD_and]
theorem b_xor (x y : Int32) (i : Nat) : bt (x ^^^ y) i = (bt x i ^^ bt y i) := by unfold bt; rw [Int32.toBitVec_xor, BitVec.getLsbD_xor]
theorem b_big {x : Int32} {i : Nat} (h : 32 ≤ i) : bt x i = false := BitVec.getLsbD_of_ge _ _ h
theorem b_255 (i : Nat) : bt 255 i = decide (i < 8) := by
  rcases Nat.lt_or_ge i 32 with h | h
  · exact (by decide +kernel : ∀ i, i < 32 → bt 255 i = decide (i < 8)) i h
  · rw [b_big h, decide_eq_false (by omega)]
theorem b_65535 (i : Nat) : bt 65535 i = decide (i < 16) := by
  rcases Nat.lt_or_ge i 32 with h | h
  · exact (by decide +kernel : ∀ i, i < 32 → bt 65535 i = decide (i < 16)) i h
  · rw [b_big h, decide_eq_false (by omega)]
theorem b_m1 : ∀ i, i < 32 → bt (-1) i = true := by decide +kernel
theorem b_0 (i : Nat) : bt 0 i = false := BitVec.getLsbD_zero
theorem s_l : ∀ n, n < 32 → ((nI n &&& 31).toBitVec.smod 32).toNat = n := by decide +kernel
theorem s_u : ∀ n, n < 32 → (((nI n).toUInt32 &&& Int32.toUInt32 31).toBitVec % 32).toNat = n := by decide +kernel
theorem b_shl (n : Nat) (hn : n < 32) (x : Int32) {i : Nat} (hi : i < 32) : bt (x <<< (nI n &&& 31)) i = (decide (n ≤ i) && bt x (i - n)) := by
  unfold bt
  rw [Int32.toBitVec_shiftLeft]
  show (x.toBitVec <<< ((nI n &&& 31).toBitVec.smod 32).toNat).getLsbD i = _
  rw [s_l n hn, BitVec.getLsbD_shiftLeft]
  rcases Nat.lt_or_ge i n with h | h
  · simp [h, Nat.not_le.mpr h]
  · simp [hi, h, Nat.not_lt.mpr h]
theorem b_ushr (n : Nat) (hn : n < 32) (x : Int32) (i : Nat) : bt ((x.toUInt32 >>> ((nI n).toUInt32 &&& Int32.toUInt32 31)).toInt32) i = bt x (n + i) := by
  show (x.toUInt32 >>> ((nI n).toUInt32 &&& Int32.toUInt32 31)).toBitVec.getLsbD i = x.toUInt32.toBitVec.getLsbD (n + i)
  rw [UInt32.toBitVec_shiftRight]
  show (x.toUInt32.toBitVec >>> (((nI n).toUInt32 &&& Int32.toUInt32 31).toBitVec % 32).toNat).getLsbD i = _
  rw [s_u n hn, BitVec.getLsbD_ushiftRight]
theorem b_sshr (n : Nat) (hn : n < 32) (x : Int32) {i : Nat} (hi : i < 32) : bt (x >>> (nI n &&& 31)) i = if n + i < 32 then bt x (n + i) else bt x 31 := by
  unfold bt
  rw [Int32.toBitVec_shiftRight]
  show (x.toBitVec.sshiftRight ((nI n &&& 31).toBitVec.smod 32).toNat).getLsbD i = _
  rw [s_l n hn, BitVec.getLsbD_sshiftRight, BitVec.msb_eq_getLsbD_last]
  simp [hi]
/-! BITS OF SETS -/
theorem b_1 : ∀ i, i < 32 → bt 1 i = decide (i = 0) := by decide +kernel
theorem pw_b {n i : Nat} (hn : n < 32) (hi : i < 32) : bt (pw n) i = decide (i = n) := by
  unfold pw
  rw [b_shl n hn 1 hi]
  by_cases h : n ≤ i
  · rw [b_1 (i - n) (by omega)]
    by_cases h2 : i = n
    · simp [h2]
    · simp [h, h2]; omega
  · simp [h]; omega
theorem ob_b {P : Nat → Bool} {i : Nat} (hi : i < 32) : ∀ {m : Nat}, m ≤ 32 → bt (obits P m) i = (decide (i < m) && P i)
  | 0, _ => by rw [show obits P 0 = 0 from rfl, b_0]; simp
  | m + 1, hm => by
    unfold obits
    have ih := ob_b (P := P) hi (m := m) (by omega)
    by_cases h : P m = true
    · rw [if_pos h, b_or, ih, pw_b (by omega) hi]
      by_cases h1 : i = m
      · subst h1; simp [h]
      · by_cases h2 : i < m
        · simp [h2, h1, show i < m + 1 by omega]
        · simp [h2, h1, show ¬ i < m + 1 by omega]
    · rw [if_neg h, ih]
      by_cases h1 : i = m
      · subst h1; simp [h]
      · by_cases h2 : i < m
        · simp [h2, show i < m + 1 by omega]
        · simp [h2, show ¬ i < m + 1 by omega]
theorem and1_cases (x : Int32) : x &&& 1 = 0 ∨ x &&& 1 = 1 := by
  obtain ⟨j, hj, e⟩ := pk_andE x (m := 1) 1 (by decide)
  rcases (show j = 0 ∨ j = 1 by omega) with rfl | rfl
  · exact Or.inl e
  · exact Or.inr e
theorem and1_b (x : Int32) : x &&& 1 = 0 ↔ bt x 0 = false := by
  constructor
  · intro h
    have h1 : bt (x &&& 1) 0 = false := by rw [h]; exact b_0 0
    rw [b_and, b_1 0 (by decide)] at h1
    simpa using h1
  · intro h
    apply b_ext
    intro i hi
    rw [b_and, b_1 i hi, b_0]
    by_cases h2 : i = 0
    · subst h2; simp [h]
    · simp [h2]
theorem has0 {x : Int32} {l : Nat} (hl : l < 32) : (x >>> (nI l &&& 31)) &&& 1 = 0 ↔ bt x l = false := by
  rw [and1_b, b_sshr l hl x (by decide)]
  simp [hl]
theorem has1 {x : Int32} {l : Nat} (hl : l < 32) : (x >>> (nI l &&& 31)) &&& 1 = 1 ↔ bt x l = true := by
  have h := has0 (x := x) hl
  rcases and1_cases (x >>> (nI l &&& 31)) with h1 | h1
  · rw [h1]
    have h2 := h.mp h1
    rw [h2]
    exact ⟨fun q => absurd q (by decide), fun q => by cases q⟩
  · rw [h1]
    refine ⟨fun _ => ?_, fun _ => rfl⟩
    cases hb : bt x l with
    | true => rfl
    | false => have := h.mpr hb; rw [h1] at this; exact absurd this (by decide)
def bitC (x : Int32) : Int32 := (f_J6_bitCount_0f7a4 (fun _ _ => 0) x).getD 0
theorem J6_bit {μ : Mem} {x : Int32} : f_J6_bitCount_0f7a4 μ x = some (bitC x) := rfl
theorem obits_if {P : Nat → Bool} {c : Prop} [Decidable c] {i : Nat} (hc : P i = decide c) : (if c then obits P i ||| (1 <<< (nI i &&& 31)) else obits P i) = obits P (i + 1) := by
  show _ = if P i = true then obits P i ||| pw i else obits P i
  rw [hc]
  by_cases h : c
  · rw [if_pos h, if_pos (decide_eq_true h)]; rfl
  · rw [if_neg h, if_neg (by simp [h])]
theorem obits_or {P : Nat → Bool} {c : Prop} [Decidable c] {i : Nat} (hc : P i = decide c) : obits P i ||| (if c then (1 <<< (nI i &&& 31) : Int32) else 0) = obits P (i + 1) := by
  rw [← obits_if hc]
  by_cases h : c
  · rw [if_pos h, if_pos h]
  · rw [if_neg h, if_neg h, or_zero]
theorem obits_0 {P : Nat → Bool} {i : Nat} (hc : P i = false) : obits P i = obits P (i + 1) := by
  show _ = if P i = true then obits P i ||| pw i else obits P i
  rw [hc]; rfl
theorem bit_b (b : Bool) : (if b = true then true else false) = b := by cases b <;> rfl
