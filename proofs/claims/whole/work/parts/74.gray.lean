/-! RINGS: the class's order of the sets (Gray's) -/
def nsum (q : Nat → Nat) : Nat → Nat
  | 0 => 0
  | j + 1 => nsum q j + q j
theorem nsum_congr {p q : Nat → Nat} : ∀ {m : Nat}, (∀ i, i < m → p i = q i) → nsum p m = nsum q m
  | 0, _ => rfl
  | m + 1, h => by
    show nsum p m + p m = nsum q m + q m
    rw [nsum_congr (m := m) (fun i hi => h i (by omega)), h m (by omega)]
theorem nsum_pair {q : Nat → Nat} : ∀ m, nsum q (2 * m) = nsum (fun t => q (2 * t) + q (2 * t + 1)) m
  | 0 => rfl
  | m + 1 => by
    show nsum q (2 * m) + q (2 * m) + q (2 * m + 1) = nsum (fun t => q (2 * t) + q (2 * t + 1)) m + (q (2 * m) + q (2 * m + 1))
    rw [nsum_pair m]
    omega
theorem nsum_add {q : Nat → Nat} (a : Nat) : ∀ b, nsum q (a + b) = nsum q a + nsum (fun i => q (a + i)) b
  | 0 => rfl
  | b + 1 => by
    show nsum q (a + b) + q (a + b) = nsum q a + (nsum (fun i => q (a + i)) b + q (a + b))
    rw [nsum_add a b]
    omega
theorem nsum_0 {q : Nat → Nat} : ∀ {m : Nat}, (∀ i, i < m → q i = 0) → nsum q m = 0
  | 0, _ => rfl
  | m + 1, h => by
    show nsum q m + q m = 0
    rw [nsum_0 (m := m) (fun i hi => h i (by omega)), h m (by omega)]
theorem nsum_0' {q : Nat → Nat} : ∀ {m : Nat}, nsum q m = 0 → ∀ i, i < m → q i = 0
  | 0, _, i, hi => absurd hi (by omega)
  | m + 1, h, i, hi => by
    have h' : nsum q m + q m = 0 := h
    by_cases e : i = m
    · subst e; omega
    · exact nsum_0' (m := m) (by omega) i (by omega)
theorem nsum_pos {q : Nat → Nat} : ∀ {m i : Nat}, i < m → 0 < q i → 0 < nsum q m
  | 0, i, hi, _ => absurd hi (by omega)
  | m + 1, i, hi, h => by
    show 0 < nsum q m + q m
    by_cases e : i = m
    · subst e; omega
    · have := nsum_pos (m := m) (i := i) (by omega) h
      omega
theorem nsum_le {q : Nat → Nat} (h : ∀ i, q i ≤ 1) : ∀ m, nsum q m ≤ m
  | 0 => Nat.le_refl _
  | m + 1 => by
    have a := nsum_le h m
    have b := h m
    show nsum q m + q m ≤ m + 1
    omega
def gray (s : Nat) : Nat := s ^^^ (s / 2)
theorem gray_2' : ∀ a, a < 64 → ∀ b, b < 32 → gray (2 * (32 * a + b)) = 2 * gray (32 * a + b) + (32 * a + b) % 2 ∧ gray (2 * (32 * a + b) + 1) = 2 * gray (32 * a + b) + (1 - (32 * a + b) % 2) := by decide +kernel
theorem gray_2 (t : Nat) (h : t < 2048) : gray (2 * t) = 2 * gray t + t % 2 ∧ gray (2 * t + 1) = 2 * gray t + (1 - t % 2) := by
  have := gray_2' (t / 32) (by omega) (t % 32) (by omega)
  rwa [show 32 * (t / 32) + t % 32 = t by omega] at this
theorem gray_sum : ∀ c, c ≤ 12 → ∀ q : Nat → Nat, nsum (fun s => q (gray s)) (2 ^ c) = nsum q (2 ^ c)
  | 0, _, _ => rfl
  | c + 1, hc, q => by
    have hp : 2 ^ c ≤ 2 ^ 11 := Nat.pow_le_pow_right (by decide) (by omega)
    rw [Nat.pow_succ, Nat.mul_comm (2 ^ c) 2, nsum_pair, nsum_pair]
    rw [← gray_sum c (by omega) (fun u => q (2 * u) + q (2 * u + 1))]
    refine nsum_congr fun t ht => ?_
    obtain ⟨e1, e2⟩ := gray_2 t (by omega)
    show q (gray (2 * t)) + q (gray (2 * t + 1)) = q (2 * gray t) + q (2 * gray t + 1)
    rw [e1, e2]
    rcases (show t % 2 = 0 ∨ t % 2 = 1 by omega) with e | e
    · rw [e]
      show q (2 * gray t + 0) + q (2 * gray t + 1) = _
      rw [Nat.add_zero]
    · rw [e]
      exact Nat.add_comm (q (2 * gray t + 1)) (q (2 * gray t))
def zN (s : Nat) : Nat := ((f_J6_numberOfTrailingZeros_0f7a4 (fun _ _ => 0) (nI s)).getD 0).toNatClampNeg
theorem zN_ok' : ∀ a, a < 64 → ∀ b, b < 64 → 0 < 64 * a + b → f_J6_numberOfTrailingZeros_0f7a4 (fun _ _ => 0) (nI (64 * a + b)) = some (nI (zN (64 * a + b))) ∧ zN (64 * a + b) < 12 ∧ 2 ^ zN (64 * a + b) ≤ 64 * a + b ∧ gray (64 * a + b) = gray (64 * a + b - 1) ^^^ 2 ^ zN (64 * a + b) := by decide +kernel
theorem zN_ok {μ : Mem} (s : Nat) (h : s < 4096) (h0 : 0 < s) : f_J6_numberOfTrailingZeros_0f7a4 μ (nI s) = some (nI (zN s)) ∧ zN s < 12 ∧ 2 ^ zN s ≤ s ∧ gray s = gray (s - 1) ^^^ 2 ^ zN s := by
  have := zN_ok' (s / 64) (by omega) (s % 64) (by omega) (by omega)
  rwa [show 64 * (s / 64) + s % 64 = s by omega] at this
theorem gray_log' : ∀ a, a < 64 → ∀ b, b < 64 → 0 < 64 * a + b → (gray (64 * a + b)).testBit (Nat.log2 (64 * a + b)) = true ∧ 2 ^ Nat.log2 (64 * a + b) ≤ 64 * a + b := by decide +kernel
theorem gray_log (s : Nat) (h : s < 4096) (h0 : 0 < s) : (gray s).testBit (Nat.log2 s) = true ∧ 2 ^ Nat.log2 s ≤ s := by
  have := gray_log' (s / 64) (by omega) (s % 64) (by omega) (by omega)
  rwa [show 64 * (s / 64) + s % 64 = s by omega] at this
theorem pow_lt_inv {a c s : Nat} (h : 2 ^ a ≤ s) (hs : s < 2 ^ c) : a < c := by
  rcases Nat.lt_or_ge a c with q | q
  · exact q
  · have := Nat.pow_le_pow_right (n := 2) (by decide) q
    omega
/-! sets of pledged ones by numbers among them -/
section Sp
variable {P : Nat → Bool}
def spr (P : Nat → Bool) (u : Nat) : Nat → Nat
  | 0 => 0
  | k + 1 => spr P u k + (if P k = true ∧ u.testBit (cntN P k) = true then 2 ^ k else 0)
def subB (P : Nat → Bool) (m : Nat) : Nat → Bool
  | 0 => true
  | k + 1 => subB P m k && (P k || !m.testBit k)
theorem spr_lt {u : Nat} : ∀ k, spr P u k < 2 ^ k
  | 0 => (by decide : 0 < 1)
  | k + 1 => by
    have ih := spr_lt (u := u) k
    show spr P u k + _ < 2 ^ (k + 1)
    rw [Nat.pow_succ]
    split <;> omega
theorem spr_congr {u v : Nat} : ∀ k, (∀ j, j < cntN P k → u.testBit j = v.testBit j) → spr P u k = spr P v k
  | 0, _ => rfl
  | k + 1, h => by
    show spr P u k + _ = spr P v k + _
    by_cases c : P k = true
    · rw [cnt_t c] at h
      rw [spr_congr k (fun j hj => h j (by omega)), h (cntN P k) (by omega)]
    · rw [cnt_f c] at h
      rw [spr_congr k h, if_neg (fun q => c q.1), if_neg (fun q => c q.1)]
theorem subB_iff {m : Nat} : ∀ k, subB P m k = true ↔ ∀ l, l < k → m.testBit l = true → P l = true
  | 0 => ⟨fun _ l hl => absurd hl (by omega), fun _ => rfl⟩
  | k + 1 => by
    show (subB P m k && (P k || !m.testBit k)) = true ↔ _
    rw [Bool.and_eq_true, subB_iff k]
    constructor
    · rintro ⟨h1, h2⟩ l hl hb
      by_cases e : l = k
      · subst e
        rw [hb] at h2
        simpa using h2
      · exact h1 l (by omega) hb
    · intro h
      refine ⟨fun l hl hb => h l (by omega) hb, ?_⟩
      cases hb : m.testBit k with
      | false => simp
      | true => rw [h k (by omega) hb]; rfl
theorem subB_congr {m m' : Nat} : ∀ k, (∀ l, l < k → m.testBit l = m'.testBit l) → subB P m k = subB P m' k
  | 0, _ => rfl
  | k + 1, h => by
    show (subB P m k && _) = (subB P m' k && _)
    rw [subB_congr k (fun l hl => h l (by omega)), h k (by omega)]
theorem spr_bit {u l : Nat} : ∀ k, (spr P u k).testBit l = (decide (l < k) && P l && u.testBit (cntN P l))
  | 0 => by
    show (0 : Nat).testBit l = _
    rw [Nat.zero_testBit]; simp
  | k + 1 => by
    have ih := spr_bit (u := u) (l := l) k
    have hlt := spr_lt (P := P) (u := u) k
    show (spr P u k + _).testBit l = _
    by_cases c : P k = true ∧ u.testBit (cntN P k) = true
    · rw [if_pos c, Nat.add_comm]
      by_cases e : l = k
      · subst e
        rw [Nat.testBit_two_pow_add_eq, Nat.testBit_lt_two_pow hlt, c.1, c.2]
        simp
      · by_cases e2 : l < k
        · rw [Nat.testBit_two_pow_add_gt e2, ih]
          simp [e2, show l < k + 1 by omega]
        · rw [Nat.testBit_lt_two_pow (show 2 ^ k + spr P u k < 2 ^ l from Nat.lt_of_lt_of_le (by rw [Nat.pow_succ]; omega) (Nat.pow_le_pow_right (by decide) (show k + 1 ≤ l by omega)))]
          simp [show ¬ l < k + 1 by omega]
    · rw [if_neg c, Nat.add_zero, ih]
      by_cases e : l = k
      · subst e
        cases h1 : P l with
        | false => simp
        | true =>
          cases h2 : u.testBit (cntN P l) with
          | false => simp
          | true => exact absurd ⟨h1, h2⟩ c
      · by_cases e2 : l < k
        · simp [e2, show l < k + 1 by omega]
        · simp [e2, show ¬ l < k + 1 by omega]
theorem spr_sub {u k : Nat} : subB P (spr P u k) k = true := (subB_iff k).mpr fun l hl hb => by
  rw [spr_bit] at hb
  rw [Bool.and_eq_true, Bool.and_eq_true] at hb
  exact hb.1.2
theorem spr_sum : ∀ (k : Nat) (q : Nat → Nat), nsum (fun u => q (spr P u k)) (2 ^ cntN P k) = nsum (fun m => if subB P m k = true then q m else 0) (2 ^ k)
  | 0, _ => rfl
  | k + 1, q => by
    have hR1 : nsum (fun m => if subB P m (k + 1) = true then q m else 0) (2 ^ k) = nsum (fun m => if subB P m k = true then q m else 0) (2 ^ k) := nsum_congr fun m hm => by
      have : subB P m (k + 1) = subB P m k := by
        show (subB P m k && (P k || !m.testBit k)) = _
        rw [Nat.testBit_lt_two_pow hm]
        simp
      rw [this]
    have hR2 : nsum (fun i => if subB P (2 ^ k + i) (k + 1) = true then q (2 ^ k + i) else 0) (2 ^ k) = nsum (fun m => if subB P m k = true ∧ P k = true then q (2 ^ k + m) else 0) (2 ^ k) := nsum_congr fun m hm => by
      have : subB P (2 ^ k + m) (k + 1) = (subB P m k && P k) := by
        show (subB P (2 ^ k + m) k && (P k || !(2 ^ k + m).testBit k)) = _
        rw [Nat.testBit_two_pow_add_eq, Nat.testBit_lt_two_pow hm, subB_congr k (fun l hl => Nat.testBit_two_pow_add_gt hl m)]
        simp
      rw [this]
      simp only [Bool.and_eq_true]
    rw [show 2 ^ (k + 1) = 2 ^ k + 2 ^ k by rw [Nat.pow_succ]; omega, nsum_add, hR1, hR2]
    by_cases c : P k = true
    · rw [cnt_t c, show 2 ^ (cntN P k + 1) = 2 ^ cntN P k + 2 ^ cntN P k by rw [Nat.pow_succ]; omega, nsum_add]
      congr 1
      · rw [← spr_sum k q]
        refine nsum_congr fun u hu => ?_
        have : spr P u (k + 1) = spr P u k := by
          show spr P u k + _ = _
          rw [Nat.testBit_lt_two_pow hu, if_neg (fun w => by cases w.2)]
          rfl
        rw [this]
      · rw [show (fun m => if subB P m k = true ∧ P k = true then q (2 ^ k + m) else 0) = (fun m => if subB P m k = true then q (2 ^ k + m) else 0) from funext fun m => by simp [c]]
        rw [← spr_sum k (fun m => q (2 ^ k + m))]
        refine nsum_congr fun u hu => ?_
        have : spr P (2 ^ cntN P k + u) (k + 1) = 2 ^ k + spr P u k := by
          show spr P (2 ^ cntN P k + u) k + _ = _
          rw [Nat.testBit_two_pow_add_eq, Nat.testBit_lt_two_pow hu, if_pos ⟨c, rfl⟩, spr_congr (v := u) k (fun j hj => Nat.testBit_two_pow_add_gt hj u)]
          omega
        rw [this]
    · rw [cnt_f c]
      have z : nsum (fun m => if subB P m k = true ∧ P k = true then q (2 ^ k + m) else 0) (2 ^ k) = 0 := nsum_0 fun i _ => if_neg (fun w => c w.2)
      rw [z, Nat.add_zero, ← spr_sum k q]
      refine nsum_congr fun u hu => ?_
      have : spr P u (k + 1) = spr P u k := by
        show spr P u k + _ = _
        rw [if_neg (fun w => c w.1)]
        rfl
      rw [this]
/-- the class comes to each set once -/
theorem gray_all {k : Nat} (hk : k ≤ 12) (q : Nat → Nat) : nsum (fun s => q (spr P (gray s) k)) (2 ^ cntN P k) = nsum (fun m => if subB P m k = true then q m else 0) (2 ^ k) := by
  rw [← spr_sum k q]
  exact gray_sum (cntN P k) (Nat.le_trans (cntN_le k) hk) (fun u => q (spr P u k))
theorem gray_has {k m : Nat} (hk : k ≤ 12) (hm : m < 2 ^ k) (hs : subB P m k = true) : ∃ s, s < 2 ^ cntN P k ∧ spr P (gray s) k = m := by
  have h := gray_all (P := P) hk (fun j => if j = m then 1 else 0)
  have hp : 0 < nsum (fun j => if subB P j k = true then (if j = m then 1 else 0) else 0) (2 ^ k) := nsum_pos hm (by rw [if_pos hs, if_pos rfl]; decide)
  rw [← h] at hp
  rcases Classical.em (∃ s, s < 2 ^ cntN P k ∧ spr P (gray s) k = m) with w | w
  · exact w
  · rw [nsum_0 (fun i hi => if_neg (fun e => w ⟨i, hi, e⟩))] at hp
    exact absurd hp (by decide)
theorem cnt_mono {i l : Nat} (h : i < l) (hp : P i = true) : cntN P i < cntN P l := by
  induction l with
  | zero => omega
  | succ l ih =>
    by_cases e : i = l
    · subst e; rw [cnt_t hp]; omega
    · have := ih (by omega)
      by_cases c : P l = true
      · rw [cnt_t c]; omega
      · rw [cnt_f c]; exact this
theorem cnt_inj {i l : Nat} (hi : P i = true) (hl : P l = true) (e : cntN P i = cntN P l) : i = l := by
  rcases Nat.lt_trichotomy i l with q | q | q
  · have := cnt_mono q hi; omega
  · exact q
  · have := cnt_mono q hl; omega
theorem cnt_sur {z : Nat} : ∀ {k : Nat}, z < cntN P k → ∃ l, l < k ∧ P l = true ∧ cntN P l = z
  | 0, h => absurd h (show ¬ z < 0 by omega)
  | k + 1, h => by
    by_cases c : P k = true
    · rw [cnt_t c] at h
      by_cases e : z = cntN P k
      · exact ⟨k, by omega, c, e.symm⟩
      · obtain ⟨l, h1, h2, h3⟩ := cnt_sur (k := k) (z := z) (by omega)
        exact ⟨l, by omega, h2, h3⟩
    · rw [cnt_f c] at h
      obtain ⟨l, h1, h2, h3⟩ := cnt_sur (k := k) h
      exact ⟨l, by omega, h2, h3⟩
theorem spr_ne0 {k s : Nat} (hk : k ≤ 12) (hs : s < 2 ^ cntN P k) (h0 : 0 < s) : spr P (gray s) k ≠ 0 := by
  have hc := cntN_le (P := P) k
  have hp : 2 ^ cntN P k ≤ 2 ^ 12 := Nat.pow_le_pow_right (by decide) (by omega)
  obtain ⟨g1, g2⟩ := gray_log s (by omega) h0
  obtain ⟨l, h1, h2, h3⟩ := cnt_sur (pow_lt_inv g2 hs)
  intro e
  have := spr_bit (P := P) (u := gray s) (l := l) k
  rw [e, Nat.zero_testBit, h2, h3, g1, decide_eq_true h1] at this
  cases this
end Sp
theorem bt_tb {m i : Nat} (hi : i < 32) : bt (nI m) i = m.testBit i := by
  show (BitVec.ofNat 32 m).getLsbD i = _
  rw [BitVec.getLsbD_ofNat, decide_eq_true hi, Bool.true_and]
/-- one lace more or less -/
theorem spr_step {P : Nat → Bool} {k s l : Nat} (hk : k ≤ 12) (hs : s + 1 < 2 ^ cntN P k) (hl : l < k) (hP : P l = true) (hz : cntN P l = zN (s + 1)) : nI (spr P (gray s) k) ^^^ (1 <<< (nI l &&& 31)) = nI (spr P (gray (s + 1)) k) := by
  have hc := cntN_le (P := P) k
  have hp : 2 ^ cntN P k ≤ 2 ^ 12 := Nat.pow_le_pow_right (by decide) (by omega)
  obtain ⟨-, -, -, hg⟩ := zN_ok (μ := fun _ _ => 0) (s + 1) (by omega) (by omega)
  rw [Nat.add_sub_cancel] at hg
  apply b_ext
  intro i hi
  rw [b_xor, bt_tb hi, bt_tb hi, spr_bit, spr_bit, hg, Nat.testBit_xor, Nat.testBit_two_pow, show bt (1 <<< (nI l &&& 31)) i = decide (i = l) from pw_b (by omega) hi, ← hz]
  by_cases e : i = l
  · subst e
    rw [hP, decide_eq_true hl, decide_eq_true (rfl : i = i), decide_eq_true (rfl : cntN P i = cntN P i)]
    rfl
  · rw [decide_eq_false e]
    by_cases c : P i = true
    · rw [decide_eq_false (show ¬ cntN P l = cntN P i from fun q => e (cnt_inj c hP q.symm))]
      simp
    · simp [c]
