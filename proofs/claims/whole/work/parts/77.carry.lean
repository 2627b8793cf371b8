/-! CARRY: the least together -/
def cstA (T : Tx) (n : Nat) (L : Ld) (B : Nat → Nat) (p k : Nat) : Nat := match comeO T n L p (B k) with | some j => j | none => 1000000
theorem cst_C {T : Tx} {n : Nat} {L : Ld} {B : Nat → Nat} {p k : Nat} : (if comC (comeO T n L p (B k)) = (-1) then (1000000 : Int32) else comC (comeO T n L p (B k))) = nI (cstA T n L B p k) := by
  unfold cstA comC
  cases e : comeO T n L p (B k) with
  | none => rfl
  | some j =>
    have := first_lt e
    exact if_neg (nI_nm1 (by omega))
theorem cst_M {T : Tx} {n : Nat} {L : Ld} {B : Nat → Nat} {p k : Nat} : comM (comeO T n L p (B k)) = nI (cstA T n L B p k) := by
  unfold cstA comM
  cases comeO T n L p (B k) <;> rfl
theorem cst_le {T : Tx} {n : Nat} {L : Ld} {B : Nat → Nat} {p k : Nat} : cstA T n L B p k ≤ 1000000 := by
  unfold cstA
  cases e : comeO T n L p (B k) with
  | none => exact Nat.le_refl _
  | some j =>
    have := first_lt e
    show j ≤ 1000000
    omega
def mnS (t : Nat) (g : Nat → Nat) : Nat → Nat
  | 0 => 1000000
  | k + 1 => if t.testBit k = true then mnS t g k else min (mnS t g k) (g k)
theorem mnS_t {t k : Nat} {g : Nat → Nat} (h : t.testBit k = true) : mnS t g (k + 1) = mnS t g k := if_pos h
theorem mnS_f {t k : Nat} {g : Nat → Nat} (h : ¬ t.testBit k = true) : mnS t g (k + 1) = min (mnS t g k) (g k) := if_neg h
theorem mnS_le {t : Nat} {g : Nat → Nat} : ∀ k, mnS t g k ≤ 1000000
  | 0 => Nat.le_refl _
  | k + 1 => by
    have := mnS_le (t := t) (g := g) k
    by_cases c : t.testBit k = true
    · rw [mnS_t c]; exact this
    · rw [mnS_f c]; omega
theorem mnS_ex {t : Nat} {g : Nat → Nat} : ∀ k, mnS t g k < 1000000 → ∃ i, i < k ∧ ¬ t.testBit i = true ∧ g i = mnS t g k
  | 0, h => absurd h (show ¬ 1000000 < 1000000 by omega)
  | k + 1, h => by
    by_cases c : t.testBit k = true
    · rw [mnS_t c] at h ⊢
      obtain ⟨i, h1, h2, h3⟩ := mnS_ex k h
      exact ⟨i, by omega, h2, h3⟩
    · rw [mnS_f c] at h ⊢
      by_cases d : mnS t g k ≤ g k
      · rw [Nat.min_eq_left d] at h ⊢
        obtain ⟨i, h1, h2, h3⟩ := mnS_ex k h
        exact ⟨i, by omega, h2, h3⟩
      · exact ⟨k, by omega, c, by omega⟩
def lstA (D : Nat → Nat → Nat) (n : Nat) : Nat → Nat → Nat
  | 0, _ => 0
  | d + 1, t => mnS t (fun k => D (n - (d + 1)) k + lstA D n d (t ||| 2 ^ k)) n
theorem lst_le {D : Nat → Nat → Nat} {n : Nat} : ∀ d t, lstA D n d t ≤ 1000000
  | 0, _ => Nat.zero_le _
  | _ + 1, _ => mnS_le _
theorem first_ex {P : Nat → Bool} : ∀ d i, (∃ k, i ≤ k ∧ k < i + d ∧ P k = true) → ∃ j, firstN P d i = some j ∧ i ≤ j ∧ j < i + d ∧ P j = true ∧ ∀ x, i ≤ x → x < j → ¬ P x = true
  | 0, i, ⟨k, h1, h2, _⟩ => absurd h2 (by omega)
  | d + 1, i, ⟨k, h1, h2, h3⟩ => by
    by_cases c : P i = true
    · exact ⟨i, first_t c, Nat.le_refl _, by omega, c, fun x _ _ => by omega⟩
    · have : k ≠ i := fun q => c (q ▸ h3)
      obtain ⟨j, g1, g2, g3, g4, g5⟩ := first_ex d (i + 1) ⟨k, by omega, by omega, h3⟩
      refine ⟨j, by rw [first_f c]; exact g1, by omega, by omega, g4, fun x hx hx2 => ?_⟩
      by_cases e : x = i
      · subst e; exact c
      · exact g5 x (by omega) hx2
/-- whom the next one takes -/
def takQ (D : Nat → Nat → Nat) (n p t k : Nat) : Bool := !t.testBit k && decide (D p k + lstA D n (n - (p + 1)) (t ||| 2 ^ k) = lstA D n (n - p) t)
def takK (D : Nat → Nat → Nat) (n p t : Nat) : Nat := (firstN (takQ D n p t) n 0).getD 0
/-- who has been taken by the first p, and which was the last -/
def takS (D : Nat → Nat → Nat) (n : Nat) : Nat → Nat × Nat
  | 0 => (0, 0)
  | p + 1 => ((takS D n p).1 ||| 2 ^ takK D n p (takS D n p).1, takK D n p (takS D n p).1)
theorem pc_or : ∀ t, t < 64 → ∀ k, k < 6 → ¬ t.testBit k = true → pcN (t ||| 2 ^ k) = pcN t + 1 := by decide +kernel
theorem pc_le : ∀ n, n < 7 → ∀ t, t < 64 → t < 2 ^ n → pcN t ≤ n ∧ (t ≠ 2 ^ n - 1 → pcN t < n) ∧ (t = 2 ^ n - 1 → pcN t = n) := by decide +kernel
theorem or_lt1 : ∀ n, n < 7 → ∀ t, t < 64 → ∀ k, k < n → t < 2 ^ n → t ||| 2 ^ k < 2 ^ n := by decide +kernel
theorem or_lt2 : ∀ t, t < 64 → ∀ k, k < 6 → ¬ t.testBit k = true → t < t ||| 2 ^ k := by decide +kernel
theorem or_lt' (n : Nat) (hn : n < 7) (t : Nat) (h : t < 64) (ht : t < 2 ^ n) (k : Nat) (hk : k < n) : t ||| 2 ^ k < 2 ^ n ∧ (¬ t.testBit k = true → t < t ||| 2 ^ k) := ⟨or_lt1 n hn t h k hk ht, or_lt2 t h k (by omega)⟩
theorem tak_ok {D : Nat → Nat → Nat} {n p t : Nat} (hp : p < n) (h : lstA D n (n - p) t < 1000000) : takK D n p t < n ∧ takQ D n p t (takK D n p t) = true ∧ ∀ x, x < takK D n p t → ¬ takQ D n p t x = true := by
  have e : n - p = (n - (p + 1)) + 1 := by omega
  have e2 : n - (n - (p + 1) + 1) = p := by omega
  have h' : mnS t (fun k => D (n - (n - (p + 1) + 1)) k + lstA D n (n - (p + 1)) (t ||| 2 ^ k)) n < 1000000 := by rw [e] at h; exact h
  obtain ⟨i, h1, h2, h3⟩ := mnS_ex n h'
  have hq : takQ D n p t i = true := by
    unfold takQ
    rw [Bool.and_eq_true]
    refine ⟨by simpa using h2, decide_eq_true ?_⟩
    rw [e]
    rw [e2] at h3
    rw [h3]
    show _ = mnS t (fun k => D (n - (n - (p + 1) + 1)) k + lstA D n (n - (p + 1)) (t ||| 2 ^ k)) n
    rw [e2]
  obtain ⟨j, g1, g2, g3, g4, g5⟩ := first_ex (P := takQ D n p t) n 0 ⟨i, Nat.zero_le _, by omega, hq⟩
  have ek : takK D n p t = j := by unfold takK; rw [g1]; rfl
  rw [ek]
  exact ⟨by omega, g4, fun x hx => g5 x (Nat.zero_le _) hx⟩
theorem takQ_iff {D : Nat → Nat → Nat} {n p t k : Nat} : takQ D n p t k = true ↔ ¬ t.testBit k = true ∧ D p k + lstA D n (n - (p + 1)) (t ||| 2 ^ k) = lstA D n (n - p) t := by
  unfold takQ
  rw [Bool.and_eq_true]
  exact ⟨fun ⟨a, b⟩ => ⟨by simpa using a, of_decide_eq_true b⟩, fun ⟨a, b⟩ => ⟨by simpa using a, decide_eq_true b⟩⟩
theorem takS_ok {D : Nat → Nat → Nat} {n : Nat} (hn : n ≤ 6) (h0 : lstA D n n 0 < 1000000) : ∀ p, p ≤ n → (takS D n p).1 < 2 ^ n ∧ pcN (takS D n p).1 = p ∧ lstA D n (n - p) (takS D n p).1 < 1000000
  | 0, _ => ⟨Nat.pow_pos (by decide), pc_0, h0⟩
  | p + 1, hp => by
    have hp64 : 2 ^ n ≤ 64 := Nat.pow_le_pow_right (by decide) hn
    obtain ⟨h1, h2, h3⟩ := takS_ok hn h0 p (by omega)
    obtain ⟨k1, k2, -⟩ := tak_ok (show p < n by omega) h3
    obtain ⟨q1, q2⟩ := takQ_iff.mp k2
    refine ⟨(or_lt' n (by omega) _ (by omega) h1 _ k1).1, ?_, ?_⟩
    · show pcN ((takS D n p).1 ||| 2 ^ takK D n p (takS D n p).1) = p + 1
      rw [pc_or _ (by omega) _ (by omega) q1, h2]
    · show lstA D n (n - (p + 1)) ((takS D n p).1 ||| 2 ^ takK D n p (takS D n p).1) < 1000000
      omega
theorem i32_s1 (x y : Int32) : x - y + (-1) = x - (y + 1) := by
  rw [Int32.sub_eq_add_neg, Int32.sub_eq_add_neg, Int32.neg_add, Int32.sub_eq_add_neg, Int32.add_assoc]
/-! the class's table -/
section Cy
variable {n : Nat} {f : Int32} {μ : Mem} {L : Ld} {T : Tx} {a : Nat} {D : Nat → Nat → Nat}
theorem or_pw {t k : Nat} (hk : k < 31) : nI t ||| (1 <<< (nI k &&& 31)) = nI (t ||| 2 ^ k) := by
  rw [show ((1 : Int32) <<< (nI k &&& 31)) = nI (2 ^ k) from pw_nI hk, nI_or]
theorem hasB {t k : Nat} (hk : k < 32) : f_X11_hasBit μ (nI t) (nI k) = some (t.testBit k) := by rw [X11_hasBit hk, bt_tb hk]
def ND (μ : Mem) (n : Nat) (D : Nat → Nat → Nat) : Prop := ∀ p, p < n → ∀ k, k < n → μ 260 (6 * p + k) = nI (D p k)
def LT (μ : Mem) (n : Nat) (D : Nat → Nat → Nat) (lo : Nat) : Prop := ∀ t, lo ≤ t → t < 2 ^ n → μ 261 t = nI (lstA D n (n - pcN t) t)
theorem X9_with (hn : n ≤ 6) (hD : ND μ n D) {t k : Nat} (ht : t < 2 ^ n) (hk : k < n) (hb : ¬ t.testBit k = true) (hl : LT μ n D (t + 1)) : f_X9_with μ (nI t) (nI k) = some (nI (D (pcN t) k + lstA D n (n - (pcN t + 1)) (t ||| 2 ^ k))) := by
  have hp64 : 2 ^ n ≤ 64 := Nat.pow_le_pow_right (by decide) hn
  obtain ⟨o1, o2⟩ := or_lt' n (by omega) t (by omega) ht k hk
  have o2' := o2 hb
  have hpo := pc_or t (by omega) k (by omega) hb
  have hlt : pcN t < n := by
    obtain ⟨a1, a2, a3⟩ := pc_le n (by omega) t (by omega) ht
    refine a2 fun q => ?_
    have := (pc_le n (by omega) (t ||| 2 ^ k) (by omega) o1).1
    have := a3 q
    omega
  unfold f_X9_with
  refine bs J6_bit ?_
  rw [(pc_ok (show t < 4096 by omega)).1, show nI (pcN t) * 6 = nI (6 * pcN t) by rw [Int32.mul_comm, show (6 : Int32) = nI 6 from rfl, pk_mul], nI_add]
  refine bs (a := nI (D (pcN t) k)) (by rw [rd_nI (by omega) (by decide), hD _ hlt _ hk]) ?_
  rw [or_pw (by omega)]
  refine bs (a := nI (lstA D n (n - (pcN t + 1)) (t ||| 2 ^ k))) (by rw [rd_nI (by omega) (by decide), hl _ (by omega) o1, hpo]) ?_
  rw [nI_add]
theorem X9_weigh (hn : n ≤ 6) (hD : ND μ n D) (hd : ∀ p k, D p k ≤ 1000000) : Ok (f_X9_weigh μ (nI n)) (fun ν => ν 259 2 = nI n ∧ LT ν n D 0 ∧ Fr (fun k => k = 259 ∨ k = 261) μ ν) := by
  have hp64 : 2 ^ n ≤ 64 := Nat.pow_le_pow_right (by decide) hn
  have hp0 : 0 < 2 ^ n := Nat.pow_pos (by decide)
  unfold f_X9_weigh
  rw [mset_at, all_nI n (by omega)]
  refine Ok.s (wr_nI (by omega) (by decide)) ?_
  unfold f_X9_weigh_l25
  refine Ok.loop (fun j z => (z.1 = nI (2 ^ n - 1) - nI (j + 1)) ∧ z.2 259 2 = nI n ∧ LT z.2 n D (2 ^ n - 1 - j) ∧ Fr (fun k => k = 259 ∨ k = 261) μ z.2) (fun ν => ν 259 2 = nI n ∧ LT ν n D 0 ∧ Fr (fun k => k = 259 ∨ k = 261) μ ν) (2 ^ n - 1) (by omega) ⟨rfl, ?_, fun t h1 h2 => ?_, ?_⟩ (fun j z hj hI => ?_) (fun t ht => Ok.r ht)
  · dsimp only
    rw [mset_ne (by decide), mset_at]
  · obtain rfl : t = 2 ^ n - 1 := by omega
    dsimp only
    rw [mset_at, (pc_le n (by omega) (2 ^ n - 1) (by omega) (by omega)).2.2 rfl, Nat.sub_self]
    rfl
  · exact (Fr.set (Or.inl rfl)).put (Or.inr rfl)
  · obtain ⟨x, ν⟩ := z
    obtain ⟨e1, e2, hl, hF⟩ := hI
    dsimp only at e1 e2 hl hF
    subst e1
    show Ok (f_X9_weigh_b25 ν _) _
    unfold f_X9_weigh_b25
    by_cases hc : j = 2 ^ n - 1
    · refine Ok.t (pk_sneg (by omega) (by omega)) (Ok.d ⟨e2, ?_, hF⟩)
      rw [show 2 ^ n - 1 - j = 0 by omega] at hl
      exact hl
    · rw [pk_sub (by omega)]
      generalize ht : 2 ^ n - 1 - (j + 1) = t
      have htn : t < 2 ^ n := by omega
      rw [show 2 ^ n - 1 - j = t + 1 by omega] at hl
      have hpt : pcN t < n := (pc_le n (by omega) t (by omega) htn).2.1 (by omega)
      refine Ok.e (nI_pos (by omega)) (Ok.s (wr_nI (by omega) (by decide)) ?_)
      unfold f_X9_weigh_l40
      have hD1 : ND ν n D := fun p hp k hk => by rw [hF 260 (by decide)]; exact hD p hp k hk
      refine Ok.loop (fun k z => z.1 = nI k ∧ z.2 261 t = nI (mnS t (fun k => D (pcN t) k + lstA D n (n - (pcN t + 1)) (t ||| 2 ^ k)) k) ∧ LT z.2 n D (t + 1) ∧ Fr (fun k => k = 261) ν z.2) (fun ν2 => ν2 261 t = nI (mnS t (fun k => D (pcN t) k + lstA D n (n - (pcN t + 1)) (t ||| 2 ^ k)) n) ∧ LT ν2 n D (t + 1) ∧ Fr (fun k => k = 261) ν ν2) n (by omega) ⟨rfl, (show mset ν 261 t 1000000 261 t = nI 1000000 from mset_at), fun u h1 h2 => ?_, Fr.set rfl⟩ (fun k z hk hI => ?_) (fun ν2 h2 => ?_)
      · dsimp only
        rw [mset_atn (by omega)]; exact hl u h1 h2
      · obtain ⟨y, ν2⟩ := z
        obtain ⟨d1, d2, d3, d4⟩ := hI
        dsimp only at d1 d2 d3 d4
        subst d1
        show Ok (f_X9_weigh_b40 ν2 (nI t) (nI k)) _
        unfold f_X9_weigh_b40 f_X9_weigh_j80_40
        rw [show ν2 259 2 = nI n from by rw [d4 259 (by decide)]; exact e2]
        by_cases hc2 : k = n
        · subst hc2
          exact Ok.t (nI_le (Nat.le_refl _) (by omega)) (Ok.d ⟨d2, d3, d4⟩)
        · have hk2 : k < n := by omega
          refine Ok.e (nI_ge hk2 (by omega)) (Ok.s (hasB (by omega)) ?_)
          by_cases hb : t.testBit k = true
          · refine Ok.t hb (Ok.c hk2 ⟨nI_1 _, ?_, d3, d4⟩)
            dsimp only
            rw [mnS_t hb]; exact d2
          · refine Ok.e hb (Ok.s (rd_nI (by omega) (by decide)) (Ok.s (X9_with hn (fun p hp k hk => by rw [d4 260 (by decide)]; exact hD1 p hp k hk) htn hk2 hb d3) (Ok.s J9_min ?_)))
            have l1 := mnS_le (t := t) (g := fun k => D (pcN t) k + lstA D n (n - (pcN t + 1)) (t ||| 2 ^ k)) k
            have l2 := hd (pcN t) k
            have l3 := lst_le (D := D) (n := n) (n - (pcN t + 1)) (t ||| 2 ^ k)
            rw [d2, mn_nI (by omega) (by omega)]
            refine Ok.s (wr_nI (by omega) (by decide)) (Ok.c hk2 ⟨nI_1 _, ?_, fun u h1 h2 => ?_, d4.put rfl⟩)
            · dsimp only
              rw [mset_at, mnS_f hb]
            · dsimp only
              rw [mset_atn (by omega)]; exact d3 u h1 h2
      · obtain ⟨d2, d3, d4⟩ := h2
        show Ok (f_X9_weigh_j86_25 ν2 (nI t)) _
        unfold f_X9_weigh_j86_25
        refine Ok.c (by omega) ⟨?_, ?_, fun u h1 h2 => ?_, hF.trans (d4.mono fun k hk => Or.inr hk)⟩
        · dsimp only
          rw [← ht, ← pk_sub (by omega), nI_succ (j + 1)]
          exact i32_s1 _ _
        · show ν2 259 2 = _
          rw [d4 259 (by decide)]; exact e2
        · show ν2 261 u = _
          by_cases e : u = t
          · subst e
            rw [d2]
            have q1 : n - pcN u = (n - (pcN u + 1)) + 1 := by omega
            have q2 : n - (n - (pcN u + 1) + 1) = pcN u := by omega
            rw [q1]
            show _ = nI (mnS u (fun k => D (n - (n - (pcN u + 1) + 1)) k + lstA D n (n - (pcN u + 1)) (u ||| 2 ^ k)) n)
            rw [q2]
          · exact d3 u (by omega) h2
/-- the part of one -/
theorem X9_partOf (hn : n ≤ 6) (hD : ND μ n D) (h2 : μ 259 2 = nI n) (hl : LT μ n D 0) (hd : ∀ p k, D p k ≤ 1000000) (h0 : lstA D n n 0 < 1000000) {p : Nat} (hp : p < n) : f_X9_partOf μ (nI p) = some (nI (takS D n (p + 1)).2) := by
  have hp64 : 2 ^ n ≤ 64 := Nat.pow_le_pow_right (by decide) hn
  have hp0 : 0 < 2 ^ n := Nat.pow_pos (by decide)
  unfold f_X9_partOf
  have l0 := hl 0 (Nat.le_refl _) hp0
  rw [pc_0, Nat.sub_zero] at l0
  refine bs (a := nI (lstA D n n 0)) (by rw [rd_k (k := 0) 0 rfl (by decide) (by decide), l0]) (it (show nI (lstA D n n 0) < nI 1000000 from nI_lt h0 (by decide)) ?_)
  unfold f_X9_partOf_l20
  have key : Ok (Option.bind (loopN 10000 (fun z : (Int32 × Int32 × Int32) => f_X9_partOf_b20 μ (nI p) z.1 z.2.1 z.2.2) (0, (-1), 0)) fun t : Int32 => f_X9_partOf_j44 μ t) (fun v => v = nI (takS D n (p + 1)).2) := by
    refine Ok.loop (fun j z => z.1 = nI (takS D n j).1 ∧ (1 ≤ j → z.2.1 = nI (takS D n j).2) ∧ z.2.2 = nI j) (fun t => t = nI (takS D n (p + 1)).2) (p + 1) (by omega) ⟨rfl, fun q => absurd q (by omega), rfl⟩ (fun j z hj hI => ?_) (fun t ht => Ok.r ht)
    obtain ⟨x, y, w⟩ := z
    obtain ⟨e1, e2, e3⟩ := hI
    dsimp only at e1 e2 e3
    subst e1 e3
    show Ok (f_X9_partOf_b20 μ (nI p) (nI _) y (nI j)) _
    unfold f_X9_partOf_b20
    by_cases hc : j = p + 1
    · subst hc
      exact Ok.t (nI_lt (by omega) (by omega)) (Ok.d (e2 (by omega)))
    · have hjn : j < n := by omega
      obtain ⟨s1, s2, s3⟩ := takS_ok hn h0 j (by omega)
      obtain ⟨k1, k2, k3⟩ := tak_ok hjn s3
      generalize ht : (takS D n j).1 = t at s1 s2 s3 k1 k2 k3
      refine Ok.e (nI_nlt (by omega) (by omega)) ?_
      have hfb : f_X9_firstBest μ (nI t) = some (nI (takK D n j t)) := by
        unfold f_X9_firstBest f_X9_firstBest_l2
        have key : Ok (Option.bind (loopN 10000 (fun z : Int32 => f_X9_firstBest_b2 μ (nI t) z) 0) fun t2 : (Unit ⊕ Int32) => Sum.elim (fun e => f_X9_firstBest_j41 μ) (fun x => some x) t2) (fun v => v = nI (takK D n j t)) := by
          refine Ok.loop (fun i z => z = nI i ∧ i ≤ takK D n j t) (fun r => r = Sum.inr (nI (takK D n j t))) (takK D n j t) (by omega) ⟨rfl, Nat.zero_le _⟩ (fun i z hi hI => ?_) (fun r hr => by rw [hr]; exact Ok.r rfl)
          obtain ⟨rfl, -⟩ := hI
          show Ok (f_X9_firstBest_b2 μ (nI t) (nI i)) _
          unfold f_X9_firstBest_b2 f_X9_firstBest_j35_2
          rw [h2]
          have hin : i < n := by omega
          have nx : i < takK D n j t → nI i + 1 = nI (i + 1) ∧ i + 1 ≤ takK D n j t := fun w => ⟨nI_1 _, by omega⟩
          refine Ok.e (nI_ge hin (by omega)) (Ok.s (hasB (by omega)) ?_)
          by_cases hb : t.testBit i = true
          · have w : i < takK D n j t := by
              rcases Nat.lt_or_ge i (takK D n j t) with w | w
              · exact w
              · obtain rfl : i = takK D n j t := by omega
                exact absurd hb (takQ_iff.mp k2).1
            exact Ok.t hb (Ok.c w (nx w))
          · refine Ok.e hb (Ok.s (X9_with hn hD s1 hin hb (fun u h1 h2 => hl u (by omega) h2)) (Ok.s (a := nI (lstA D n (n - pcN t) t)) (by rw [rd_nI (by omega) (by decide), hl t (by omega) s1]) ?_))
            rw [s2]
            have l3 := lst_le (D := D) (n := n) (n - (j + 1)) (t ||| 2 ^ i)
            by_cases e : i = takK D n j t
            · have hq := takQ_iff.mp k2
              rw [← e] at hq
              refine Ok.t (by rw [hq.2]) (Ok.d ?_)
              rw [e]
            · have w : i < takK D n j t := by omega
              refine Ok.e (fun q => ?_) (Ok.c w (nx w))
              have hnq := k3 i w
              refine hnq (takQ_iff.mpr ⟨hb, ?_⟩)
              have l4 := hd j i
              exact (nI_eq (by omega) (by omega)).mp q
        obtain ⟨v, e1, e2⟩ := key
        rw [e2] at e1
        exact e1
      refine Ok.s hfb (Ok.c (by omega) ⟨?_, fun _ => ?_, nI_1 _⟩)
      · dsimp only
        rw [or_pw (by omega)]
        show _ = nI ((takS D n j).1 ||| 2 ^ takK D n j (takS D n j).1)
        rw [ht]
      · show nI (takK D n j t) = nI (takK D n j (takS D n j).1)
        rw [ht]
  obtain ⟨v, e1, e2⟩ := key
  rw [e2] at e1
  exact e1
end Cy
