/-! RINGS: the class's search -/
theorem i32_mv (a f g : Int32) : a + g = a + f + (g - f) := by
  rw [Int32.sub_eq_add_neg, Int32.add_assoc a f, Int32.add_comm g, ← Int32.add_assoc f, ← Int32.sub_eq_add_neg, Int32.sub_self, Int32.zero_add]
theorem i32_ac (a b c : Int32) : a + b + c = a + c + b := by rw [Int32.add_assoc, Int32.add_comm b, ← Int32.add_assoc]
theorem osum_mv {f g : Nat → Int32} {l : Nat} (h : ∀ i, i ≠ l → g i = f i) : ∀ {N : Nat}, l < N → osum g N = osum f N + (g l - f l)
  | 0, hl => absurd hl (by omega)
  | N + 1, hl => by
    rw [osum_s, osum_s]
    by_cases e : l = N
    · subst e
      rw [osum_congr (f := g) (g := f) (fun i hi => h i (by omega))]
      exact i32_mv _ _ _
    · rw [osum_mv h (show l < N by omega), h N (fun q => e q.symm)]
      exact i32_ac _ _ _
theorem osum_z {f : Nat → Int32} : ∀ {N : Nat}, (∀ i, i < N → f i = 0) → osum f N = 0
  | 0, _ => rfl
  | N + 1, h => by rw [osum_s, osum_z (N := N) (fun i hi => h i (by omega)), h N (by omega)]; rfl
def pB (L : Ld) (l : Nat) : Bool := decide (L 6 l = 1)
theorem pwN : ∀ c, c < 13 → ((1 : Int32) <<< (nI c &&& 31)) = nI (2 ^ c) := by decide +kernel
def pcN (m : Nat) : Nat := (bitC (nI m)).toNatClampNeg
theorem pc_ok' : ∀ a, a < 64 → ∀ b, b < 64 → bitC (nI (64 * a + b)) = nI (pcN (64 * a + b)) ∧ pcN (64 * a + b) ≤ 12 ∧ (0 < 64 * a + b → 0 < pcN (64 * a + b)) := by decide +kernel
theorem pc_ok {m : Nat} (h : m < 4096) : bitC (nI m) = nI (pcN m) ∧ pcN m ≤ 12 ∧ (0 < m → 0 < pcN m) := by
  have := pc_ok' (m / 64) (by omega) (m % 64) (by omega)
  rwa [show 64 * (m / 64) + m % 64 = m by omega] at this
theorem pc_0 : pcN 0 = 0 := by decide +kernel
def bett (m b : Nat) : Prop := pcN b < pcN m ∨ (pcN m = pcN b ∧ m < b)
section Rs
variable {n : Nat} {f : Int32} {μ : Mem} {L : Ld} {T : Tx} {a : Nat}
def sG (k : Nat) : Prop := k = 257 ∨ k = 258
theorem X7_gather (h : CL n f μ a L) (ha : a ≤ 18) : Ok (f_X7_gather μ a) (fun q => q.1 = nI (cntN (pB L) (2 * n)) ∧ (∀ l, l < 2 * n → pB L l = true → q.2 257 (cntN (pB L) l) = nI l) ∧ (∀ i, i < 6 → q.2 258 i = 0) ∧ Fr sG μ q.2) := by
  have hn := h.n6
  unfold f_X7_gather f_X7_gather_l2
  refine Ok.loop (fun j z => z.1 = nI j ∧ Fr sG μ z.2 ∧ ∀ i, i < j → z.2 258 i = 0) (fun t => Fr sG μ t ∧ ∀ i, i < 6 → t 258 i = 0) 6 (by decide) ⟨rfl, Fr.refl, fun i hi => absurd hi (by omega)⟩ (fun j z hj hI => ?_) (fun ν hν => ?_)
  · obtain ⟨x, ν⟩ := z
    obtain ⟨e1, hF, hz⟩ := hI
    dsimp only at e1 hF hz
    subst e1
    show Ok (f_X7_gather_b2 ν a (nI j)) _
    unfold f_X7_gather_b2
    by_cases hc : j = 6
    · subst hc
      exact Ok.t (by decide) (Ok.d ⟨hF, hz⟩)
    · refine Ok.e (nI_ge (b := 6) (by omega) (by decide)) (Ok.s (wr_nI (by omega) (by decide)) (Ok.c (by omega) ⟨nI_1 _, hF.put (Or.inr rfl), fun i hi => ?_⟩))
      show mset ν 258 j 0 258 i = 0
      by_cases e : i = j
      · subst e; exact mset_at
      · rw [mset_atn e]; exact hz i (by omega)
  · obtain ⟨hF0, hz0⟩ := hν
    unfold f_X7_gather_j21 f_X7_gather_l25
    refine Ok.loop (fun j z => z.1 = nI (cntN (pB L) j) ∧ z.2.1 = nI j ∧ Fr sG μ z.2.2 ∧ (∀ l, l < j → pB L l = true → z.2.2 257 (cntN (pB L) l) = nI l) ∧ ∀ i, i < 6 → z.2.2 258 i = 0) (fun t => t.1 = nI (cntN (pB L) (2 * n)) ∧ (∀ l, l < 2 * n → pB L l = true → t.2 257 (cntN (pB L) l) = nI l) ∧ (∀ i, i < 6 → t.2 258 i = 0) ∧ Fr sG μ t.2) (2 * n) (by omega) ⟨rfl, rfl, hF0, fun l hl => absurd hl (by omega), hz0⟩ (fun j z hj hI => ?_) (fun t ht => ?_)
    · obtain ⟨x, y, ν⟩ := z
      obtain ⟨e1, e2, hF, hl, hz⟩ := hI
      dsimp only at e1 e2 hF hl hz
      subst e1 e2
      show Ok (f_X7_gather_b25 ν a (nI _) (nI j)) _
      have hC : CL n f ν a L := h.fr fun i hi => hF _ (by unfold sG; omega)
      have hcl := cntN_le (P := pB L) j
      unfold f_X7_gather_b25
      by_cases hc : j = 2 * n
      · subst hc
        exact Ok.t hC.ge2 (Ok.d ⟨rfl, hl, hz, hF⟩)
      · have hj2 : j < 2 * n := by omega
        refine Ok.e (hC.lt2 hj2) (Ok.s (X2_isPledged hC hj2) ?_)
        unfold f_X7_gather_j53_25
        by_cases c : pB L j = true
        · refine Ok.t c (Ok.s (wr_nI (by omega) (by decide)) (Ok.c hj2 ⟨?_, nI_1 _, hF.put (Or.inl rfl), fun l hl2 hp => ?_, fun i hi => ?_⟩))
          · dsimp only; rw [nI_1, cnt_t c]
          · show mset ν 257 (cntN (pB L) j) (nI j) 257 (cntN (pB L) l) = nI l
            by_cases e : l = j
            · subst e; exact mset_at
            · have := cnt_mono (P := pB L) (show l < j by omega) hp
              rw [mset_atn (by omega)]
              exact hl l (by omega) hp
          · show mset ν 257 (cntN (pB L) j) (nI j) 258 i = 0
            rw [mset_ne (by decide)]; exact hz i hi
        · refine Ok.e c (Ok.c hj2 ⟨?_, nI_1 _, hF, fun l hl2 hp => ?_, hz⟩)
          · dsimp only; rw [cnt_f c]
          · by_cases e : l = j
            · subst e; exact absurd hp c
            · exact hl l (by omega) hp
    · exact Ok.r ht
theorem X7_isBalanced {m : Nat} (hb : ∀ q, q < 6 → μ 258 q = balS L m q (2 * n)) : f_X7_isBalanced μ = some (ringB n L m 6) := by
  unfold f_X7_isBalanced f_X7_isBalanced_l2
  have rf : ∀ d q, ringB n L m q = false → ringB n L m (q + d) = false := fun d q hq => by
    induction d with
    | zero => exact hq
    | succ d ih => show (ringB n L m (q + d) && _) = false; rw [ih]; rfl
  have key : Ok (Option.bind (loopN 10000 (fun z : Int32 => f_X7_isBalanced_b2 μ z) 0) fun t : (Unit ⊕ Bool) => Sum.elim (fun e => f_X7_isBalanced_j25 μ) (fun x => some x) t) (fun b => b = ringB n L m 6) := by
    refine Ok.loop (fun j z => z = nI j ∧ ringB n L m j = true) (fun r => (r = Sum.inl () ∧ ringB n L m 6 = true) ∨ (r = Sum.inr false ∧ ringB n L m 6 = false)) 6 (by decide) ⟨rfl, rfl⟩ (fun j z hj hI => ?_) (fun r hr => ?_)
    · obtain ⟨rfl, hI⟩ := hI
      show Ok (f_X7_isBalanced_b2 μ (nI j)) _
      unfold f_X7_isBalanced_b2
      by_cases hc : j = 6
      · subst hc
        exact Ok.t (by decide) (Ok.d (Or.inl ⟨rfl, hI⟩))
      · refine Ok.e (nI_ge (b := 6) (by omega) (by decide)) (Ok.s (a := balS L m j (2 * n)) (by rw [rd_nI (by omega) (by decide), hb j (by omega)]) ?_)
        have hnx : ringB n L m (j + 1) = (ringB n L m j && decide (balS L m j (2 * n) = 0)) := rfl
        by_cases c : balS L m j (2 * n) = 0
        · exact Ok.t c (Ok.c (by omega) ⟨nI_1 _, by rw [hnx, hI, decide_eq_true c]; rfl⟩)
        · refine Ok.e c (Ok.d (Or.inr ⟨rfl, ?_⟩))
          have := rf (6 - (j + 1)) (j + 1) (by rw [hnx, decide_eq_false c, Bool.and_false])
          rwa [show j + 1 + (6 - (j + 1)) = 6 by omega] at this
    · rcases hr with ⟨rfl, e⟩ | ⟨rfl, e⟩
      · exact Ok.r e.symm
      · exact Ok.r e.symm
  obtain ⟨b, e1, e2⟩ := key
  rw [e2] at e1
  exact e1
theorem balT_hi (hw : WF n L) (hn : n ≤ 6) {l q : Nat} (hl : l < 2 * n) (hp : pB L l = true) (hq : n ≤ q) (hq6 : q < 6) : balT L q l = 0 := by
  have hp' : L 6 l = 1 := of_decide_eq_true hp
  unfold balT
  rcases hw.lace hl with h | ⟨-, x, hx, -, ex, -⟩ | h
  · rw [h.1] at hp'; exact absurd hp' (by decide)
  · rw [ex, if_neg (fun w => by have := (nI_eq (by omega) (by omega)).mp w; omega), if_neg (fun w => by have := (nI_eq (by omega) (by omega)).mp w; omega)]
    show L 8 l * (0 - 0) = 0
    rw [Int32.sub_self, Int32.mul_zero]
  · rw [h.1] at hp'; exact absurd hp' (by decide)
theorem ring6 (hw : WF n L) (hn : n ≤ 6) {m : Nat} (hm : subB (pB L) m (2 * n) = true) : ringB n L m 6 = ringB n L m n := by
  have hz : ∀ q, n ≤ q → q < 6 → balS L m q (2 * n) = 0 := fun q h1 h2 => osum_z fun l hl => by
    by_cases c : bt (nI m) l = true
    · rw [if_pos c]
      rw [bt_tb (by omega)] at c
      exact balT_hi hw hn hl ((subB_iff _).mp hm l hl c) h1 h2
    · rw [if_neg c]
  have key : ∀ d, n + d ≤ 6 → ringB n L m (n + d) = ringB n L m n := fun d => by
    induction d with
    | zero => intro _; rfl
    | succ d ih =>
      intro hd
      show (ringB n L m (n + d) && decide (balS L m (n + d) (2 * n) = 0)) = _
      rw [ih (by omega), hz _ (by omega) (by omega), decide_eq_true rfl, Bool.and_true]
  have := key (6 - n) (by omega)
  rwa [show n + (6 - n) = 6 by omega] at this
def rgB (n : Nat) (L : Ld) (m : Nat) : Bool := decide (m ≠ 0) && subB (pB L) m (2 * n) && ringB n L m n
def rgI (n : Nat) (L : Ld) (m : Nat) : Nat := if rgB n L m = true then 1 else 0
theorem rgB_iff {m : Nat} : rgB n L m = true ↔ m ≠ 0 ∧ subB (pB L) m (2 * n) = true ∧ ringB n L m n = true := by
  unfold rgB
  rw [Bool.and_eq_true, Bool.and_eq_true]
  exact ⟨fun ⟨⟨p, q⟩, r⟩ => ⟨of_decide_eq_true p, q, r⟩, fun ⟨p, q, r⟩ => ⟨⟨decide_eq_true p, q⟩, r⟩⟩
/-- the best of them: most laces, least as bits -/
def Bst (n : Nat) (L : Ld) (b : Nat) : Prop := (b = 0 ∨ (b < 2 ^ (2 * n) ∧ rgB n L b = true)) ∧ ∀ m, m < 2 ^ (2 * n) → rgB n L m = true → ¬ bett m b
theorem Bst.uniq (hn : n ≤ 6) {b c : Nat} (h1 : Bst n L b) (h2 : Bst n L c) : b = c := by
  have hp : 2 ^ (2 * n) ≤ 2 ^ 12 := Nat.pow_le_pow_right (by decide) (by omega)
  have pos : ∀ m, m < 2 ^ (2 * n) → rgB n L m = true → 0 < pcN m := fun m hm hr => (pc_ok (by omega)).2.2 (by have := (rgB_iff.mp hr).1; omega)
  rcases h1.1 with rfl | ⟨p1, p2⟩
  · rcases h2.1 with rfl | ⟨q1, q2⟩
    · rfl
    · have a1 := h1.2 c q1 q2
      have a2 := pos c q1 q2
      unfold bett at a1
      rw [pc_0] at a1
      omega
  · rcases h2.1 with rfl | ⟨q1, q2⟩
    · have a1 := h2.2 b p1 p2
      have a2 := pos b p1 p2
      unfold bett at a1
      rw [pc_0] at a1
      omega
    · have a1 := h2.2 b p1 p2
      have a2 := h1.2 c q1 q2
      unfold bett at a1 a2
      omega
theorem X7_take {c m b : Nat} (h2 : μ 256 2 = nI c) (h3 : μ 256 3 = nI b) (hm : m < 4096) (hb : b < 4096) : Ok (f_X7_take μ (nI m)) (fun ν => ν 256 2 = nI (c + 1) ∧ (∃ b', ν 256 3 = nI b' ∧ ((bett m b ∧ b' = m) ∨ (¬ bett m b ∧ b' = b))) ∧ Fr (fun k => k = 256) μ ν) := by
  obtain ⟨p1, p2, -⟩ := pc_ok hm
  obtain ⟨q1, q2, -⟩ := pc_ok hb
  have f0 : Fr (fun k => k = 256) μ (mset μ 256 2 (nI (c + 1))) := Fr.set rfl
  unfold f_X7_take
  rw [h2, nI_1, mset_atn (show 3 ≠ 2 by decide), h3]
  refine Ok.s J6_bit (Ok.s J6_bit ?_)
  rw [p1, q1]
  unfold f_X7_take_j39 f_X7_take_j44
  have yes : bett m b → Ok (some (mset (mset μ 256 2 (nI (c + 1))) 256 3 (nI m))) (fun ν => ν 256 2 = nI (c + 1) ∧ (∃ b', ν 256 3 = nI b' ∧ ((bett m b ∧ b' = m) ∨ (¬ bett m b ∧ b' = b))) ∧ Fr (fun k => k = 256) μ ν) := fun w => Ok.r ⟨by rw [mset_atn (by decide), mset_at], ⟨m, mset_at, Or.inl ⟨w, rfl⟩⟩, f0.put rfl⟩
  have no : ¬ bett m b → Ok (some (mset μ 256 2 (nI (c + 1)))) (fun ν => ν 256 2 = nI (c + 1) ∧ (∃ b', ν 256 3 = nI b' ∧ ((bett m b ∧ b' = m) ∨ (¬ bett m b ∧ b' = b))) ∧ Fr (fun k => k = 256) μ ν) := fun w => Ok.r ⟨mset_at, ⟨b, by rw [mset_atn (by decide)]; exact h3, Or.inr ⟨w, rfl⟩⟩, f0⟩
  rcases Nat.lt_trichotomy (pcN b) (pcN m) with w | w | w
  · refine Ok.t ?_ (yes (Or.inl w))
    rw [pk_sub (by omega)]
    exact nI_lt (a := 0) (by omega) (by omega)
  · have e : nI (pcN m) - nI (pcN b) = 0 := by rw [w, Int32.sub_self]
    refine Ok.e (by rw [e]; decide) (Ok.t e ?_)
    by_cases d : b ≤ m
    · exact Ok.t (nI_le d (by omega)) (no (fun x => by unfold bett at x; omega))
    · exact Ok.e (nI_ge (by omega) (by omega)) (yes (Or.inr ⟨w.symm, by omega⟩))
  · have hneg := Int32.lt_iff_toInt_lt.mp (pk_sneg (a := pcN m) (b := pcN b) (by omega) w)
    have e0 : ((0 : Int32)).toInt = 0 := by decide
    refine Ok.e (fun x => ?_) (Ok.e (fun x => ?_) (no (fun x => by unfold bett at x; omega)))
    · have := Int32.lt_iff_toInt_lt.mp x
      omega
    · rw [x] at hneg
      omega
end Rs
