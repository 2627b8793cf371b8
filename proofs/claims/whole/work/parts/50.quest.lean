/-! QUESTIONS -/
theorem fnt : ¬ (false = true) := Bool.false_ne_true
theorem osum_0 {g : Nat → Int32} : ∀ {m : Nat}, (∀ i, i < m → g i = 0) → osum g m = 0
  | 0, _ => rfl
  | m + 1, h => by rw [osum_s, osum_0 (fun i hi => h i (by omega)), h m (by omega)]; rfl
theorem osum_ext {g : Nat → Int32} {a : Nat} : ∀ {d : Nat}, (∀ i, a ≤ i → i < a + d → g i = 0) → osum g (a + d) = osum g a
  | 0, _ => rfl
  | d + 1, h => by
    show osum g (a + d) + g (a + d) = _
    rw [osum_ext (fun i h1 h2 => h i h1 (by omega)), h (a + d) (by omega) (by omega), Int32.add_zero]
theorem osum_pair {g : Nat → Int32} {a m : Nat} (h : ∀ i, i ≠ a → i ≠ a + 1 → g i = 0) (ha : a + 2 ≤ m) : osum g m = g a + g (a + 1) := by
  obtain ⟨d, rfl⟩ : ∃ d, m = a + 2 + d := ⟨m - (a + 2), by omega⟩
  rw [osum_ext (fun i h1 h2 => h i (by omega) (by omega))]
  show osum g a + g a + g (a + 1) = _
  rw [osum_0 (fun i hi => h i (by omega) (by omega)), Int32.zero_add]
theorem b_3 : ∀ i, i < 32 → bt 3 i = decide (i < 2) := by decide +kernel
theorem three_b {p l : Nat} (hp : 2 * p < 32) (hl : l < 32) : bt (3 <<< (nI (2 * p) &&& 31)) l = decide (l = 2 * p ∨ l = 2 * p + 1) := by
  rw [b_shl _ hp _ hl]
  by_cases h : 2 * p ≤ l
  · rw [b_3 (l - 2 * p) (by omega)]
    by_cases h2 : l = 2 * p ∨ l = 2 * p + 1
    · rw [decide_eq_true h, decide_eq_true h2, decide_eq_true (show l - 2 * p < 2 by omega)]; rfl
    · rw [decide_eq_true h, decide_eq_false h2, decide_eq_false (show ¬ l - 2 * p < 2 by omega)]; rfl
  · rw [decide_eq_false h, decide_eq_false (show ¬ (l = 2 * p ∨ l = 2 * p + 1) by omega)]; rfl
def owedA (L : Ld) (p : Nat) : Int32 := L 8 (2 * p) + L 8 (2 * p + 1)
def dueTo (n : Nat) (L : Ld) (p : Nat) : Int32 := osum (fun l => if L 7 l = nI p then L 8 l else 0) (2 * n)
def lostS (n : Nat) (L : Ld) : Int32 := obits (fun l => decide (L 6 l = 2)) (2 * n)
def pledS (n : Nat) (L : Ld) : Int32 := obits (fun l => decide (L 6 l = 1)) (2 * n)
theorem pw_nI {m : Nat} (hm : m < 31) : pw m = nI (2 ^ m) := by
  have h2 : (2 : Nat) ^ m < 2 ^ 31 := Nat.pow_lt_pow_right (by decide) hm
  unfold pw
  rw [show (1 : Int32) = nI 1 from rfl, pk_shlN _ m (s_l m (by omega)) (by omega), Nat.one_mul]
theorem ob_nI {P : Nat → Bool} : ∀ {m : Nat}, m < 31 → ∃ k, k < 2 ^ m ∧ obits P m = nI k
  | 0, _ => ⟨0, by decide, rfl⟩
  | m + 1, hm => by
    obtain ⟨k, hk, e⟩ := ob_nI (P := P) (m := m) (by omega)
    by_cases h : P m = true
    · refine ⟨2 ^ m + k, by rw [Nat.pow_succ]; omega, ?_⟩
      show (if P m = true then obits P m ||| pw m else obits P m) = _
      rw [if_pos h, e, pw_nI (by omega), Int32.or_comm]
      have := or_add (a := 1) m hk
      rwa [Nat.one_mul] at this
    · refine ⟨k, by rw [Nat.pow_succ]; omega, ?_⟩
      show (if P m = true then obits P m ||| pw m else obits P m) = _
      rw [if_neg h, e]
theorem ob_12 {P : Nat → Bool} {m : Nat} (hm : m ≤ 12) : ∃ k, k < 4096 ∧ obits P m = nI k := by
  obtain ⟨k, hk, e⟩ := ob_nI (P := P) (m := m) (by omega)
  exact ⟨k, Nat.lt_of_lt_of_le hk (Nat.le_trans (Nat.pow_le_pow_right (by decide) hm) (by decide)), e⟩
theorem bitC_0' : ∀ a, a < 64 → ∀ b, b < 64 → bitC (nI (64 * a + b)) = 0 → nI (64 * a + b) = 0 := by decide +kernel
theorem bitC_0 (k : Nat) (h : k < 4096) : bitC (nI k) = 0 → nI k = 0 := by
  have := bitC_0' (k / 64) (by omega) (k % 64) (by omega)
  rwa [show 64 * (k / 64) + k % 64 = k by omega] at this
theorem bitC_00 : bitC 0 = 0 := by decide +kernel
section Qu
variable {n : Nat} {f : Int32} {μ : Mem} {L : Ld} {T : Tx} {a : Nat}
theorem amt_owed (hn : n ≤ 6) {p : Nat} (hp : p < n) : amt n L (3 <<< (nI (2 * p) &&& 31)) = owedA L p := by
  unfold amt owedA
  rw [osum_congr (g := fun l => if l = 2 * p ∨ l = 2 * p + 1 then L 8 l else 0) (fun l hl => by rw [three_b (by omega) (by omega)]; simp)]
  rw [osum_pair (a := 2 * p) (fun i h1 h2 => if_neg (by omega)) (by omega), if_pos (Or.inl rfl), if_pos (Or.inr rfl)]
theorem amt_due (hn : n ≤ 6) {p : Nat} : amt n L (held n L p) = dueTo n L p := by
  unfold amt dueTo held
  refine osum_congr fun l hl => ?_
  rw [ob_b (by omega) (by omega), decide_eq_true hl, Bool.true_and]
  simp
theorem X2_owedBy (h : CL n f μ a L) {p : Nat} (hp : p < n) : f_X2_owedBy μ a (nI p) = some (owedA L p) := by
  unfold f_X2_owedBy f_X11_lacesOf
  rw [two_nI, sb9, X2_amountOf h, sb9, amt_owed h.n6 hp]
theorem X2_dueTo (h : CL n f μ a L) {p : Nat} : f_X2_dueTo μ a (nI p) = some (dueTo n L p) := by
  unfold f_X2_dueTo
  rw [X2_heldBy h, sb9, X2_amountOf h, sb9]
  exact congrArg some (amt_due h.n6)
theorem X12_owesOf (h : ML n f (μ 265) L) (hw : WF n L) {p : Nat} (hp : p < n) : f_X12_owesOf μ (nI p) = some (owedA L p) := by
  have hn := h.n6
  unfold f_X12_owesOf f_X12_owesOf_l6
  rw [two_nI]
  refine bind_loop (fun i => (osum (fun j => L 8 (2 * p + j)) i, nI (2 * p + i))) 2 (osum (fun j => L 8 (2 * p + j)) 2) rfl (fun i hi => ?_) ?_ (by decide) ?_
  · show f_X12_owesOf_b6 μ (nI p) _ (nI (2 * p + i)) = _
    unfold f_X12_owesOf_b6
    rw [two_nI, nI_1]
    refine ie (nI_nlt (by omega) (by omega)) (bs (X12_isPledged h (by omega)) ?_)
    by_cases c : L 6 (2 * p + i) = 1
    · refine it (decide_eq_true c) (bs (X12_lace2 h (by omega)) ?_)
      unfold f_X12_owesOf_j34_6
      rw [nI_1]; rfl
    · refine ie (by simp [c]) ?_
      unfold f_X12_owesOf_j34_6
      rw [nI_1, ← (hw.lace (show 2 * p + i < 2 * n by omega)).amt0 c]; rfl
  · show f_X12_owesOf_b6 μ (nI p) _ (nI (2 * p + 2)) = _
    unfold f_X12_owesOf_b6
    rw [two_nI, nI_1]
    exact it (nI_lt (by omega) (by omega)) rfl
  · show some (0 + L 8 (2 * p + 0) + L 8 (2 * p + 1)) = _
    rw [Int32.zero_add]; rfl
theorem X12_dueTo (h : ML n f (μ 265) L) (hw : WF n L) {p : Nat} : f_X12_dueTo μ (nI p) = some (dueTo n L p) := by
  have hn := h.n6
  unfold f_X12_dueTo f_X12_dueTo_l4
  refine bind_loop (fun i => (osum (fun l => if L 7 l = nI p then L 8 l else 0) i, nI i)) (2 * n) _ rfl (fun i hi => ?_) ?_ (by omega) rfl
  · show f_X12_dueTo_b4 μ (nI p) _ (nI i) = _
    unfold f_X12_dueTo_b4
    refine bs (X12_laces h) (ie (nI_ge hi (by omega)) (bs (X12_isPledged h hi) ?_))
    by_cases c : L 6 i = 1
    · refine it (decide_eq_true c) (bs (X12_lace1 h hi) ?_)
      by_cases d : L 7 i = nI p
      · refine it d (bs (X12_lace2 h hi) ?_)
        unfold f_X12_dueTo_j41_4
        rw [nI_1, osum_s, if_pos d]
      · refine ie d ?_
        unfold f_X12_dueTo_j40_4 f_X12_dueTo_j41_4
        rw [nI_1, osum_s, if_neg d]
    · refine ie (by simp [c]) ?_
      unfold f_X12_dueTo_j40_4 f_X12_dueTo_j41_4
      rw [nI_1, osum_s, (hw.lace hi).amt0 c]
      split <;> rfl
  · show f_X12_dueTo_b4 μ (nI p) _ (nI (2 * n)) = _
    unfold f_X12_dueTo_b4
    exact bs (X12_laces h) (it (nI_le (Nat.le_refl _) (by omega)) rfl)
def shareA (n : Nat) (L : Ld) (p : Nat) : Int32 := if lostS n L = 0 then 0 else (100 * bitC (lostS n L &&& held n L p)) / bitC (lostS n L)
theorem lost_c (hn : n ≤ 6) : bitC (lostS n L) = 0 ↔ lostS n L = 0 := by
  obtain ⟨k, hk, e⟩ := ob_12 (P := fun l => decide (L 6 l = 2)) (m := 2 * n) (by omega)
  unfold lostS
  rw [e]
  exact ⟨bitC_0 k hk, fun q => by rw [q]; exact bitC_00⟩
theorem X2_shareOf (h : CL n f μ a L) {p : Nat} : f_X2_shareOf μ a (nI p) = some (shareA n L p) := by
  unfold f_X2_shareOf shareA
  refine bs (X2_lacesThatAre h 2) (bs J6_bit ?_)
  by_cases c : lostS n L = 0
  · rw [if_pos c]
    exact it ((lost_c h.n6).mpr c) rfl
  · rw [if_neg c]
    have c2 : ¬ bitC (lostS n L) = 0 := fun q => c ((lost_c h.n6).mp q)
    refine ie c2 (bs (X2_heldBy h (nI p)) (bs J6_bit (bs (a := (100 * bitC (lostS n L &&& held n L p)) / bitC (lostS n L)) ?_ rfl)))
    unfold dv
    exact if_neg c2
theorem X12_shareOf (h : ML n f (μ 265) L) (hw : WF n L) {p : Nat} (hp : p < n) : f_X12_shareOf μ (nI p) = some (shareA n L p) := by
  have hn := h.n6
  unfold f_X12_shareOf shareA
  refine bs (X12_lostOnes h) ?_
  by_cases c : lostS n L = 0
  · rw [if_pos c]
    exact it c rfl
  · rw [if_neg c]
    have c2 : ¬ bitC (lostS n L) = 0 := fun q => c ((lost_c h.n6).mp q)
    refine ie c (bs (X12_heldBy h hw (by omega)) (bs J6_bit (bs J6_bit (bs (a := (100 * bitC (lostS n L &&& held n L p)) / bitC (lostS n L)) ?_ rfl))))
    unfold dv
    exact if_neg c2
theorem gait_m {p : Nat} : (b2i (if decide (L 6 (2 * p) = 0) = true then (false : Bool) else true) + (if decide (L 6 (2 * p + 1) = 0) = true then (0 : Int32) else 2)) = gait L p := by
  unfold gait off9
  by_cases c : L 6 (2 * p) = 0 <;> by_cases d : L 6 (2 * p + 1) = 0 <;> simp [c, d, b2i]

theorem q_person (h : St n f L T μ) (p1 p2 : Int32) : AgQ μ (f_L_person μ p1 p2) (fun ν => f_X12_person ν p1 p2) := by
  have hn := h.n6
  by_cases b1 : outb p1 0 (nI n - 1) = true
  · refine ⟨1, 0, wrap2 (k := 2) (by decide) rfl ?_, fun ν hk => ?_⟩
    · unfold f_X11_person
      refine Ok.s (X11_needPerson h.c p1) ?_
      rw [if_pos b1]
      exact elimL' (XR.no (by decide) KC.refl)
    · have m0 := h.m0 hk
      unfold f_X12_person
      refine Ok.s (X12_noPerson m0.m p1) ?_
      rw [b1]
      exact Ok.s (X12_thrT 1) (Ok.t rfl (mrT (by decide)))
  · have b1' : outb p1 0 (nI n - 1) = false := by simpa using b1
    obtain ⟨p, hp, rfl⟩ := outb_ix (by omega) b1'
    by_cases b2 : outb p2 0 10 = true
    · refine ⟨2, 0, wrap2 (k := 4) (by decide) rfl ?_, fun ν hk => ?_⟩
      · unfold f_X11_person
        refine Ok.s (X11_needPerson h.c _) ?_
        rw [if_neg b1]
        have no : ∀ j, j ≤ 10 → ¬ p2 = nI j := fun j hj q => by
          have := (by decide : ∀ j, j < 11 → outb (nI j) 0 10 = false) j (by omega)
          rw [← q, b2] at this
          cases this
        exact elimR' (Ok.e (no 0 (by decide)) (Ok.e (no 1 (by decide)) (Ok.e (no 2 (by decide)) (Ok.e (no 3 (by decide)) (Ok.e (no 4 (by decide)) (Ok.e (no 5 (by decide)) (Ok.e (no 6 (by decide)) (Ok.e (no 7 (by decide)) (Ok.e (no 8 (by decide)) (Ok.e (no 9 (by decide)) (Ok.e (no 10 (by decide)) (XR.no (by decide) KC.refl))))))))))))
      · have m0 := h.m0 hk
        unfold f_X12_person
        refine Ok.s (X12_noPerson m0.m _) ?_
        rw [b1']
        refine Ok.s (X12_thrF 1) (Ok.e fnt ?_)
        refine Ok.s X12_in ?_
        rw [nb, b2]
        exact Ok.s (X12_thrT 2) (Ok.t rfl (mrT (by decide)))
    · have b2' : outb p2 0 10 = false := by simpa using b2
      obtain ⟨j, hj, rfl⟩ := outb_rng (b := 10) rfl (by decide) b2'
      rcases (show j = 0 ∨ j = 1 ∨ j = 2 ∨ j = 3 ∨ j = 4 ∨ j = 5 ∨ j = 6 ∨ j = 7 ∨ j = 8 ∨ j = 9 ∨ j = 10 by omega) with rfl | rfl | rfl | rfl | rfl | rfl | rfl | rfl | rfl | rfl | rfl
      · refine ⟨0, L 1 p, wrap2 (k := 0) (by decide) rfl ?_, fun ν hk => ?_⟩
        · unfold f_X11_person
          refine Ok.s (X11_needPerson h.c _) ?_
          rw [if_neg b1]
          refine elimR' ?_
          refine (Ok.t rfl ?_)
          refine Ok.s (h.c.rdP (k := 1) (by decide) hp) ?_
          exact XR.yes rfl KC.refl
        · have m0 := h.m0 hk
          unfold f_X12_person
          refine Ok.s (X12_noPerson m0.m _) ?_
          rw [b1']
          refine Ok.s (X12_thrF 1) (Ok.e fnt ?_)
          refine Ok.s X12_in ?_
          rw [nb, b2']
          refine Ok.s (X12_thrF 2) (Ok.e fnt ?_)
          refine (Ok.e (by decide) (Ok.e (by decide) (Ok.e (by decide) (Ok.e (by decide) (Ok.e (by decide) (Ok.e (by decide) ?_))))))
          refine Ok.s (X12_of0 m0.m hp) ?_
          exact mrV rfl
      · refine ⟨0, L 2 p, wrap2 (k := 0) (by decide) rfl ?_, fun ν hk => ?_⟩
        · unfold f_X11_person
          refine Ok.s (X11_needPerson h.c _) ?_
          rw [if_neg b1]
          refine elimR' ?_
          refine (Ok.e (by decide) (Ok.t rfl ?_))
          refine Ok.s (h.c.rdP (k := 2) (by decide) hp) ?_
          exact XR.yes rfl KC.refl
        · have m0 := h.m0 hk
          unfold f_X12_person
          refine Ok.s (X12_noPerson m0.m _) ?_
          rw [b1']
          refine Ok.s (X12_thrF 1) (Ok.e fnt ?_)
          refine Ok.s X12_in ?_
          rw [nb, b2']
          refine Ok.s (X12_thrF 2) (Ok.e fnt ?_)
          refine (Ok.e (by decide) (Ok.e (by decide) (Ok.e (by decide) (Ok.e (by decide) (Ok.e (by decide) (Ok.e (by decide) ?_))))))
          refine Ok.s (X12_of1 m0.m hp) ?_
          exact mrV rfl
      · refine ⟨0, L 3 p, wrap2 (k := 0) (by decide) rfl ?_, fun ν hk => ?_⟩
        · unfold f_X11_person
          refine Ok.s (X11_needPerson h.c _) ?_
          rw [if_neg b1]
          refine elimR' ?_
          refine (Ok.e (by decide) (Ok.e (by decide) (Ok.t rfl ?_)))
          refine Ok.s (h.c.rdP (k := 3) (by decide) hp) ?_
          exact XR.yes rfl KC.refl
        · have m0 := h.m0 hk
          unfold f_X12_person
          refine Ok.s (X12_noPerson m0.m _) ?_
          rw [b1']
          refine Ok.s (X12_thrF 1) (Ok.e fnt ?_)
          refine Ok.s X12_in ?_
          rw [nb, b2']
          refine Ok.s (X12_thrF 2) (Ok.e fnt ?_)
          refine (Ok.e (by decide) (Ok.e (by decide) (Ok.e (by decide) (Ok.e (by decide) (Ok.e (by decide) (Ok.e (by decide) ?_))))))
          refine Ok.s (X12_of2 m0.m hp) ?_
          exact mrV rfl
      · refine ⟨0, L 4 p, wrap2 (k := 0) (by decide) rfl ?_, fun ν hk => ?_⟩
        · unfold f_X11_person
          refine Ok.s (X11_needPerson h.c _) ?_
          rw [if_neg b1]
          refine elimR' ?_
          refine (Ok.e (by decide) (Ok.e (by decide) (Ok.e (by decide) (Ok.t rfl ?_))))
          refine Ok.s (h.c.rdP (k := 4) (by decide) hp) ?_
          exact XR.yes rfl KC.refl
        · have m0 := h.m0 hk
          unfold f_X12_person
          refine Ok.s (X12_noPerson m0.m _) ?_
          rw [b1']
          refine Ok.s (X12_thrF 1) (Ok.e fnt ?_)
          refine Ok.s X12_in ?_
          rw [nb, b2']
          refine Ok.s (X12_thrF 2) (Ok.e fnt ?_)
          refine (Ok.e (by decide) (Ok.e (by decide) (Ok.e (by decide) (Ok.e (by decide) (Ok.e (by decide) (Ok.e (by decide) ?_))))))
          refine Ok.s (X12_of3 m0.m hp) ?_
          exact mrV rfl
      · refine ⟨0, L 5 p, wrap2 (k := 0) (by decide) rfl ?_, fun ν hk => ?_⟩
        · unfold f_X11_person
          refine Ok.s (X11_needPerson h.c _) ?_
          rw [if_neg b1]
          refine elimR' ?_
          refine (Ok.e (by decide) (Ok.e (by decide) (Ok.e (by decide) (Ok.e (by decide) (Ok.t rfl ?_)))))
          refine Ok.s (h.c.rdP (k := 5) (by decide) hp) ?_
          exact XR.yes rfl KC.refl
        · have m0 := h.m0 hk
          unfold f_X12_person
          refine Ok.s (X12_noPerson m0.m _) ?_
          rw [b1']
          refine Ok.s (X12_thrF 1) (Ok.e fnt ?_)
          refine Ok.s X12_in ?_
          rw [nb, b2']
          refine Ok.s (X12_thrF 2) (Ok.e fnt ?_)
          refine (Ok.e (by decide) (Ok.e (by decide) (Ok.e (by decide) (Ok.e (by decide) (Ok.e (by decide) (Ok.e (by decide) ?_))))))
          refine Ok.s (X12_of4 m0.m hp) ?_
          exact mrV rfl
      · refine ⟨0, gait L p, wrap2 (k := 0) (by decide) rfl ?_, fun ν hk => ?_⟩
        · unfold f_X11_person
          refine Ok.s (X11_needPerson h.c _) ?_
          rw [if_neg b1]
          refine elimR' ?_
          refine (Ok.e (by decide) (Ok.e (by decide) (Ok.e (by decide) (Ok.e (by decide) (Ok.e (by decide) (Ok.t rfl ?_))))))
          refine Ok.s (X2_gaitOf h.c hp) ?_
          exact XR.yes rfl KC.refl
        · have m0 := h.m0 hk
          unfold f_X12_person
          refine Ok.s (X12_noPerson m0.m _) ?_
          rw [b1']
          refine Ok.s (X12_thrF 1) (Ok.e fnt ?_)
          refine Ok.s X12_in ?_
          rw [nb, b2']
          refine Ok.s (X12_thrF 2) (Ok.e fnt ?_)
          refine (Ok.t rfl ?_)
          rw [two_nI, nI_1]
          refine Ok.s (X12_isIn m0.m (show 2 * p < 2 * n by omega)) (Ok.s (X12_isIn m0.m (show 2 * p + 1 < 2 * n by omega)) ?_)
          exact mrV gait_m
      · refine ⟨0, held n L p, wrap2 (k := 0) (by decide) rfl ?_, fun ν hk => ?_⟩
        · unfold f_X11_person
          refine Ok.s (X11_needPerson h.c _) ?_
          rw [if_neg b1]
          refine elimR' ?_
          refine (Ok.e (by decide) (Ok.e (by decide) (Ok.e (by decide) (Ok.e (by decide) (Ok.e (by decide) (Ok.e (by decide) (Ok.t rfl ?_)))))))
          refine Ok.s (X2_heldBy h.c (nI p)) ?_
          exact XR.yes rfl KC.refl
        · have m0 := h.m0 hk
          unfold f_X12_person
          refine Ok.s (X12_noPerson m0.m _) ?_
          rw [b1']
          refine Ok.s (X12_thrF 1) (Ok.e fnt ?_)
          refine Ok.s X12_in ?_
          rw [nb, b2']
          refine Ok.s (X12_thrF 2) (Ok.e fnt ?_)
          refine (Ok.e (by decide) (Ok.t rfl ?_))
          refine Ok.s (X12_heldBy m0.m m0.w (show p < 2 ^ 31 by omega)) ?_
          exact mrV rfl
      · refine ⟨0, owedA L p, wrap2 (k := 0) (by decide) rfl ?_, fun ν hk => ?_⟩
        · unfold f_X11_person
          refine Ok.s (X11_needPerson h.c _) ?_
          rw [if_neg b1]
          refine elimR' ?_
          refine (Ok.e (by decide) (Ok.e (by decide) (Ok.e (by decide) (Ok.e (by decide) (Ok.e (by decide) (Ok.e (by decide) (Ok.e (by decide) (Ok.t rfl ?_))))))))
          refine Ok.s (X2_owedBy h.c hp) ?_
          exact XR.yes rfl KC.refl
        · have m0 := h.m0 hk
          unfold f_X12_person
          refine Ok.s (X12_noPerson m0.m _) ?_
          rw [b1']
          refine Ok.s (X12_thrF 1) (Ok.e fnt ?_)
          refine Ok.s X12_in ?_
          rw [nb, b2']
          refine Ok.s (X12_thrF 2) (Ok.e fnt ?_)
          refine (Ok.e (by decide) (Ok.e (by decide) (Ok.t rfl ?_)))
          refine Ok.s (X12_owesOf m0.m m0.w hp) ?_
          exact mrV rfl
      · refine ⟨0, dueTo n L p, wrap2 (k := 0) (by decide) rfl ?_, fun ν hk => ?_⟩
        · unfold f_X11_person
          refine Ok.s (X11_needPerson h.c _) ?_
          rw [if_neg b1]
          refine elimR' ?_
          refine (Ok.e (by decide) (Ok.e (by decide) (Ok.e (by decide) (Ok.e (by decide) (Ok.e (by decide) (Ok.e (by decide) (Ok.e (by decide) (Ok.e (by decide) (Ok.t rfl ?_)))))))))
          refine Ok.s (X2_dueTo h.c) ?_
          exact XR.yes rfl KC.refl
        · have m0 := h.m0 hk
          unfold f_X12_person
          refine Ok.s (X12_noPerson m0.m _) ?_
          rw [b1']
          refine Ok.s (X12_thrF 1) (Ok.e fnt ?_)
          refine Ok.s X12_in ?_
          rw [nb, b2']
          refine Ok.s (X12_thrF 2) (Ok.e fnt ?_)
          refine (Ok.e (by decide) (Ok.e (by decide) (Ok.e (by decide) (Ok.t rfl ?_))))
          refine Ok.s (X12_dueTo m0.m m0.w) ?_
          exact mrV rfl
      · refine ⟨0, (L 1 p + dueTo n L p) - owedA L p, wrap2 (k := 0) (by decide) rfl ?_, fun ν hk => ?_⟩
        · unfold f_X11_person
          refine Ok.s (X11_needPerson h.c _) ?_
          rw [if_neg b1]
          refine elimR' ?_
          refine (Ok.e (by decide) (Ok.e (by decide) (Ok.e (by decide) (Ok.e (by decide) (Ok.e (by decide) (Ok.e (by decide) (Ok.e (by decide) (Ok.e (by decide) (Ok.e (by decide) (Ok.t rfl ?_))))))))))
          refine Ok.s (h.c.rdP (k := 1) (by decide) hp) (Ok.s (X2_dueTo h.c) (Ok.s (X2_owedBy h.c hp) ?_))
          exact XR.yes rfl KC.refl
        · have m0 := h.m0 hk
          unfold f_X12_person
          refine Ok.s (X12_noPerson m0.m _) ?_
          rw [b1']
          refine Ok.s (X12_thrF 1) (Ok.e fnt ?_)
          refine Ok.s X12_in ?_
          rw [nb, b2']
          refine Ok.s (X12_thrF 2) (Ok.e fnt ?_)
          refine (Ok.e (by decide) (Ok.e (by decide) (Ok.e (by decide) (Ok.e (by decide) (Ok.t rfl ?_)))))
          refine Ok.s (X12_of0 m0.m hp) (Ok.s (X12_dueTo m0.m m0.w) (Ok.s (X12_owesOf m0.m m0.w hp) ?_))
          exact mrV rfl
      · refine ⟨0, shareA n L p, wrap2 (k := 0) (by decide) rfl ?_, fun ν hk => ?_⟩
        · unfold f_X11_person
          refine Ok.s (X11_needPerson h.c _) ?_
          rw [if_neg b1]
          refine elimR' ?_
          refine (Ok.e (by decide) (Ok.e (by decide) (Ok.e (by decide) (Ok.e (by decide) (Ok.e (by decide) (Ok.e (by decide) (Ok.e (by decide) (Ok.e (by decide) (Ok.e (by decide) (Ok.e (by decide) (Ok.t rfl ?_)))))))))))
          refine Ok.s (X2_shareOf h.c) ?_
          exact XR.yes rfl KC.refl
        · have m0 := h.m0 hk
          unfold f_X12_person
          refine Ok.s (X12_noPerson m0.m _) ?_
          rw [b1']
          refine Ok.s (X12_thrF 1) (Ok.e fnt ?_)
          refine Ok.s X12_in ?_
          rw [nb, b2']
          refine Ok.s (X12_thrF 2) (Ok.e fnt ?_)
          refine (Ok.e (by decide) (Ok.e (by decide) (Ok.e (by decide) (Ok.e (by decide) (Ok.e (by decide) (Ok.t rfl ?_))))))
          refine Ok.s (X12_shareOf m0.m m0.w hp) ?_
          exact mrV rfl
theorem q_lace (h : St n f L T μ) (p1 p2 : Int32) : AgQ μ (f_L_lace μ p1 p2) (fun ν => f_X12_lace ν p1 p2) := by
  have hn := h.n6
  by_cases b1 : outb p1 0 (nI (2 * n) - 1) = true
  · refine ⟨1, 0, wrap2 (k := 2) (by decide) rfl ?_, fun ν hk => ?_⟩
    · unfold f_X11_lace
      refine Ok.s (X11_needLace h.c p1) ?_
      rw [if_pos b1]
      exact elimL' (XR.no (by decide) KC.refl)
    · have m0 := h.m0 hk
      unfold f_X12_lace
      refine Ok.s (X12_noLace m0.m p1) ?_
      rw [b1]
      exact Ok.s (X12_thrT 1) (Ok.t rfl (mrT (by decide)))
  · have b1' : outb p1 0 (nI (2 * n) - 1) = false := by simpa using b1
    obtain ⟨l, hl, rfl⟩ := outb_ix (by omega) b1'
    by_cases b2 : outb p2 0 5 = true
    · refine ⟨2, 0, wrap2 (k := 4) (by decide) rfl ?_, fun ν hk => ?_⟩
      · unfold f_X11_lace
        refine Ok.s (X11_needLace h.c _) ?_
        rw [if_neg b1]
        have no : ∀ j, j ≤ 5 → ¬ p2 = nI j := fun j hj q => by
          have := (by decide : ∀ j, j < 6 → outb (nI j) 0 5 = false) j (by omega)
          rw [← q, b2] at this
          cases this
        exact elimR' (Ok.e (no 0 (by decide)) (Ok.e (no 1 (by decide)) (Ok.e (no 2 (by decide)) (Ok.e (no 3 (by decide)) (Ok.e (no 4 (by decide)) (Ok.e (no 5 (by decide)) (XR.no (by decide) KC.refl)))))))
      · have m0 := h.m0 hk
        unfold f_X12_lace
        refine Ok.s (X12_noLace m0.m _) ?_
        rw [b1']
        refine Ok.s (X12_thrF 1) (Ok.e fnt ?_)
        refine Ok.s X12_in ?_
        rw [nb, b2]
        exact Ok.s (X12_thrT 2) (Ok.t rfl (mrT (by decide)))
    · have b2' : outb p2 0 5 = false := by simpa using b2
      obtain ⟨j, hj, rfl⟩ := outb_rng (b := 5) rfl (by decide) b2'
      rcases (show j = 0 ∨ j = 1 ∨ j = 2 ∨ j = 3 ∨ j = 4 ∨ j = 5 by omega) with rfl | rfl | rfl | rfl | rfl | rfl
      · refine ⟨0, L 6 l, wrap2 (k := 0) (by decide) rfl ?_, fun ν hk => ?_⟩
        · unfold f_X11_lace
          refine Ok.s (X11_needLace h.c _) ?_
          rw [if_neg b1]
          refine elimR' ?_
          refine (Ok.t rfl ?_)
          refine Ok.s (h.c.rdL (k := 6) (by decide) hl) ?_
          exact XR.yes rfl KC.refl
        · have m0 := h.m0 hk
          unfold f_X12_lace
          refine Ok.s (X12_noLace m0.m _) ?_
          rw [b1']
          refine Ok.s (X12_thrF 1) (Ok.e fnt ?_)
          refine Ok.s X12_in ?_
          rw [nb, b2']
          refine Ok.s (X12_thrF 2) (Ok.e fnt ?_)
          refine Ok.s (X12_lace0 m0.m hl) ?_
          exact mrV rfl
      · refine ⟨0, L 7 l, wrap2 (k := 0) (by decide) rfl ?_, fun ν hk => ?_⟩
        · unfold f_X11_lace
          refine Ok.s (X11_needLace h.c _) ?_
          rw [if_neg b1]
          refine elimR' ?_
          refine (Ok.e (by decide) (Ok.t rfl ?_))
          refine Ok.s (h.c.rdL (k := 7) (by decide) hl) ?_
          exact XR.yes rfl KC.refl
        · have m0 := h.m0 hk
          unfold f_X12_lace
          refine Ok.s (X12_noLace m0.m _) ?_
          rw [b1']
          refine Ok.s (X12_thrF 1) (Ok.e fnt ?_)
          refine Ok.s X12_in ?_
          rw [nb, b2']
          refine Ok.s (X12_thrF 2) (Ok.e fnt ?_)
          refine Ok.s (X12_lace1 m0.m hl) ?_
          exact mrV rfl
      · refine ⟨0, L 8 l, wrap2 (k := 0) (by decide) rfl ?_, fun ν hk => ?_⟩
        · unfold f_X11_lace
          refine Ok.s (X11_needLace h.c _) ?_
          rw [if_neg b1]
          refine elimR' ?_
          refine (Ok.e (by decide) (Ok.e (by decide) (Ok.t rfl ?_)))
          refine Ok.s (h.c.rdL (k := 8) (by decide) hl) ?_
          exact XR.yes rfl KC.refl
        · have m0 := h.m0 hk
          unfold f_X12_lace
          refine Ok.s (X12_noLace m0.m _) ?_
          rw [b1']
          refine Ok.s (X12_thrF 1) (Ok.e fnt ?_)
          refine Ok.s X12_in ?_
          rw [nb, b2']
          refine Ok.s (X12_thrF 2) (Ok.e fnt ?_)
          refine Ok.s (X12_lace2 m0.m hl) ?_
          exact mrV rfl
      · refine ⟨0, L 9 l, wrap2 (k := 0) (by decide) rfl ?_, fun ν hk => ?_⟩
        · unfold f_X11_lace
          refine Ok.s (X11_needLace h.c _) ?_
          rw [if_neg b1]
          refine elimR' ?_
          refine (Ok.e (by decide) (Ok.e (by decide) (Ok.e (by decide) (Ok.t rfl ?_))))
          refine Ok.s (h.c.rdL (k := 9) (by decide) hl) ?_
          exact XR.yes rfl KC.refl
        · have m0 := h.m0 hk
          unfold f_X12_lace
          refine Ok.s (X12_noLace m0.m _) ?_
          rw [b1']
          refine Ok.s (X12_thrF 1) (Ok.e fnt ?_)
          refine Ok.s X12_in ?_
          rw [nb, b2']
          refine Ok.s (X12_thrF 2) (Ok.e fnt ?_)
          refine Ok.s (X12_lace3 m0.m hl) ?_
          exact mrV rfl
      · refine ⟨0, L 10 l, wrap2 (k := 0) (by decide) rfl ?_, fun ν hk => ?_⟩
        · unfold f_X11_lace
          refine Ok.s (X11_needLace h.c _) ?_
          rw [if_neg b1]
          refine elimR' ?_
          refine (Ok.e (by decide) (Ok.e (by decide) (Ok.e (by decide) (Ok.e (by decide) (Ok.t rfl ?_)))))
          refine Ok.s (h.c.rdL (k := 10) (by decide) hl) ?_
          exact XR.yes rfl KC.refl
        · have m0 := h.m0 hk
          unfold f_X12_lace
          refine Ok.s (X12_noLace m0.m _) ?_
          rw [b1']
          refine Ok.s (X12_thrF 1) (Ok.e fnt ?_)
          refine Ok.s X12_in ?_
          rw [nb, b2']
          refine Ok.s (X12_thrF 2) (Ok.e fnt ?_)
          refine Ok.s (X12_lace4 m0.m hl) ?_
          exact mrV rfl
      · refine ⟨0, L 11 l, wrap2 (k := 0) (by decide) rfl ?_, fun ν hk => ?_⟩
        · unfold f_X11_lace
          refine Ok.s (X11_needLace h.c _) ?_
          rw [if_neg b1]
          refine elimR' ?_
          refine (Ok.e (by decide) (Ok.e (by decide) (Ok.e (by decide) (Ok.e (by decide) (Ok.e (by decide) (Ok.t rfl ?_))))))
          refine Ok.s (h.c.rdL (k := 11) (by decide) hl) ?_
          exact XR.yes rfl KC.refl
        · have m0 := h.m0 hk
          unfold f_X12_lace
          refine Ok.s (X12_noLace m0.m _) ?_
          rw [b1']
          refine Ok.s (X12_thrF 1) (Ok.e fnt ?_)
          refine Ok.s X12_in ?_
          rw [nb, b2']
          refine Ok.s (X12_thrF 2) (Ok.e fnt ?_)
          refine Ok.s (X12_lace5 m0.m hl) ?_
          exact mrV rfl
theorem q_mud (h : St n f L T μ) (p1 : Int32) : AgQ μ (f_L_mud μ p1) (fun ν => f_X12_mud ν p1) := by
  have hn := h.n6
  by_cases b1 : outb p1 0 19 = true
  · refine ⟨1, 0, wrap1 (k := 2) (by decide) rfl ?_, fun ν hk => ?_⟩
    · unfold f_X11_mud
      refine Ok.s (X11_needPlace p1) ?_
      rw [if_pos b1]
      exact elimL' (XR.no (by decide) KC.refl)
    · unfold f_X12_mud
      refine Ok.s (X12_noPlace p1) ?_
      rw [b1]
      exact Ok.s (X12_thrT 1) (Ok.t rfl (mrT (by decide)))
  · have b1' : outb p1 0 19 = false := by simpa using b1
    obtain ⟨q, hq, rfl⟩ := outb_rng (b := 19) rfl (by decide) b1'
    refine ⟨0, L 12 q, wrap1 (k := 0) (by decide) rfl ?_, fun ν hk => ?_⟩
    · unfold f_X11_mud
      refine Ok.s (X11_needPlace _) ?_
      rw [if_neg b1]
      refine elimR' ?_
      refine Ok.s (a := L 12 q) (by rw [show (15 : Nat) = 3 + 12 from rfl, rd_nI (by omega) (by decide), h.c.atM (by omega)]) ?_
      exact XR.yes rfl KC.refl
    · have m0 := h.m0 hk
      unfold f_X12_mud
      refine Ok.s (X12_noPlace _) ?_
      rw [b1']
      refine Ok.s (X12_thrF 1) (Ok.e fnt ?_)
      refine Ok.s (a := L 12 q) (by rw [show (8 : Int32) = nI 8 from rfl, nI_add, rd_nI (by omega) (by decide)]; exact congrArg some (m0.m.atM (by omega))) ?_
      exact mrV rfl
theorem kc5 {ν : Mem} (h : Fr s5 μ ν) : KC μ ν := h.mono fun k hk => by unfold scC; unfold s5 at hk; omega
theorem km72 {k : Nat} (h : k = 272) : scM k ∧ k ≠ 264 := by unfold scM; omega
theorem q_walks (h : St n f L T μ) (p1 p2 : Int32) : AgQ μ (f_L_walks μ p1 p2) (fun ν => f_X12_walks ν p1 p2) := by
  have hn := h.n6
  by_cases b1 : outb p1 0 (nI n - 1) = true
  · refine ⟨1, 0, wrap2 (k := 2) (by decide) rfl ?_, fun ν hk => ?_⟩
    · unfold f_X11_walks
      refine Ok.s (X11_needPerson h.c p1) ?_
      rw [if_pos b1]
      exact elimL' (XR.no (by decide) KC.refl)
    · have m0 := h.m0 hk
      unfold f_X12_walks
      refine Ok.s (X12_noPerson m0.m p1) ?_
      rw [b1]
      exact Ok.s (X12_thrT 1) (Ok.t rfl (mrT (by decide)))
  · have b1' : outb p1 0 (nI n - 1) = false := by simpa using b1
    obtain ⟨p, hp, rfl⟩ := outb_ix (by omega) b1'
    by_cases b2 : outb p2 0 1 = true
    · refine ⟨2, 0, wrap2 (k := 4) (by decide) rfl ?_, fun ν hk => ?_⟩
      · unfold f_X11_walks
        refine Ok.s (X11_needPerson h.c _) ?_
        rw [if_neg b1]
        have no : ∀ j, j ≤ 1 → ¬ p2 = nI j := fun j hj q => by
          have := (by decide : ∀ j, j < 2 → outb (nI j) 0 1 = false) j (by omega)
          rw [← q, b2] at this
          cases this
        exact elimR' (Ok.e (no 0 (by decide)) (Ok.e (no 1 (by decide)) (XR.no (by decide) KC.refl)))
      · have m0 := h.m0 hk
        unfold f_X12_walks
        refine Ok.s (X12_noPerson m0.m _) ?_
        rw [b1']
        refine Ok.s (X12_thrF 1) (Ok.e fnt ?_)
        refine Ok.s X12_in ?_
        rw [nb, b2]
        exact Ok.s (X12_thrT 2) (Ok.t rfl (mrT (by decide)))
    · have b2' : outb p2 0 1 = false := by simpa using b2
      obtain ⟨j, hj, rfl⟩ := outb_rng (b := 1) rfl (by decide) b2'
      rcases (show j = 0 ∨ j = 1 by omega) with rfl | rfl
      · refine ⟨0, walkA T n L p, wrap2 (k := 0) (by decide) rfl ?_, fun ν hk => ?_⟩
        · unfold f_X11_walks
          refine Ok.s (X11_needPerson h.c _) ?_
          rw [if_neg b1]
          refine elimR' (Ok.t rfl ?_)
          refine (X2_walkOf h.c h.w (by decide) h.lc h.wt hp).b fun q hq => ?_
          exact XR.yes hq.1 (kc5 hq.2)
        · have m0 := h.m0 hk
          unfold f_X12_walks
          refine Ok.s (X12_noPerson m0.m _) ?_
          rw [b1']
          refine Ok.s (X12_thrF 1) (Ok.e fnt ?_)
          refine Ok.s X12_in ?_
          rw [nb, b2']
          refine Ok.s (X12_thrF 2) (Ok.e fnt (Ok.t rfl ?_))
          refine (X12_walksBy m0.m m0.w m0.lm m0.wt hp).b fun q hq => ?_
          exact mrS hq.1 hq.2 fun k hk => km72 hk
      · refine ⟨0, rateA T n L p, wrap2 (k := 0) (by decide) rfl ?_, fun ν hk => ?_⟩
        · unfold f_X11_walks
          refine Ok.s (X11_needPerson h.c _) ?_
          rw [if_neg b1]
          refine elimR' (Ok.e (by decide) (Ok.t rfl ?_))
          refine (X2_fallOf h.c h.w (by decide) h.lc h.wt hp).b fun q hq => ?_
          exact XR.yes hq.1 (kc5 hq.2)
        · have m0 := h.m0 hk
          unfold f_X12_walks
          refine Ok.s (X12_noPerson m0.m _) ?_
          rw [b1']
          refine Ok.s (X12_thrF 1) (Ok.e fnt ?_)
          refine Ok.s X12_in ?_
          rw [nb, b2']
          refine Ok.s (X12_thrF 2) (Ok.e fnt (Ok.e (by decide) ?_))
          refine (X12_fallsBy m0.m m0.w m0.lm m0.wt hp).b fun q hq => ?_
          exact mrS hq.1 hq.2 fun k hk => km72 hk
theorem q_grows (h : St n f L T μ) (p1 : Int32) : AgQ μ (f_L_grows μ p1) (fun ν => f_X12_grows ν p1) := by
  have hn := h.n6
  by_cases b1 : outb p1 0 (nI (2 * n) - 1) = true
  · refine ⟨1, 0, wrap1 (k := 2) (by decide) rfl ?_, fun ν hk => ?_⟩
    · unfold f_X11_grows
      refine Ok.s (X11_needLace h.c p1) ?_
      rw [if_pos b1]
      exact elimL' (XR.no (by decide) KC.refl)
    · have m0 := h.m0 hk
      unfold f_X12_grows
      refine Ok.s (X12_noLace m0.m p1) ?_
      rw [b1]
      exact Ok.s (X12_thrT 1) (Ok.t rfl (mrT (by decide)))
  · have b1' : outb p1 0 (nI (2 * n) - 1) = false := by simpa using b1
    obtain ⟨l, hl, rfl⟩ := outb_ix (by omega) b1'
    by_cases c : L 6 l = 1
    · refine ⟨0, growA T n L l, wrap1 (k := 0) (by decide) rfl ?_, fun ν hk => ?_⟩
      · unfold f_X11_grows
        refine Ok.s (X11_needLace h.c _) ?_
        rw [if_neg b1]
        refine elimR' (Ok.s (X2_isPledged h.c hl) (Ok.t (decide_eq_true c) ?_))
        refine (X2_growthOf h.c h.w (by decide) h.lc h.wt hl).b fun q hq => ?_
        exact XR.yes hq.1 (kc5 hq.2)
      · have m0 := h.m0 hk
        unfold f_X12_grows
        refine Ok.s (X12_noLace m0.m _) ?_
        rw [b1']
        refine Ok.s (X12_thrF 1) (Ok.e fnt ?_)
        refine Ok.s (X12_isPledged m0.m hl) (Ok.t (decide_eq_true c) ?_)
        refine (X12_growsBy m0.m m0.w m0.lm m0.wt hl).b fun q hq => ?_
        exact mrS hq.1 hq.2 fun k hk => km72 hk
    · refine ⟨0, 0, wrap1 (k := 0) (by decide) rfl ?_, fun ν hk => ?_⟩
      · unfold f_X11_grows
        refine Ok.s (X11_needLace h.c _) ?_
        rw [if_neg b1]
        refine elimR' (Ok.s (X2_isPledged h.c hl) (Ok.e (by simp [c]) ?_))
        exact XR.yes rfl KC.refl
      · have m0 := h.m0 hk
        unfold f_X12_grows
        refine Ok.s (X12_noLace m0.m _) ?_
        rw [b1']
        refine Ok.s (X12_thrF 1) (Ok.e fnt ?_)
        refine Ok.s (X12_isPledged m0.m hl) (Ok.e (by simp [c]) ?_)
        exact mrV rfl
end Qu
