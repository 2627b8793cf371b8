/-! WHO LEADS TO WHOM -/
theorem cntN_mono {P Q : Nat → Bool} : ∀ {m : Nat}, (∀ i, i < m → P i = true → Q i = true) → cntN P m ≤ cntN Q m
  | 0, _ => Nat.le_refl _
  | m + 1, h => by
    have ih := cntN_mono (P := P) (Q := Q) (m := m) (fun i hi => h i (by omega))
    show cntN P m + _ ≤ cntN Q m + _
    by_cases c : P m = true
    · rw [if_pos c, if_pos (h m (by omega) c)]; omega
    · rw [if_neg c]; omega
theorem cntN_lt {P Q : Nat → Bool} {j : Nat} : ∀ {m : Nat}, (∀ i, i < m → P i = true → Q i = true) → j < m → Q j = true → ¬ P j = true → cntN P m + 1 ≤ cntN Q m
  | 0, _, hj, _, _ => absurd hj (by omega)
  | m + 1, h, hj, hq, hp => by
    show cntN P m + _ + 1 ≤ cntN Q m + _
    by_cases e : j = m
    · subst e
      have := cntN_mono (P := P) (Q := Q) (m := j) (fun i hi => h i (by omega))
      rw [if_neg hp, if_pos hq]; omega
    · have ih := cntN_lt (P := P) (Q := Q) (m := m) (fun i hi => h i (by omega)) (by omega) hq hp
      by_cases c : P m = true
      · rw [if_pos c, if_pos (h m (by omega) c)]; omega
      · rw [if_neg c]; omega
def bnd (n : Nat) (S : Int32) : Prop := ∀ j, j < 32 → bt S j = true → j < n
/-- grows by g: what is in S, leads to what R says -/
def Grw (g : Int32 → Int32) (n : Nat) (R : Nat → Nat → Prop) : Prop := (∀ S j, j < 32 → bt S j = true → bt (g S) j = true) ∧ (∀ S, bnd n S → bnd n (g S)) ∧ (∀ S i j, i < n → j < 32 → bt S i = true → R i j → bt (g S) j = true) ∧ ∀ (C : Nat → Prop), (∀ i j, i < n → j < 32 → C i → R i j → C j) → ∀ S, (∀ j, j < 32 → bt S j = true → C j) → ∀ j, j < 32 → bt (g S) j = true → C j
def iterG (g : Int32 → Int32) (S : Int32) (k : Nat) : Int32 := iter (fun _ => g) k S
theorem bt_ne {x y : Int32} (h : ¬ x = y) : ∃ j, j < 32 ∧ ¬ bt x j = bt y j := by
  apply Classical.byContradiction
  intro q
  apply h
  apply b_ext
  intro i hi
  apply Classical.byContradiction
  intro q2
  exact q ⟨i, hi, q2⟩
section Gr
variable {g : Int32 → Int32} {n : Nat} {R : Nat → Nat → Prop} {S0 : Int32}
theorem grw_b (h : Grw g n R) (h0 : bnd n S0) : ∀ k, bnd n (iterG g S0 k)
  | 0 => h0
  | k + 1 => h.2.1 _ (grw_b h h0 k)
theorem grw_s (h : Grw g n R) {C : Nat → Prop} (hC : ∀ i j, i < n → j < 32 → C i → R i j → C j) (h0 : ∀ j, j < 32 → bt S0 j = true → C j) : ∀ k j, j < 32 → bt (iterG g S0 k) j = true → C j
  | 0 => h0
  | k + 1 => h.2.2.2 C hC _ (grw_s h hC h0 k)
theorem grw_0 (h : Grw g n R) : ∀ k j, j < 32 → bt S0 j = true → bt (iterG g S0 k) j = true
  | 0, _, _, q => q
  | k + 1, j, hj, q => h.1 _ j hj (grw_0 h k j hj q)
theorem grw_c (h : Grw g n R) (h0 : bnd n S0) : ∀ k, (∃ r, r < k ∧ g (iterG g S0 r) = iterG g S0 r) ∨ cntN (bt S0) n + k ≤ cntN (bt (iterG g S0 k)) n
  | 0 => Or.inr (Nat.le_refl _)
  | k + 1 => by
    rcases grw_c h h0 k with ⟨r, hr, e⟩ | q
    · exact Or.inl ⟨r, by omega, e⟩
    · by_cases c : g (iterG g S0 k) = iterG g S0 k
      · exact Or.inl ⟨k, by omega, c⟩
      · obtain ⟨j, hj, hd⟩ := bt_ne c
        have hf : ¬ bt (iterG g S0 k) j = true := fun e => hd (by rw [e, h.1 _ j hj e])
        have ht : bt (g (iterG g S0 k)) j = true := by
          cases e : bt (g (iterG g S0 k)) j with
          | true => rfl
          | false =>
            cases e2 : bt (iterG g S0 k) j with
            | true => exact absurd e2 hf
            | false => exact absurd (e.trans e2.symm) hd
        have hjn := h.2.1 _ (grw_b h h0 k) j hj ht
        have := cntN_lt (P := bt (iterG g S0 k)) (Q := bt (g (iterG g S0 k))) (j := j) (m := n) (fun i _ hp => by
          rcases Nat.lt_or_ge i 32 with q2 | q2
          · exact h.1 _ i q2 hp
          · rw [b_big q2] at hp; cases hp) hjn ht hf
        refine Or.inr ?_
        show _ ≤ cntN (bt (g (iterG g S0 k))) n
        omega
theorem fix_d {r : Nat} (h : g (iterG g S0 r) = iterG g S0 r) : ∀ d, iterG g S0 (r + d) = iterG g S0 r
  | 0 => rfl
  | d + 1 => by
    show g (iterG g S0 (r + d)) = _
    rw [fix_d h d, h]
/-- after n rounds it is closed -/
theorem grw_closed (h : Grw g n R) (h0 : bnd n S0) {k : Nat} (hk : n ≤ k) : ∀ i j, i < n → j < 32 → bt (iterG g S0 k) i = true → R i j → bt (iterG g S0 k) j = true := by
  intro i j hi hj hb hR
  by_cases e0 : cntN (bt S0) n = 0
  · -- nobody at the start
    have hno : ∀ q, q < 32 → ¬ bt S0 q = true := fun q hq hb2 => by
      have hqn := h0 q hq hb2
      have := cntN_lt (P := fun _ => false) (Q := bt S0) (j := q) (m := n) (fun _ _ w => by cases w) hqn hb2 (by decide)
      omega
    exact absurd (grw_s h (C := fun _ => False) (fun _ _ _ _ w _ => w) (fun q hq hb2 => hno q hq hb2) k i (by
      rcases Nat.lt_or_ge i 32 with q2 | q2
      · exact q2
      · rw [b_big q2] at hb; cases hb) hb) id
  · rcases grw_c h h0 k with ⟨r, hr, e⟩ | q
    · have e2 : iterG g S0 k = iterG g S0 r := by
        have := fix_d e (k - r)
        rwa [show r + (k - r) = k by omega] at this
      rw [e2] at hb ⊢
      have := h.2.2.1 _ i j hi hj hb hR
      rwa [e] at this
    · have := cntN_le (P := bt (iterG g S0 k)) n
      omega
end Gr
theorem grw_eq {g g' : Int32 → Int32} {n k k' : Nat} {R : Nat → Nat → Prop} {S0 : Int32} (h : Grw g n R) (h' : Grw g' n R) (h0 : bnd n S0) (hk : n ≤ k) (hk' : n ≤ k') : iterG g S0 k = iterG g' S0 k' := by
  apply b_ext
  intro i hi
  have a : bt (iterG g S0 k) i = true → bt (iterG g' S0 k') i = true := grw_s h (C := fun j => bt (iterG g' S0 k') j = true) (grw_closed h' h0 hk') (grw_0 h' k') k i hi
  have b : bt (iterG g' S0 k') i = true → bt (iterG g S0 k) i = true := grw_s h' (C := fun j => bt (iterG g S0 k) j = true) (grw_closed h h0 hk) (grw_0 h k) k' i hi
  cases e : bt (iterG g S0 k) i with
  | true => rw [a e]
  | false =>
    cases e2 : bt (iterG g' S0 k') i with
    | false => rfl
    | true => rw [b e2] at e; cases e
section Le
variable {n : Nat} {f : Int32} {μ : Mem} {L : Ld} {T : Tx} {a : Nat}
def credA (L : Ld) (l : Nat) : Int32 := if L 6 l = 1 then 1 <<< (L 7 l &&& 31) else 0
def dirA (L : Ld) (i : Nat) : Int32 := credA L (2 * i) ||| credA L (2 * i + 1)
def LdR (L : Ld) (i j : Nat) : Prop := bt (dirA L i) j = true
theorem X2_creditorOf (h : CL n f μ a L) {l : Nat} (hl : l < 2 * n) : f_X2_creditorOf μ a (nI l) = some (credA L l) := by
  unfold f_X2_creditorOf credA
  refine bs (X2_isPledged h hl) ?_
  by_cases c : L 6 l = 1
  · rw [if_pos c]
    exact it (decide_eq_true c) (bs (h.rdL (k := 7) (by decide) hl) rfl)
  · rw [if_neg c]
    exact ie (by simp [c]) rfl
theorem X2_direct (h : CL n f μ a L) {p : Nat} (hp : p < n) : f_X2_directCreditorsOf μ a (nI p) = some (dirA L p) := by
  unfold f_X2_directCreditorsOf
  rw [two_nI, nI_1]
  exact bs (X2_creditorOf h (by omega)) (bs (X2_creditorOf h (by omega)) rfl)
theorem cred_b (hw : WF n L) (hn : n ≤ 6) {l : Nat} (hl : l < 2 * n) : bnd n (credA L l) := by
  intro j hj hb
  unfold credA at hb
  by_cases c : L 6 l = 1
  · rw [if_pos c] at hb
    obtain ⟨h1, e1⟩ := ((hw.lace hl).pledged c).hold hn
    rw [e1, bt_pw (by omega) hj] at hb
    have := of_decide_eq_true hb
    omega
  · rw [if_neg c, b_0] at hb; cases hb
theorem dir_b (hw : WF n L) (hn : n ≤ 6) {p : Nat} (hp : p < n) : bnd n (dirA L p) := by
  intro j hj hb
  unfold dirA at hb
  rw [b_or] at hb
  rcases Bool.or_eq_true _ _ |>.mp hb with q | q
  · exact cred_b hw hn (by omega) j hj q
  · exact cred_b hw hn (by omega) j hj q
def sweep (L : Ld) (S : Int32) (i : Nat) : Int32 := iter (fun i S => if bt S i = true then S ||| dirA L i else S) i S
theorem sweep_s {S : Int32} {i : Nat} : sweep L S (i + 1) = if bt (sweep L S i) i = true then sweep L S i ||| dirA L i else sweep L S i := rfl
theorem sweep_up {S : Int32} {i j : Nat} (h : bt (sweep L S i) j = true) : bt (sweep L S (i + 1)) j = true := by
  rw [sweep_s]
  split
  · rw [b_or, h]; rfl
  · exact h
theorem sweep_upd {S : Int32} {i j : Nat} (h : bt (sweep L S i) j = true) : ∀ d, bt (sweep L S (i + d)) j = true
  | 0 => h
  | d + 1 => sweep_up (sweep_upd h d)
theorem grw_sweep (hw : WF n L) (hn : n ≤ 6) : Grw (fun S => sweep L S n) n (LdR L) := by
  refine ⟨fun S j _ hb => ?_, fun S hS => ?_, fun S i j hi hj hb hR => ?_, fun C hC S hS => ?_⟩
  · have := sweep_upd (L := L) (S := S) (i := 0) (j := j) hb n
    rwa [Nat.zero_add] at this
  · have key : ∀ m, m ≤ n → bnd n (sweep L S m) := by
      intro m
      induction m with
      | zero => intro _; exact hS
      | succ m ih =>
        intro hm j hj hb
        rw [sweep_s] at hb
        split at hb
        · rw [b_or] at hb
          rcases Bool.or_eq_true _ _ |>.mp hb with q | q
          · exact ih (by omega) j hj q
          · exact dir_b hw hn (by omega) j hj q
        · exact ih (by omega) j hj hb
    exact key n (Nat.le_refl _)
  · have h1 : bt (sweep L S i) i = true := by
      have := sweep_upd (L := L) (S := S) (i := 0) (j := i) hb i
      rwa [Nat.zero_add] at this
    have h2 : bt (sweep L S (i + 1)) j = true := by
      rw [sweep_s, if_pos h1, b_or, show bt (dirA L i) j = true from hR, Bool.or_true]
    have := sweep_upd h2 (n - (i + 1))
    rwa [show i + 1 + (n - (i + 1)) = n by omega] at this
  · have key : ∀ m, m ≤ n → ∀ j, j < 32 → bt (sweep L S m) j = true → C j := by
      intro m
      induction m with
      | zero => intro _; exact hS
      | succ m ih =>
        intro hm j hj hb
        rw [sweep_s] at hb
        split at hb
        · rename_i c
          rw [b_or] at hb
          rcases Bool.or_eq_true _ _ |>.mp hb with q | q
          · exact ih (by omega) j hj q
          · exact hC m j (by omega) hj (ih (by omega) m (by omega) c) q
        · exact ih (by omega) j hj hb
    exact key n (Nat.le_refl _)
theorem X2_creditorsOf (h : CL n f μ a L) {p : Nat} (hp : p < n) : f_X2_creditorsOf μ a (nI p) = some (iterG (fun S => sweep L S n) (dirA L p) n) := by
  have hn := h.n6
  unfold f_X2_creditorsOf
  refine bs (X2_direct h hp) ?_
  unfold f_X2_creditorsOf_l8
  refine bind_loop (fun i => (iterG (fun S => sweep L S n) (dirA L p) i, nI i)) n (iterG (fun S => sweep L S n) (dirA L p) n) rfl (fun i hi => ?_) ?_ (by omega) rfl
  · show f_X2_creditorsOf_b8 μ a (iterG (fun S => sweep L S n) (dirA L p) i) (nI i) = _
    unfold f_X2_creditorsOf_b8
    refine ie (h.lt1 hi) ?_
    unfold f_X2_creditorsOf_l19
    refine bind_loop (fun j => (sweep L (iterG (fun S => sweep L S n) (dirA L p) i) j, nI j)) n (sweep L (iterG (fun S => sweep L S n) (dirA L p) i) n) rfl (fun j hj => ?_) ?_ (by omega) ?_
    · show f_X2_creditorsOf_b19 μ a (sweep L (iterG (fun S => sweep L S n) (dirA L p) i) j) (nI i) (nI j) = _
      unfold f_X2_creditorsOf_b19
      refine ie (h.lt1 hj) (bs (X11_hasBit (by omega)) ?_)
      by_cases c : bt (sweep L (iterG (fun S => sweep L S n) (dirA L p) i) j) j = true
      · refine it c (bs (X2_direct h hj) ?_)
        unfold f_X2_creditorsOf_j46_19
        rw [sweep_s, if_pos c, nI_1]
      · refine ie c ?_
        unfold f_X2_creditorsOf_j46_19
        rw [sweep_s, if_neg c, nI_1]
    · show f_X2_creditorsOf_b19 μ a _ (nI i) (nI n) = _
      unfold f_X2_creditorsOf_b19
      exact it h.ge1 rfl
    · unfold f_X2_creditorsOf_j52_8
      rw [nI_1]; rfl
  · show f_X2_creditorsOf_b8 μ a _ (nI n) = _
    unfold f_X2_creditorsOf_b8
    exact it h.ge1 rfl
/-! the model -/
def holdA (L : Ld) (S : Int32) (m : Nat) : Int32 := iter (fun l x => x ||| (if bt S (l / 2) = true then credA L l else 0)) m 0
theorem holdA_s {S : Int32} {m : Nat} : holdA L S (m + 1) = holdA L S m ||| (if bt S (m / 2) = true then credA L m else 0) := rfl
theorem X12_holdersOf (h : ML n f (μ 265) L) (hw : WF n L) (S : Int32) : f_X12_holdersOf μ S = some (holdA L S (2 * n)) := by
  have hn := h.n6
  unfold f_X12_holdersOf f_X12_holdersOf_l4
  refine bind_loop (fun i => (holdA L S i, nI i)) (2 * n) _ rfl (fun i hi => ?_) ?_ (by omega) rfl
  · show f_X12_holdersOf_b4 μ S (holdA L S i) (nI i) = _
    unfold f_X12_holdersOf_b4
    refine bs (X12_laces h) (ie (nI_ge hi (by omega)) (bs (X12_isPledged h hi) ?_))
    rw [holdA_s]
    by_cases c : L 6 i = 1
    · refine it (decide_eq_true c) (bs (X12_ownerOf (by omega)) (bs (X12_has (by omega)) ?_))
      by_cases d : bt S (i / 2) = true
      · refine it d (bs (X12_lace1 h hi) ?_)
        unfold f_X12_holdersOf_j44_4 credA
        rw [if_pos d, if_pos c, nI_1]
      · refine ie d ?_
        unfold f_X12_holdersOf_j43_4 f_X12_holdersOf_j44_4
        rw [if_neg d, nI_1]
    · refine ie (by simp [c]) ?_
      unfold f_X12_holdersOf_j43_4 f_X12_holdersOf_j44_4 credA
      rw [if_neg c, nI_1]
      split <;> rfl
  · show f_X12_holdersOf_b4 μ S _ (nI (2 * n)) = _
    unfold f_X12_holdersOf_b4
    exact bs (X12_laces h) (it (nI_le (Nat.le_refl _) (by omega)) rfl)
theorem holdA_b {S : Int32} {j : Nat} : ∀ m, bt (holdA L S m) j = true ↔ ∃ l, l < m ∧ bt S (l / 2) = true ∧ bt (credA L l) j = true
  | 0 => ⟨fun h => (by rw [show holdA L S 0 = 0 from rfl, b_0] at h; cases h), fun ⟨l, hl, _⟩ => absurd hl (by omega)⟩
  | m + 1 => by
    rw [holdA_s, b_or]
    constructor
    · intro h
      rcases Bool.or_eq_true _ _ |>.mp h with q | q
      · obtain ⟨l, h1, h2⟩ := (holdA_b m).mp q
        exact ⟨l, by omega, h2⟩
      · split at q
        · rename_i c
          exact ⟨m, by omega, c, q⟩
        · rw [b_0] at q; cases q
    · rintro ⟨l, h1, h2, h3⟩
      by_cases e : l = m
      · subst e
        rw [if_pos h2, h3, Bool.or_true]
      · rw [(holdA_b m).mpr ⟨l, by omega, h2, h3⟩]; rfl
theorem dir_iff {i j : Nat} : bt (dirA L i) j = true ↔ ∃ l, (l = 2 * i ∨ l = 2 * i + 1) ∧ bt (credA L l) j = true := by
  unfold dirA
  rw [b_or]
  constructor
  · intro h
    rcases Bool.or_eq_true _ _ |>.mp h with q | q
    · exact ⟨_, Or.inl rfl, q⟩
    · exact ⟨_, Or.inr rfl, q⟩
  · rintro ⟨l, h1 | h1, h2⟩
    · subst h1; rw [h2]; rfl
    · subst h1; rw [h2, Bool.or_true]
theorem grw_hold (hw : WF n L) (hn : n ≤ 6) : Grw (fun S => S ||| holdA L S (2 * n)) n (LdR L) := by
  refine ⟨fun S j _ hb => by rw [b_or, hb]; rfl, fun S hS j hj hb => ?_, fun S i j hi hj hb hR => ?_, fun C hC S hS j hj hb => ?_⟩
  · rw [b_or] at hb
    rcases Bool.or_eq_true _ _ |>.mp hb with q | q
    · exact hS j hj q
    · obtain ⟨l, h1, h2, h3⟩ := (holdA_b _).mp q
      exact cred_b hw hn h1 j hj h3
  · obtain ⟨l, h1, h2⟩ := dir_iff.mp hR
    rw [b_or, (holdA_b (2 * n)).mpr ⟨l, by omega, by rw [show l / 2 = i by omega]; exact hb, h2⟩, Bool.or_true]
  · rw [b_or] at hb
    rcases Bool.or_eq_true _ _ |>.mp hb with q | q
    · exact hS j hj q
    · obtain ⟨l, h1, h2, h3⟩ := (holdA_b _).mp q
      exact hC (l / 2) j (by omega) hj (hS _ (by omega) h2) (dir_iff.mpr ⟨l, by omega, h3⟩)
theorem hold_1 (hn : n ≤ 6) {p : Nat} (hp : p < n) : holdA L (1 <<< (nI p &&& 31)) (2 * n) = dirA L p := by
  apply b_ext
  intro j hj
  have e : bt (holdA L (1 <<< (nI p &&& 31)) (2 * n)) j = true ↔ bt (dirA L p) j = true := by
    rw [holdA_b, dir_iff]
    constructor
    · rintro ⟨l, h1, h2, h3⟩
      rw [bt_pw (by omega) (by omega)] at h2
      have := of_decide_eq_true h2
      exact ⟨l, by omega, h3⟩
    · rintro ⟨l, h1, h2⟩
      refine ⟨l, by omega, ?_, h2⟩
      rw [bt_pw (by omega) (by omega)]
      exact decide_eq_true (by omega)
  cases e1 : bt (dirA L p) j with
  | true => exact e.mpr e1
  | false =>
    cases e2 : bt (holdA L (1 <<< (nI p &&& 31)) (2 * n)) j with
    | false => rfl
    | true => rw [e.mp e2] at e1; cases e1
def leadA (n : Nat) (L : Ld) (p : Nat) : Int32 := iterG (fun S => sweep L S n) (dirA L p) n
theorem X12_leadsFrom (h : ML n f (μ 265) L) (hw : WF n L) {p : Nat} (hp : p < n) : f_X12_leadsFrom μ (nI p) = some (leadA n L p) := by
  have hn := h.n6
  have e : leadA n L p = iterG (fun S => S ||| holdA L S (2 * n)) (dirA L p) 6 := grw_eq (grw_sweep hw hn) (grw_hold hw hn) (dir_b hw hn hp) (Nat.le_refl _) hn
  rw [e]
  unfold f_X12_leadsFrom
  refine bs (X12_holdersOf h hw _) ?_
  rw [hold_1 hn hp]
  unfold f_X12_leadsFrom_l10
  refine bind_loop (fun i => (iterG (fun S => S ||| holdA L S (2 * n)) (dirA L p) i, nI i)) 6 (iterG (fun S => S ||| holdA L S (2 * n)) (dirA L p) 6) rfl (fun i hi => ?_) ?_ (by decide) rfl
  · show f_X12_leadsFrom_b10 μ (iterG (fun S => S ||| holdA L S (2 * n)) (dirA L p) i) (nI i) = _
    unfold f_X12_leadsFrom_b10
    refine ie (nI_ge (b := 6) hi (by decide)) (bs (X12_holdersOf h hw _) ?_)
    rw [nI_1]; rfl
  · show f_X12_leadsFrom_b10 μ _ (nI 6) = _
    unfold f_X12_leadsFrom_b10
    exact it (by decide) rfl
theorem q_leads (h : St n f L T μ) (p1 : Int32) : AgQ μ (f_L_leads μ p1) (fun ν => f_X12_leads ν p1) := by
  have hn := h.n6
  by_cases b1 : outb p1 0 (nI n - 1) = true
  · refine ⟨1, 0, wrap1 (k := 2) (by decide) rfl ?_, fun ν hk => ?_⟩
    · unfold f_X11_leads
      refine Ok.s (X11_needPerson h.c p1) ?_
      rw [if_pos b1]
      exact elimL' (XR.no (by decide) KC.refl)
    · have m0 := h.m0 hk
      unfold f_X12_leads
      refine Ok.s (X12_noPerson m0.m p1) ?_
      rw [b1]
      exact Ok.s (X12_thrT 1) (Ok.t rfl (mrT (by decide)))
  · have b1' : outb p1 0 (nI n - 1) = false := by simpa using b1
    obtain ⟨p, hp, rfl⟩ := outb_ix (by omega) b1'
    refine ⟨0, leadA n L p, wrap1 (k := 0) (by decide) rfl ?_, fun ν hk => ?_⟩
    · unfold f_X11_leads
      refine Ok.s (X11_needPerson h.c _) ?_
      rw [if_neg b1]
      exact elimR' (Ok.s (X2_creditorsOf h.c hp) (XR.yes rfl KC.refl))
    · have m0 := h.m0 hk
      unfold f_X12_leads
      refine Ok.s (X12_noPerson m0.m _) ?_
      rw [b1']
      refine Ok.s (X12_thrF 1) (Ok.e fnt (Ok.s (X12_leadsFrom m0.m m0.w hp) ?_))
      exact mrV rfl
end Le
