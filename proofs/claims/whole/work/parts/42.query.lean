/-! QUESTIONS OF A LAND: the class -/
theorem sb9 {α β : Type} {a : α} {f : α → Option β} : Option.bind (some a) f = f a := rfl
theorem CL.lt2 {n : Nat} {f : Int32} {μ : Mem} {a : Nat} {L : Ld} (h : CL n f μ a L) {i : Nat} (hi : i < 2 * n) : ¬ 2 * μ a 0 ≤ nI i := by
  have := h.n6
  rw [h.ppl, two_nI]
  exact nI_ge hi (by omega)
theorem CL.ge2 {n : Nat} {f : Int32} {μ : Mem} {a : Nat} {L : Ld} (h : CL n f μ a L) : 2 * μ a 0 ≤ nI (2 * n) := by
  have := h.n6
  rw [h.ppl, two_nI]
  exact nI_le (Nat.le_refl _) (by omega)
theorem CL.lt1 {n : Nat} {f : Int32} {μ : Mem} {a : Nat} {L : Ld} (h : CL n f μ a L) {i : Nat} (hi : i < n) : ¬ μ a 0 ≤ nI i := by
  have := h.n6
  rw [h.ppl]
  exact nI_ge hi (by omega)
theorem CL.ge1 {n : Nat} {f : Int32} {μ : Mem} {a : Nat} {L : Ld} (h : CL n f μ a L) : μ a 0 ≤ nI n := by
  have := h.n6
  rw [h.ppl]
  exact nI_le (Nat.le_refl _) (by omega)
theorem CL.rdL {n : Nat} {f : Int32} {μ : Mem} {a : Nat} {L : Ld} (h : CL n f μ a L) {k i : Nat} (h1 : 6 ≤ k ∧ k ≤ 11) (hi : i < 2 * n) : rd μ (a + k) 12 (nI i) = some (L k i) := by
  have := h.n6
  rw [rd_nI (by omega) (by decide), h.atL h1 hi]
theorem CL.rdP {n : Nat} {f : Int32} {μ : Mem} {a : Nat} {L : Ld} (h : CL n f μ a L) {k i : Nat} (h1 : 1 ≤ k ∧ k ≤ 5) (hi : i < n) : rd μ (a + k) 6 (nI i) = some (L k i) := by
  have := h.n6
  rw [rd_nI (by omega) (by decide), h.atP h1 hi]
theorem X2_lacesThatAre {n : Nat} {f : Int32} {μ : Mem} {a : Nat} {L : Ld} (h : CL n f μ a L) (s : Int32) : f_X2_lacesThatAre μ a s = some (obits (fun l => decide (L 6 l = s)) (2 * n)) := by
  have hn := h.n6
  unfold f_X2_lacesThatAre f_X2_lacesThatAre_l4
  refine bind_loop (fun i => (obits (fun l => decide (L 6 l = s)) i, nI i)) (2 * n) _ rfl (fun i hi => ?_) ?_ (by omega) rfl
  · show f_X2_lacesThatAre_b4 μ a s _ (nI i) = _
    unfold f_X2_lacesThatAre_b4
    rw [if_neg (h.lt2 hi), h.rdL (k := 6) (by omega) hi, sb9, nI_1, obits_if rfl]
  · show f_X2_lacesThatAre_b4 μ a s _ (nI (2 * n)) = _
    unfold f_X2_lacesThatAre_b4
    rw [if_pos h.ge2]
theorem X2_heldBy {n : Nat} {f : Int32} {μ : Mem} {a : Nat} {L : Ld} (h : CL n f μ a L) (s : Int32) : f_X2_heldBy μ a s = some (obits (fun l => decide (L 7 l = s)) (2 * n)) := by
  have hn := h.n6
  unfold f_X2_heldBy f_X2_heldBy_l4
  refine bind_loop (fun i => (obits (fun l => decide (L 7 l = s)) i, nI i)) (2 * n) _ rfl (fun i hi => ?_) ?_ (by omega) rfl
  · show f_X2_heldBy_b4 μ a s _ (nI i) = _
    unfold f_X2_heldBy_b4
    rw [if_neg (h.lt2 hi), h.rdL (k := 7) (by omega) hi, sb9, nI_1, obits_if rfl]
  · show f_X2_heldBy_b4 μ a s _ (nI (2 * n)) = _
    unfold f_X2_heldBy_b4
    rw [if_pos h.ge2]
theorem X2_hangingOn {n : Nat} {f : Int32} {μ : Mem} {a : Nat} {L : Ld} (h : CL n f μ a L) (s : Int32) : f_X2_hangingOn μ a s = some (obits (fun l => decide (L 11 l = s)) (2 * n)) := by
  have hn := h.n6
  unfold f_X2_hangingOn f_X2_hangingOn_l4
  refine bind_loop (fun i => (obits (fun l => decide (L 11 l = s)) i, nI i)) (2 * n) _ rfl (fun i hi => ?_) ?_ (by omega) rfl
  · show f_X2_hangingOn_b4 μ a s _ (nI i) = _
    unfold f_X2_hangingOn_b4
    rw [if_neg (h.lt2 hi), h.rdL (k := 11) (by omega) hi, sb9, nI_1, obits_if rfl]
  · show f_X2_hangingOn_b4 μ a s _ (nI (2 * n)) = _
    unfold f_X2_hangingOn_b4
    rw [if_pos h.ge2]
/-- AMOUNTS of a set -/
def amt (n : Nat) (L : Ld) (S : Int32) : Int32 := osum (fun l => if bt S l = true then L 8 l else 0) (2 * n)
theorem X11_hasBit {μ : Mem} {x : Int32} {l : Nat} (hl : l < 32) : f_X11_hasBit μ x (nI l) = some (bt x l) := by
  unfold f_X11_hasBit
  cases hb : bt x l with
  | true => rw [if_neg (fun q => by rw [has0 hl, hb] at q; cases q)]
  | false => rw [if_pos ((has0 hl).mpr hb)]
theorem X2_amountOf {n : Nat} {f : Int32} {μ : Mem} {a : Nat} {L : Ld} (h : CL n f μ a L) (S : Int32) : f_X2_amountOf μ a S = some (amt n L S) := by
  have hn := h.n6
  unfold f_X2_amountOf f_X2_amountOf_l4
  refine bind_loop (fun i => (osum (fun l => if bt S l = true then L 8 l else 0) i, nI i)) (2 * n) _ rfl (fun i hi => ?_) ?_ (by omega) rfl
  · show f_X2_amountOf_b4 μ a S _ (nI i) = _
    unfold f_X2_amountOf_b4 f_X2_amountOf_j31_4
    rw [if_neg (h.lt2 hi), X11_hasBit (by omega), sb9, h.rdL (k := 8) (by omega) hi, nI_1]
    by_cases hb : bt S i = true
    · rw [if_pos hb, sb9]
      show _ = some (Sum.inl (osum _ i + (if bt S i = true then L 8 i else 0), nI (i + 1)))
      rw [if_pos hb]
    · rw [if_neg hb]
      show _ = some (Sum.inl (osum _ i + (if bt S i = true then L 8 i else 0), nI (i + 1)))
      rw [if_neg hb, Int32.add_zero]
  · show f_X2_amountOf_b4 μ a S _ (nI (2 * n)) = _
    unfold f_X2_amountOf_b4
    rw [if_pos h.ge2]
    rfl
theorem X2_allPurses {n : Nat} {f : Int32} {μ : Mem} {a : Nat} {L : Ld} (h : CL n f μ a L) : f_X2_allPurses μ a = some (osum (L 1) n) := by
  have hn := h.n6
  unfold f_X2_allPurses f_X2_allPurses_l4
  refine bind_loop (fun i => (osum (L 1) i, nI i)) n _ rfl (fun i hi => ?_) ?_ (by omega) rfl
  · show f_X2_allPurses_b4 μ a _ (nI i) = _
    unfold f_X2_allPurses_b4
    rw [if_neg (h.lt1 hi), h.rdP (k := 1) (by omega) hi, sb9, nI_1]
    rfl
  · show f_X2_allPurses_b4 μ a _ (nI n) = _
    unfold f_X2_allPurses_b4
    rw [if_pos h.ge1]
theorem X2_isPledged {n : Nat} {f : Int32} {μ : Mem} {a : Nat} {L : Ld} (h : CL n f μ a L) {l : Nat} (hl : l < 2 * n) : f_X2_isPledged μ a (nI l) = some (decide (L 6 l = 1)) := by
  unfold f_X2_isPledged
  rw [h.rdL (k := 6) (by omega) hl, sb9]
  by_cases c : L 6 l = 1
  · rw [if_pos c, decide_eq_true c]
  · rw [if_neg c, decide_eq_false c]
/-- SLACK and GAIT -/
def off9 (L : Ld) (l : Nat) : Int32 := if L 6 l = 0 then 0 else 1
def gait (L : Ld) (p : Nat) : Int32 := off9 L (2 * p) + (if L 6 (2 * p + 1) = 0 then 0 else 2)
def slack (L : Ld) (p : Nat) : Int32 := off9 L (2 * p) + off9 L (2 * p + 1)
theorem X2_gaitOf {n : Nat} {f : Int32} {μ : Mem} {a : Nat} {L : Ld} (h : CL n f μ a L) {p : Nat} (hp : p < n) : f_X2_gaitOf μ a (nI p) = some (gait L p) := by
  unfold f_X2_gaitOf gait off9
  rw [two_nI, nI_1, h.rdL (k := 6) (by omega) (show 2 * p < 2 * n by omega), h.rdL (k := 6) (by omega) (show 2 * p + 1 < 2 * n by omega), sb9, sb9]
  congr 2
  by_cases c : L 6 (2 * p) = 0
  · rw [if_pos c, if_pos c]; rfl
  · rw [if_neg c, if_neg c]; rfl
theorem gait_bits {L : Ld} {p : Nat} : bitC (gait L p) = slack L p := by
  unfold gait slack off9
  by_cases c : L 6 (2 * p) = 0
  · by_cases d : L 6 (2 * p + 1) = 0
    · rw [if_pos c, if_pos d, if_pos d]; decide +kernel
    · rw [if_pos c, if_neg d, if_neg d]; decide +kernel
  · by_cases d : L 6 (2 * p + 1) = 0
    · rw [if_neg c, if_pos d, if_pos d]; decide +kernel
    · rw [if_neg c, if_neg d, if_neg d]; decide +kernel
theorem X2_slackOf {n : Nat} {f : Int32} {μ : Mem} {a : Nat} {L : Ld} (h : CL n f μ a L) {p : Nat} (hp : p < n) : f_X2_slackOf μ a (nI p) = some (slack L p) := by
  unfold f_X2_slackOf
  rw [X2_gaitOf h hp, sb9, J6_bit, sb9, gait_bits]
theorem X11_ownerOf {μ : Mem} {l : Nat} (hl : l < 2 ^ 31) : f_X11_ownerOf μ (nI l) = some (nI (l / 2)) := by
  unfold f_X11_ownerOf
  rw [pk_shrN hl _ 1 (by decide)]
/-! the model -/
theorem ML.w0 {n : Nat} {f : Int32} {μ : Mem} {L : Ld} (h : ML n f (μ 265) L) : rd μ 265 2068 0 = some (nI n) := by
  rw [show (0 : Int32) = nI 0 from rfl, rd_nI (by decide) (by decide), h.ppl]
theorem X12_people {n : Nat} {f : Int32} {μ : Mem} {L : Ld} (h : ML n f (μ 265) L) : f_X12_people μ = some (nI n) := by
  unfold f_X12_people
  rw [h.w0, sb9]
theorem X12_laces {n : Nat} {f : Int32} {μ : Mem} {L : Ld} (h : ML n f (μ 265) L) : f_X12_laces μ = some (nI (2 * n)) := by
  unfold f_X12_laces
  rw [X12_people h, sb9, two_nI]
theorem mi_of {p k : Nat} : (28 + 5 * nI p) + nI k = nI (28 + 5 * p + k) := by
  rw [show (28 : Int32) = nI 28 from rfl, show (5 : Int32) = nI 5 from rfl, pk_mul, nI_add, nI_add]
theorem mi_lace {l k : Nat} : (58 + 6 * nI l) + nI k = nI (58 + 6 * l + k) := by
  rw [show (58 : Int32) = nI 58 from rfl, show (6 : Int32) = nI 6 from rfl, pk_mul, nI_add, nI_add]
theorem X12_ofN {n : Nat} {f : Int32} {μ : Mem} {L : Ld} (h : ML n f (μ 265) L) {p k : Nat} (hp : p < n) (hk : k < 5) : f_X12_of μ (nI p) (nI k) = some (L (k + 1) p) := by
  have hn := h.n6
  unfold f_X12_of f_X12_at
  rw [sb9, mi_of, rd_nI (by omega) (by decide), sb9]
  have := h.atP (k := k + 1) (i := p) (by omega) hp
  rw [show k + 1 - 1 = k by omega] at this
  rw [this]
theorem X12_laceN {n : Nat} {f : Int32} {μ : Mem} {L : Ld} (h : ML n f (μ 265) L) {l k : Nat} (hl : l < 2 * n) (hk : k < 6) : f_X12_ofLace μ (nI l) (nI k) = some (L (k + 6) l) := by
  have hn := h.n6
  unfold f_X12_ofLace f_X12_laceAt
  rw [sb9, mi_lace, rd_nI (by omega) (by decide), sb9]
  have := h.atL (k := k + 6) (i := l) (by omega) hl
  rw [show k + 6 - 6 = k by omega] at this
  rw [this]
theorem X12_of0 {n : Nat} {f : Int32} {μ : Mem} {L : Ld} (h : ML n f (μ 265) L) {p : Nat} (hp : p < n) : f_X12_of μ (nI p) 0 = some (L 1 p) := X12_ofN h (k := 0) hp (by decide)
theorem X12_of1 {n : Nat} {f : Int32} {μ : Mem} {L : Ld} (h : ML n f (μ 265) L) {p : Nat} (hp : p < n) : f_X12_of μ (nI p) 1 = some (L 2 p) := X12_ofN h (k := 1) hp (by decide)
theorem X12_of2 {n : Nat} {f : Int32} {μ : Mem} {L : Ld} (h : ML n f (μ 265) L) {p : Nat} (hp : p < n) : f_X12_of μ (nI p) 2 = some (L 3 p) := X12_ofN h (k := 2) hp (by decide)
theorem X12_of3 {n : Nat} {f : Int32} {μ : Mem} {L : Ld} (h : ML n f (μ 265) L) {p : Nat} (hp : p < n) : f_X12_of μ (nI p) 3 = some (L 4 p) := X12_ofN h (k := 3) hp (by decide)
theorem X12_of4 {n : Nat} {f : Int32} {μ : Mem} {L : Ld} (h : ML n f (μ 265) L) {p : Nat} (hp : p < n) : f_X12_of μ (nI p) 4 = some (L 5 p) := X12_ofN h (k := 4) hp (by decide)
theorem X12_lace0 {n : Nat} {f : Int32} {μ : Mem} {L : Ld} (h : ML n f (μ 265) L) {l : Nat} (hl : l < 2 * n) : f_X12_ofLace μ (nI l) 0 = some (L 6 l) := X12_laceN h (k := 0) hl (by decide)
theorem X12_lace1 {n : Nat} {f : Int32} {μ : Mem} {L : Ld} (h : ML n f (μ 265) L) {l : Nat} (hl : l < 2 * n) : f_X12_ofLace μ (nI l) 1 = some (L 7 l) := X12_laceN h (k := 1) hl (by decide)
theorem X12_lace2 {n : Nat} {f : Int32} {μ : Mem} {L : Ld} (h : ML n f (μ 265) L) {l : Nat} (hl : l < 2 * n) : f_X12_ofLace μ (nI l) 2 = some (L 8 l) := X12_laceN h (k := 2) hl (by decide)
theorem X12_lace3 {n : Nat} {f : Int32} {μ : Mem} {L : Ld} (h : ML n f (μ 265) L) {l : Nat} (hl : l < 2 * n) : f_X12_ofLace μ (nI l) 3 = some (L 9 l) := X12_laceN h (k := 3) hl (by decide)
theorem X12_lace4 {n : Nat} {f : Int32} {μ : Mem} {L : Ld} (h : ML n f (μ 265) L) {l : Nat} (hl : l < 2 * n) : f_X12_ofLace μ (nI l) 4 = some (L 10 l) := X12_laceN h (k := 4) hl (by decide)
theorem X12_lace5 {n : Nat} {f : Int32} {μ : Mem} {L : Ld} (h : ML n f (μ 265) L) {l : Nat} (hl : l < 2 * n) : f_X12_ofLace μ (nI l) 5 = some (L 11 l) := X12_laceN h (k := 5) hl (by decide)
theorem X12_isPledged {n : Nat} {f : Int32} {μ : Mem} {L : Ld} (h : ML n f (μ 265) L) {l : Nat} (hl : l < 2 * n) : f_X12_isPledged μ (nI l) = some (decide (L 6 l = 1)) := by
  unfold f_X12_isPledged
  rw [X12_lace0 h hl, sb9]
  by_cases c : L 6 l = 1
  · rw [if_pos c, decide_eq_true c]
  · rw [if_neg c, decide_eq_false c]
theorem X12_isLost {n : Nat} {f : Int32} {μ : Mem} {L : Ld} (h : ML n f (μ 265) L) {l : Nat} (hl : l < 2 * n) : f_X12_isLost μ (nI l) = some (decide (L 6 l = 2)) := by
  unfold f_X12_isLost
  rw [X12_lace0 h hl, sb9]
  by_cases c : L 6 l = 2
  · rw [if_pos c, decide_eq_true c]
  · rw [if_neg c, decide_eq_false c]
theorem X12_isIn {n : Nat} {f : Int32} {μ : Mem} {L : Ld} (h : ML n f (μ 265) L) {l : Nat} (hl : l < 2 * n) : f_X12_isIn μ (nI l) = some (decide (L 6 l = 0)) := by
  unfold f_X12_isIn
  rw [X12_lace0 h hl, sb9]
  by_cases c : L 6 l = 0
  · rw [if_pos c, decide_eq_true c]
  · rw [if_neg c, decide_eq_false c]
theorem X12_ownerOf {μ : Mem} {l : Nat} (hl : l < 2 ^ 31) : f_X12_ownerOf μ (nI l) = some (nI (l / 2)) := by
  unfold f_X12_ownerOf dv
  rw [if_neg (by decide), sb9, show (2 : Int32) = nI 2 from rfl, pk_div hl (by decide) (by decide)]
theorem nI_nle' {a b : Nat} (h : a < b) (hb : b < 2 ^ 31) : ¬ nI b ≤ nI a := nI_ge h hb
theorem nI_nm1 {p : Nat} (h : p < 2 ^ 31) : ¬ nI p = -1 := fun q => by
  have h1 : (nI p).toInt = (p : Int) := nI_toInt h
  rw [q] at h1
  exact absurd h1 (by have : (-1 : Int32).toInt = -1 := (by decide); omega)
theorem WF.lace {n : Nat} {L : Ld} (h : WF n L) {l : Nat} (hl : l < 2 * n) : LaceW n l L := h.2.2.2.2.1 l hl
theorem WF.man {n : Nat} {L : Ld} (h : WF n L) {p : Nat} (hp : p < n) : PersonW p L := h.2.2.2.1 p hp
theorem WF.row {n : Nat} {L : Ld} (h : WF n L) {k : Nat} (hk : k < zz L) : RowW k L := h.2.2.2.2.2.1 k hk
theorem WF.mud {n : Nat} {L : Ld} (h : WF n L) {q : Nat} (hq : q < 20) : ∃ x, x ≤ 9 ∧ L 12 q = nI x := h.2.2.2.2.2.2 q hq
theorem LaceW.how {n l : Nat} {L : Ld} (h : LaceW n l L) : L 6 l = 0 ∨ L 6 l = 1 ∨ L 6 l = 2 := by
  rcases h with h | h | h
  · exact Or.inl h.1
  · exact Or.inr (Or.inl h.1)
  · exact Or.inr (Or.inr h.1)
/-- whose HOLDER it is, is not in its shoe -/
theorem LaceW.held {n l p : Nat} {L : Ld} (h : LaceW n l L) (hp : p < 2 ^ 31) (e : L 7 l = nI p) : ¬ L 6 l = 0 := by
  rcases h with h | h | h
  · rw [h.2.1] at e
    exact absurd e.symm (nI_nm1 hp)
  · rw [h.1]; decide
  · rw [h.1]; decide
theorem LaceW.amt0 {n l : Nat} {L : Ld} (h : LaceW n l L) (e : ¬ L 6 l = 1) : L 8 l = 0 := by
  rcases h with h | h | ⟨-, x, -, -, -, h, -⟩
  · exact h.2.2.1
  · exact absurd h.1 e
  · exact h
theorem LaceW.sur {n l p : Nat} {L : Ld} (h : LaceW n l L) (hp : p < 2 ^ 31) (e : L 11 l = nI p) : L 6 l = 1 := by
  rcases h with h | h | ⟨-, x, -, -, -, -, -, -, h⟩
  · rw [h.2.2.2.2.2] at e
    exact absurd e.symm (nI_nm1 hp)
  · exact h.1
  · rw [h] at e
    exact absurd e.symm (nI_nm1 hp)
theorem X12_slackOf {n : Nat} {f : Int32} {μ : Mem} {L : Ld} (h : ML n f (μ 265) L) {p : Nat} (hp : p < n) : f_X12_slackOf μ (nI p) = some (slack L p) := by
  unfold f_X12_slackOf slack off9
  rw [two_nI, nI_1, X12_isIn h (show 2 * p < 2 * n by omega), X12_isIn h (show 2 * p + 1 < 2 * n by omega), sb9, sb9]
  by_cases c : L 6 (2 * p) = 0
  · by_cases d : L 6 (2 * p + 1) = 0 <;> simp [c, d, b2i]
  · by_cases d : L 6 (2 * p + 1) = 0 <;> simp [c, d, b2i]
theorem X12_heldBy {n : Nat} {f : Int32} {μ : Mem} {L : Ld} (h : ML n f (μ 265) L) (hw : WF n L) {p : Nat} (hp : p < 2 ^ 31) : f_X12_heldBy μ (nI p) = some (obits (fun l => decide (L 7 l = nI p)) (2 * n)) := by
  have hn := h.n6
  unfold f_X12_heldBy f_X12_heldBy_l4
  refine bind_loop (fun i => (obits (fun l => decide (L 7 l = nI p)) i, nI i)) (2 * n) _ rfl (fun i hi => ?_) ?_ (by omega) rfl
  · show f_X12_heldBy_b4 μ (nI p) _ (nI i) = _
    unfold f_X12_heldBy_b4
    rw [X12_laces h, sb9, if_neg (nI_ge hi (by omega)), X12_isIn h hi, sb9, X12_lace1 h hi, nI_1]
    by_cases c : L 6 i = 0
    · rw [if_pos (decide_eq_true c)]
      unfold f_X12_heldBy_j37_4 f_X12_heldBy_j38_4
      rw [or_zero, nI_1]
      rw [← obits_0 (P := fun l => decide (L 7 l = nI p)) (i := i) (decide_eq_false (fun q => (hw.lace hi).held hp q c))]
    · rw [if_neg (by simp [c]), sb9, obits_or rfl]
  · show f_X12_heldBy_b4 μ (nI p) _ (nI (2 * n)) = _
    unfold f_X12_heldBy_b4
    rw [X12_laces h, sb9, if_pos (nI_le (Nat.le_refl _) (by omega))]
theorem X12_lostOnes {n : Nat} {f : Int32} {μ : Mem} {L : Ld} (h : ML n f (μ 265) L) : f_X12_lostOnes μ = some (obits (fun l => decide (L 6 l = 2)) (2 * n)) := by
  have hn := h.n6
  unfold f_X12_lostOnes f_X12_lostOnes_l4
  refine bind_loop (fun i => (obits (fun l => decide (L 6 l = 2)) i, nI i)) (2 * n) _ rfl (fun i hi => ?_) ?_ (by omega) rfl
  · show f_X12_lostOnes_b4 μ _ (nI i) = _
    unfold f_X12_lostOnes_b4
    rw [X12_laces h, sb9, if_neg (nI_ge hi (by omega)), X12_isLost h hi, sb9, nI_1, obits_or (by simp)]
  · show f_X12_lostOnes_b4 μ _ (nI (2 * n)) = _
    unfold f_X12_lostOnes_b4
    rw [X12_laces h, sb9, if_pos (nI_le (Nat.le_refl _) (by omega))]
theorem X12_pledgedOnes {n : Nat} {f : Int32} {μ : Mem} {L : Ld} (h : ML n f (μ 265) L) : f_X12_pledgedOnes μ = some (obits (fun l => decide (L 6 l = 1)) (2 * n)) := by
  have hn := h.n6
  unfold f_X12_pledgedOnes f_X12_pledgedOnes_l4
  refine bind_loop (fun i => (obits (fun l => decide (L 6 l = 1)) i, nI i)) (2 * n) _ rfl (fun i hi => ?_) ?_ (by omega) rfl
  · show f_X12_pledgedOnes_b4 μ _ (nI i) = _
    unfold f_X12_pledgedOnes_b4
    rw [X12_laces h, sb9, if_neg (nI_ge hi (by omega)), X12_isPledged h hi, sb9, nI_1, obits_or (by simp)]
  · show f_X12_pledgedOnes_b4 μ _ (nI (2 * n)) = _
    unfold f_X12_pledgedOnes_b4
    rw [X12_laces h, sb9, if_pos (nI_le (Nat.le_refl _) (by omega))]
