/-! QUESTIONS OF SETS -/
theorem obits_ifn {P : Nat → Bool} {c : Prop} [Decidable c] {i : Nat} (hc : P i = !decide c) : (if c then obits P i else obits P i ||| (1 <<< (nI i &&& 31))) = obits P (i + 1) := by
  show _ = if P i = true then obits P i ||| pw i else obits P i
  rw [hc]
  by_cases h : c
  · rw [if_pos h, if_neg (by simp [h])]
  · rw [if_neg h, if_pos (by simp [h])]; rfl
theorem obits_orn {P : Nat → Bool} {c : Prop} [Decidable c] {i : Nat} (hc : P i = !decide c) : obits P i ||| (if c then (0 : Int32) else (1 <<< (nI i &&& 31))) = obits P (i + 1) := by
  rw [← obits_ifn hc]
  by_cases h : c
  · rw [if_pos h, if_pos h, or_zero]
  · rw [if_neg h, if_neg h]
/-- both answer alike; the answer is a number; nothing is thrown -/
def AgD (μ : Mem) (o : Option (Int32 × Mem)) (m : Mem → Option (Int32 × Mem)) : Prop := ∃ v : Int32, Ok o (fun q => q.1 = v ∧ KC μ q.2) ∧ ∀ ν, KC μ ν → Ok (m ν) (fun q => q.1 = v ∧ KM ν q.2)
def AgN (μ : Mem) (o : Option Int32) (m : Option (Int32 × Mem)) : Prop := ∃ v : Int32, o = some v ∧ Ok m (fun q => q.1 = v ∧ KM μ q.2)
section Se
variable {n : Nat} {f : Int32} {μ : Mem} {L : Ld} {T : Tx} {a : Nat}
theorem X12_has {x : Int32} {l : Nat} (hl : l < 32) : f_X12_has μ x (nI l) = some (bt x l) := by
  unfold f_X12_has
  cases hb : bt x l with
  | true => rw [if_pos ((has1 hl).mpr hb)]
  | false => rw [if_neg (fun q => by rw [has1 hl, hb] at q; cases q)]
theorem X12_amountOf (h : ML n f (μ 265) L) (S : Int32) : f_X12_amountOf μ S = some (amt n L S) := by
  have hn := h.n6
  unfold f_X12_amountOf f_X12_amountOf_l4
  refine bind_loop (fun i => (osum (fun l => if bt S l = true then L 8 l else 0) i, nI i)) (2 * n) _ rfl (fun i hi => ?_) ?_ (by omega) rfl
  · show f_X12_amountOf_b4 μ S _ (nI i) = _
    unfold f_X12_amountOf_b4
    refine bs (X12_laces h) (ie (nI_ge hi (by omega)) (bs (X12_has (by omega)) ?_))
    by_cases hb : bt S i = true
    · refine it hb (bs (X12_lace2 h hi) ?_)
      unfold f_X12_amountOf_j31_4
      rw [nI_1, osum_s, if_pos hb]
    · refine ie hb ?_
      unfold f_X12_amountOf_j31_4
      rw [nI_1, osum_s, if_neg hb]
  · show f_X12_amountOf_b4 μ S _ (nI (2 * n)) = _
    unfold f_X12_amountOf_b4
    exact bs (X12_laces h) (it (nI_le (Nat.le_refl _) (by omega)) rfl)
theorem X12_hangsOn (h : ML n f (μ 265) L) (hw : WF n L) {p : Nat} (hp : p < 2 ^ 31) : f_X12_hangsOn μ (nI p) = some (obits (fun l => decide (L 11 l = nI p)) (2 * n)) := by
  have hn := h.n6
  unfold f_X12_hangsOn f_X12_hangsOn_l4
  refine bind_loop (fun i => (obits (fun l => decide (L 11 l = nI p)) i, nI i)) (2 * n) _ rfl (fun i hi => ?_) ?_ (by omega) rfl
  · show f_X12_hangsOn_b4 μ (nI p) _ (nI i) = _
    unfold f_X12_hangsOn_b4
    refine bs (X12_laces h) (ie (nI_ge hi (by omega)) (bs (X12_isPledged h hi) ?_))
    by_cases c : L 6 i = 1
    · refine it (decide_eq_true c) (bs (X12_lace5 h hi) ?_)
      rw [nI_1, obits_or rfl]
    · refine ie (by simp [c]) ?_
      unfold f_X12_hangsOn_j37_4 f_X12_hangsOn_j38_4
      rw [or_zero, nI_1, ← obits_0 (P := fun l => decide (L 11 l = nI p)) (i := i) (decide_eq_false (fun q => c ((hw.lace hi).sur hp q)))]
  · show f_X12_hangsOn_b4 μ (nI p) _ (nI (2 * n)) = _
    unfold f_X12_hangsOn_b4
    exact bs (X12_laces h) (it (nI_le (Nat.le_refl _) (by omega)) rfl)
theorem q_solvent (h : St n f L T μ) : AgN μ (f_X11_solvent μ) (f_X12_solvent μ) := by
  have hn := h.n6
  have m0 := h.m0 KC.refl
  refine ⟨obits (fun p => !decide (L 1 p < owedA L p)) n, ?_, ?_⟩
  · unfold f_X11_solvent f_X11_solvent_l4
    refine bind_loop (fun i => (obits (fun p => !decide (L 1 p < owedA L p)) i, nI i)) n _ rfl (fun i hi => ?_) ?_ (by omega) rfl
    · show f_X11_solvent_b4 μ _ (nI i) = _
      unfold f_X11_solvent_b4
      refine ie (h.c.lt1 hi) (bs (h.c.rdP (k := 1) (by decide) hi) (bs (X2_owedBy h.c hi) ?_))
      rw [nI_1, obits_ifn rfl]
    · show f_X11_solvent_b4 μ _ (nI n) = _
      unfold f_X11_solvent_b4
      exact it h.c.ge1 rfl
  · unfold f_X12_solvent f_X12_solvent_l9
    refine Ok.of (a := (obits (fun p => !decide (L 1 p < owedA L p)) n, mset μ 264 0 0)) (bind_loop (fun i => (obits (fun p => !decide (L 1 p < owedA L p)) i, nI i)) n _ rfl (fun i hi => ?_) ?_ (by omega) rfl) ⟨rfl, KM.thr⟩
    · show f_X12_solvent_b9 _ _ (nI i) = _
      unfold f_X12_solvent_b9
      refine bs (X12_people m0.m) (ie (nI_ge hi (by omega)) (bs (X12_of0 m0.m hi) (bs (X12_owesOf m0.m m0.w hi) ?_)))
      rw [nI_1, obits_orn rfl]
    · show f_X12_solvent_b9 _ _ (nI n) = _
      unfold f_X12_solvent_b9
      exact bs (X12_people m0.m) (it (nI_le (Nat.le_refl _) (by omega)) rfl)
theorem q_rail (h : St n f L T μ) : AgN μ (f_X11_rail μ) (f_X12_rail μ) := by
  have m0 := h.m0 KC.refl
  refine ⟨lostS n L, ?_, ?_⟩
  · unfold f_X11_rail
    exact bs (X2_lacesThatAre h.c 2) rfl
  · unfold f_X12_rail
    exact Ok.s (X12_lostOnes m0.m) (Ok.r ⟨rfl, KM.thr⟩)
theorem q_hangs (h : St n f L T μ) (p1 : Int32) : AgQ μ (f_L_hangs μ p1) (fun ν => f_X12_hangs ν p1) := by
  have hn := h.n6
  by_cases b1 : outb p1 0 (nI n - 1) = true
  · refine ⟨1, 0, wrap1 (k := 2) (by decide) rfl ?_, fun ν hk => ?_⟩
    · unfold f_X11_hangs
      refine Ok.s (X11_needPerson h.c p1) ?_
      rw [if_pos b1]
      exact elimL' (XR.no (by decide) KC.refl)
    · have m0 := h.m0 hk
      unfold f_X12_hangs
      refine Ok.s (X12_noPerson m0.m p1) ?_
      rw [b1]
      exact Ok.s (X12_thrT 1) (Ok.t rfl (mrT (by decide)))
  · have b1' : outb p1 0 (nI n - 1) = false := by simpa using b1
    obtain ⟨p, hp, rfl⟩ := outb_ix (by omega) b1'
    refine ⟨0, obits (fun l => decide (L 11 l = nI p)) (2 * n), wrap1 (k := 0) (by decide) rfl ?_, fun ν hk => ?_⟩
    · unfold f_X11_hangs
      refine Ok.s (X11_needPerson h.c _) ?_
      rw [if_neg b1]
      refine elimR' (Ok.s (X2_hangingOn h.c (nI p)) ?_)
      exact XR.yes rfl KC.refl
    · have m0 := h.m0 hk
      unfold f_X12_hangs
      refine Ok.s (X12_noPerson m0.m _) ?_
      rw [b1']
      refine Ok.s (X12_thrF 1) (Ok.e fnt ?_)
      refine Ok.s (X12_hangsOn m0.m m0.w (by omega)) ?_
      exact mrV rfl
def hangAmt (n : Nat) (L : Ld) (p : Nat) : Int32 := amt n L (obits (fun l => decide (L 11 l = nI p)) (2 * n))
def trustA (n : Nat) (L : Ld) : Nat → Int32 × Int32 := fun i => iter (fun p (s : Int32 × Int32) => if hangAmt n L p ≤ s.2 then s else (nI p, hangAmt n L p)) i (-1, 0)
theorem trust_t {i : Nat} (h : hangAmt n L i ≤ (trustA n L i).2) : trustA n L (i + 1) = trustA n L i := if_pos h
theorem trust_f {i : Nat} (h : ¬ hangAmt n L i ≤ (trustA n L i).2) : trustA n L (i + 1) = (nI i, hangAmt n L i) := if_neg h
theorem q_trust (h : St n f L T μ) : AgN μ (f_X11_trust μ) (f_X12_trust μ) := by
  have hn := h.n6
  have m0 := h.m0 KC.refl
  refine ⟨(trustA n L n).1, ?_, ?_⟩
  · unfold f_X11_trust f_X11_trust_l6
    refine bind_loop (fun i => ((trustA n L i).1, (trustA n L i).2, nI i)) n _ rfl (fun i hi => ?_) ?_ (by omega) rfl
    · show f_X11_trust_b6 μ (trustA n L i).1 (trustA n L i).2 (nI i) = _
      unfold f_X11_trust_b6
      refine ie (h.c.lt1 hi) (bs (X2_hangingOn h.c (nI i)) (bs (X2_amountOf h.c _) ?_))
      by_cases c : hangAmt n L i ≤ (trustA n L i).2
      · refine it c ?_
        unfold f_X11_trust_j45_6
        rw [trust_t c, nI_1]
      · refine ie c ?_
        unfold f_X11_trust_j45_6
        rw [trust_f c, nI_1]
        rfl
    · show f_X11_trust_b6 μ _ _ (nI n) = _
      unfold f_X11_trust_b6
      exact it h.c.ge1 rfl
  · unfold f_X12_trust f_X12_trust_l11
    refine Ok.of (a := ((trustA n L n).1, mset μ 264 0 0)) (bind_loop (fun i => ((trustA n L i).1, (trustA n L i).2, nI i)) n _ rfl (fun i hi => ?_) ?_ (by omega) rfl) ⟨rfl, KM.thr⟩
    · show f_X12_trust_b11 _ (trustA n L i).1 (trustA n L i).2 (nI i) = _
      unfold f_X12_trust_b11
      refine bs (X12_people m0.m) (ie (nI_ge hi (by omega)) (bs (X12_hangsOn m0.m m0.w (by omega)) (bs (X12_amountOf m0.m _) (bs J9_max ?_))))
      show some (Sum.inl (if hangAmt n L i ≤ (trustA n L i).2 then (trustA n L i).1 else nI i, mx (trustA n L i).2 (hangAmt n L i), nI i + 1)) = _
      unfold mx
      by_cases c : hangAmt n L i ≤ (trustA n L i).2
      · rw [if_pos c, if_neg (Int32.not_lt.mpr c), trust_t c, nI_1]
      · rw [if_neg c, if_pos (Int32.not_le.mp c), trust_f c, nI_1]
    · show f_X12_trust_b11 _ _ _ (nI n) = _
      unfold f_X12_trust_b11
      exact bs (X12_people m0.m) (it (nI_le (Nat.le_refl _) (by omega)) rfl)
/-! who is needed -/
theorem bt_pw {i l : Nat} (hi : i < 32) (hl : l < 32) : bt (1 <<< (nI i &&& 31)) l = decide (l = i) := pw_b hi hl
theorem and_pw {x : Int32} {i : Nat} (hi : i < 32) : x &&& (1 <<< (nI i &&& 31)) = 0 ↔ bt x i = false := by
  constructor
  · intro h
    have h1 : bt (x &&& (1 <<< (nI i &&& 31))) i = false := by rw [h]; exact b_0 i
    rw [b_and, bt_pw hi hi] at h1
    simpa using h1
  · intro h
    apply b_ext
    intro l hl
    rw [b_and, bt_pw hi hl, b_0]
    by_cases e : l = i
    · subst e; simp [h]
    · simp [e]
theorem and_or0 {x y z : Int32} : x &&& (y ||| z) = 0 ↔ (x &&& y = 0 ∧ x &&& z = 0) := by
  constructor
  · intro h
    have hb : ∀ i, i < 32 → (bt x i && (bt y i || bt z i)) = false := fun i hi => by
      have : bt (x &&& (y ||| z)) i = false := by rw [h]; exact b_0 i
      rwa [b_and, b_or] at this
    constructor <;> (apply b_ext; intro i hi; have := hb i hi; rw [b_and, b_0]; revert this; cases bt x i <;> cases bt y i <;> cases bt z i <;> decide)
  · intro ⟨h1, h2⟩
    apply b_ext
    intro i hi
    have q1 : bt (x &&& y) i = false := by rw [h1]; exact b_0 i
    have q2 : bt (x &&& z) i = false := by rw [h2]; exact b_0 i
    rw [b_and] at q1 q2
    rw [b_and, b_or, b_0]
    revert q1 q2
    cases bt x i <;> cases bt y i <;> cases bt z i <;> decide
/-- someone of S has part in lace l -/
def partB (L : Ld) (S : Int32) (l : Nat) : Bool := bt S (l / 2) || bt S (idx (L 7 l)) || (!decide (L 11 l = -1) && bt S (idx (L 11 l)))
def inEach (n : Nat) (L : Ld) (S : Int32) : Nat → Bool
  | 0 => true
  | l + 1 => inEach n L S l && (!decide (L 6 l = 1) || partB L S l)
theorem X2_partiesOf (h : CL n f μ a L) {l : Nat} (hl : l < 2 * n) (hP : Pledged n l L) (S : Int32) : ∃ v, f_X2_partiesOf μ a (nI l) = some v ∧ (S &&& v = 0 ↔ partB L S l = false) := by
  have hn := h.n6
  obtain ⟨h1, e1⟩ := hP.hold hn
  have w1 : (1 <<< (L 7 l &&& 31) : Int32) = 1 <<< (nI (idx (L 7 l)) &&& 31) := by rw [← e1]
  by_cases c : L 11 l = -1
  · refine ⟨(1 <<< (nI (l / 2) &&& 31)) ||| (1 <<< (L 7 l &&& 31)), ?_, ?_⟩
    · unfold f_X2_partiesOf
      refine bs (X11_ownerOf (by omega)) (bs (h.rdL (k := 7) (by decide) hl) (bs (h.rdL (k := 11) (by decide) hl) (it c rfl)))
    · rw [and_or0, w1, and_pw (by omega), and_pw (by omega)]
      unfold partB
      rw [decide_eq_true c]
      simp
  · obtain ⟨h2, e2⟩ := hP.sure hn c
    have w2 : (1 <<< (L 11 l &&& 31) : Int32) = 1 <<< (nI (idx (L 11 l)) &&& 31) := by rw [← e2]
    refine ⟨((1 <<< (nI (l / 2) &&& 31)) ||| (1 <<< (L 7 l &&& 31))) ||| (1 <<< (L 11 l &&& 31)), ?_, ?_⟩
    · unfold f_X2_partiesOf
      refine bs (X11_ownerOf (by omega)) (bs (h.rdL (k := 7) (by decide) hl) (bs (h.rdL (k := 11) (by decide) hl) (ie c (bs (h.rdL (k := 11) (by decide) hl) rfl))))
    · rw [and_or0, and_or0, w1, w2, and_pw (by omega), and_pw (by omega), and_pw (by omega)]
      unfold partB
      rw [decide_eq_false c]
      simp
theorem inEach_f {S : Int32} {l : Nat} (h : inEach n L S l = false) : ∀ d, inEach n L S (l + d) = false
  | 0 => h
  | d + 1 => by show (inEach n L S (l + d) && _) = false; rw [inEach_f h d]; rfl
theorem X2_isInEachPledge (h : CL n f μ a L) (hw : WF n L) (S : Int32) : f_X2_isInEachPledge μ a S = some (inEach n L S (2 * n)) := by
  have hn := h.n6
  unfold f_X2_isInEachPledge f_X2_isInEachPledge_l2
  have key : Ok (Option.bind (loopN 10000 (fun z : Int32 => f_X2_isInEachPledge_b2 μ a S z) 0) fun t : (Unit ⊕ Bool) => Sum.elim (fun e => f_X2_isInEachPledge_j38 μ a) (fun x => some x) t) (fun b => b = inEach n L S (2 * n)) := by
    refine Ok.loop (fun j z => z = nI j ∧ inEach n L S j = true) (fun t => (t = Sum.inl () ∧ inEach n L S (2 * n) = true) ∨ (t = Sum.inr false ∧ inEach n L S (2 * n) = false)) (2 * n) (by omega) ⟨rfl, rfl⟩ (fun j z hj hI => ?_) (fun t ht => ?_)
    · obtain ⟨rfl, hI⟩ := hI
      show Ok (f_X2_isInEachPledge_b2 μ a S (nI j)) _
      unfold f_X2_isInEachPledge_b2
      by_cases hc : j = 2 * n
      · subst hc
        exact Ok.t h.ge2 (Ok.d (Or.inl ⟨rfl, hI⟩))
      · have hj2 : j < 2 * n := by omega
        refine Ok.e (h.lt2 hj2) (Ok.s (X2_isPledged h hj2) ?_)
        by_cases c : L 6 j = 1
        · refine Ok.t (decide_eq_true c) ?_
          obtain ⟨v, e1, e2⟩ := X2_partiesOf h hj2 ((hw.lace hj2).pledged c) S
          refine Ok.s e1 ?_
          by_cases d : S &&& v = 0
          · refine Ok.t d (Ok.d (Or.inr ⟨rfl, ?_⟩))
            obtain ⟨k, hk⟩ : ∃ k, 2 * n = j + 1 + k := ⟨2 * n - (j + 1), by omega⟩
            rw [hk]
            refine inEach_f ?_ k
            show (inEach n L S j && (!decide (L 6 j = 1) || partB L S j)) = false
            rw [e2.mp d, decide_eq_true c]
            simp
          · refine Ok.e d ?_
            unfold f_X2_isInEachPledge_j32_2
            refine Ok.c hj2 ⟨nI_1 _, ?_⟩
            show (inEach n L S j && (!decide (L 6 j = 1) || partB L S j)) = true
            have : partB L S j = true := by
              cases hb : partB L S j with
              | true => rfl
              | false => exact absurd (e2.mpr hb) d
            rw [hI, this]
            simp
        · refine Ok.e (by simp [c]) ?_
          unfold f_X2_isInEachPledge_j32_2
          refine Ok.c hj2 ⟨nI_1 _, ?_⟩
          show (inEach n L S j && (!decide (L 6 j = 1) || partB L S j)) = true
          rw [hI, decide_eq_false c]
          simp
    · rcases ht with ⟨rfl, e⟩ | ⟨rfl, e⟩
      · exact Ok.r e.symm
      · exact Ok.r e.symm
  obtain ⟨b, e1, e2⟩ := key
  rw [e2] at e1
  exact e1
theorem X12_isNeeded (h : ML n f (μ 265) L) (hw : WF n L) (S : Int32) : f_X12_isNeeded μ S = some (inEach n L S (2 * n)) := by
  have hn := h.n6
  unfold f_X12_isNeeded f_X12_isNeeded_l4
  refine bind_loop (fun i => (inEach n L S i, nI i)) (2 * n) _ rfl (fun i hi => ?_) ?_ (by omega) rfl
  · show f_X12_isNeeded_b4 μ S (inEach n L S i) (nI i) = _
    have hnx : inEach n L S (i + 1) = (inEach n L S i && (!decide (L 6 i = 1) || partB L S i)) := rfl
    unfold f_X12_isNeeded_b4
    refine bs (X12_laces h) (ie (nI_ge hi (by omega)) (bs (X12_isPledged h hi) ?_))
    by_cases c : L 6 i = 1
    · refine it (decide_eq_true c) ?_
      have hP := (hw.lace hi).pledged c
      obtain ⟨h1, e1⟩ := hP.hold hn
      cases hb : inEach n L S i with
      | false =>
        refine ie fnt ?_
        unfold f_X12_isNeeded_j75_4 f_X12_isNeeded_j76_4 f_X12_isNeeded_j77_4
        rw [hnx, hb, nI_1]; rfl
      | true =>
        refine it rfl (bs (X12_ownerOf (by omega)) (bs (X12_has (by omega)) ?_))
        rw [hb, decide_eq_true c] at hnx
        cases b1 : bt S (i / 2) with
        | true =>
          refine it rfl ?_
          unfold f_X12_isNeeded_j71_4 f_X12_isNeeded_j76_4 f_X12_isNeeded_j77_4
          rw [hnx, nI_1]
          unfold partB
          rw [b1]; rfl
        | false =>
          refine ie fnt (bs (X12_lace1 h hi) ?_)
          refine bs (a := bt S (idx (L 7 i))) (by rw [e1]; unfold idx; rw [nI_clamp (by unfold idx at h1; omega)]; exact X12_has (by unfold idx at h1; omega)) ?_
          cases b2 : bt S (idx (L 7 i)) with
          | true =>
            refine it rfl ?_
            unfold f_X12_isNeeded_j71_4 f_X12_isNeeded_j76_4 f_X12_isNeeded_j77_4
            rw [hnx, nI_1]
            unfold partB
            rw [b1, b2]; rfl
          | false =>
            refine ie fnt (bs (X12_lace5 h hi) ?_)
            by_cases d : L 11 i = -1
            · refine it d ?_
              unfold f_X12_isNeeded_j75_4 f_X12_isNeeded_j76_4 f_X12_isNeeded_j77_4
              rw [hnx, nI_1]
              unfold partB
              rw [b1, b2, decide_eq_true d]; rfl
            · obtain ⟨h2, e2⟩ := hP.sure hn d
              refine ie d (bs (X12_lace5 h hi) ?_)
              refine bs (a := bt S (idx (L 11 i))) (by rw [e2]; unfold idx; rw [nI_clamp (by unfold idx at h2; omega)]; exact X12_has (by unfold idx at h2; omega)) ?_
              unfold f_X12_isNeeded_j77_4
              rw [hnx, nI_1, bite]
              unfold partB
              rw [b1, b2, decide_eq_false d]
              simp
    · refine ie (by simp [c]) ?_
      unfold f_X12_isNeeded_j77_4
      rw [hnx, nI_1, decide_eq_false c]
      simp
  · show f_X12_isNeeded_b4 μ S _ (nI (2 * n)) = _
    unfold f_X12_isNeeded_b4
    exact bs (X12_laces h) (it (nI_le (Nat.le_refl _) (by omega)) rfl)
theorem all_nI : ∀ n, n < 7 → ((1 : Int32) <<< (nI n &&& 31)) - 1 = nI (2 ^ n - 1) := by decide +kernel
def needS (n : Nat) (L : Ld) (m : Nat) : Nat → Int32
  | 0 => nI m
  | i + 1 => if bitC (needS n L m i) < bitC (nI (m - i)) then needS n L m i else (if inEach n L (nI (m - i)) (2 * n) = true then nI (m - i) else needS n L m i)
theorem q_needed (h : St n f L T μ) : AgN μ (f_X11_needed μ) (f_X12_needed μ) := by
  have hn := h.n6
  have m0 := h.m0 KC.refl
  have hm : 2 ^ n ≤ 64 := Nat.pow_le_pow_right (by decide) hn
  have hm0 : 0 < 2 ^ n := Nat.pow_pos (by decide)
  have ee : ((1 : Int32) <<< (nI n &&& 31)) - 1 = nI (2 ^ n - 1) := all_nI n (by omega)
  have stp : ∀ i, i < 2 ^ n → nI (2 ^ n - 1 - i) + (-1) = (if i + 1 = 2 ^ n then -1 else nI (2 ^ n - 1 - (i + 1))) := fun i hi => by
    by_cases e : i + 1 = 2 ^ n
    · rw [if_pos e, show 2 ^ n - 1 - i = 0 by omega]; decide
    · rw [if_neg e, show 2 ^ n - 1 - i = (2 ^ n - 1 - (i + 1)) + 1 by omega, pk_m1]
  refine ⟨needS n L (2 ^ n - 1) (2 ^ n), ?_, ?_⟩
  · unfold f_X11_needed f_X11_needed_l14
    rw [h.c.ppl, ee]
    refine bind_loop (fun i => (needS n L (2 ^ n - 1) i, if i = 2 ^ n then -1 else nI (2 ^ n - 1 - i))) (2 ^ n) (needS n L (2 ^ n - 1) (2 ^ n)) (by rw [if_neg (by omega)]; rfl) (fun i hi => ?_) ?_ (by omega) rfl
    · show f_X11_needed_b14 μ (needS n L (2 ^ n - 1) i) (if i = 2 ^ n then -1 else nI (2 ^ n - 1 - i)) = _
      rw [if_neg (show ¬ i = 2 ^ n by omega)]
      unfold f_X11_needed_b14
      refine ie (nI_pos (by omega)) (bs J6_bit (bs J6_bit ?_))
      have hnx : needS n L (2 ^ n - 1) (i + 1) = if bitC (needS n L (2 ^ n - 1) i) < bitC (nI (2 ^ n - 1 - i)) then needS n L (2 ^ n - 1) i else (if inEach n L (nI (2 ^ n - 1 - i)) (2 * n) = true then nI (2 ^ n - 1 - i) else needS n L (2 ^ n - 1) i) := rfl
      by_cases c : bitC (needS n L (2 ^ n - 1) i) < bitC (nI (2 ^ n - 1 - i))
      · refine it c ?_
        unfold f_X11_needed_j42_14
        rw [hnx, if_pos c, stp i hi]
      · refine ie c (bs (X2_isInEachPledge h.c h.w _) ?_)
        rw [hnx, if_neg c, stp i hi]
    · show f_X11_needed_b14 μ _ (if 2 ^ n = 2 ^ n then -1 else _) = _
      rw [if_pos rfl]
      unfold f_X11_needed_b14
      exact it (by decide) rfl
  · unfold f_X12_needed
    refine Ok.s (a := nI (2 ^ n - 1)) (by unfold f_X12_everybody; rw [X12_people m0.m, sb9, ee]) ?_
    unfold f_X12_needed_l12
    refine Ok.of (a := (needS n L (2 ^ n - 1) (2 ^ n), mset μ 264 0 0)) (bind_loop (fun i => (needS n L (2 ^ n - 1) i, if i = 2 ^ n then -1 else nI (2 ^ n - 1 - i))) (2 ^ n) (needS n L (2 ^ n - 1) (2 ^ n)) (by rw [if_neg (by omega)]; rfl) (fun i hi => ?_) ?_ (by omega) rfl) ⟨rfl, KM.thr⟩
    · show f_X12_needed_b12 _ (needS n L (2 ^ n - 1) i) (if i = 2 ^ n then -1 else nI (2 ^ n - 1 - i)) = _
      rw [if_neg (show ¬ i = 2 ^ n by omega)]
      unfold f_X12_needed_b12
      refine ie (nI_pos (by omega)) (bs J6_bit (bs J6_bit ?_))
      have hnx : needS n L (2 ^ n - 1) (i + 1) = if bitC (needS n L (2 ^ n - 1) i) < bitC (nI (2 ^ n - 1 - i)) then needS n L (2 ^ n - 1) i else (if inEach n L (nI (2 ^ n - 1 - i)) (2 * n) = true then nI (2 ^ n - 1 - i) else needS n L (2 ^ n - 1) i) := rfl
      by_cases c : bitC (needS n L (2 ^ n - 1) i) < bitC (nI (2 ^ n - 1 - i))
      · refine it c ?_
        unfold f_X12_needed_j39_12 f_X12_needed_j40_12
        rw [hnx, if_pos c, stp i hi]
      · refine ie c (bs (X12_isNeeded m0.m m0.w _) ?_)
        rw [hnx, if_neg c, stp i hi]
    · show f_X12_needed_b12 _ _ (if 2 ^ n = 2 ^ n then -1 else _) = _
      rw [if_pos rfl]
      unfold f_X12_needed_b12
      exact it (by decide) rfl
end Se
