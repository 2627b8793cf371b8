/-! LOOSE, THE LOG, COUNTS -/
section Lg
variable {n : Nat} {f : Int32} {μ : Mem} {L : Ld} {T : Tx} {a : Nat}
def amtN (L : Ld) (l : Nat) : Nat := idx (L 8 l)
def looO (L : Ld) (p : Nat) : Nat → Option Nat
  | 0 => none
  | j + 1 => if L 6 (2 * p + j) = 1 then (match looO L p j with | none => some (amtN L (2 * p + j)) | some x => some (min x (amtN L (2 * p + j)))) else looO L p j
theorem amtN_eq (hw : WF n L) (hn : n ≤ 6) {l : Nat} (hl : l < 2 * n) (c : L 6 l = 1) : amtN L l ≤ 999 ∧ L 8 l = nI (amtN L l) := by
  obtain ⟨m1, h', m2, m3, m4, ⟨x, hx1, hx, ex⟩, -⟩ := (hw.lace hl).pledged c
  unfold amtN idx
  rw [ex, nI_clamp (by omega)]
  exact ⟨hx, rfl⟩
theorem loo_le (hw : WF n L) (hn : n ≤ 6) {p : Nat} (hp : p < n) : ∀ j, j ≤ 2 → ∀ x, looO L p j = some x → x ≤ 999
  | 0, _, x, h => by cases h
  | j + 1, hj, x, h => by
    have ih := loo_le hw hn hp j (by omega)
    by_cases c : L 6 (2 * p + j) = 1
    · have ha := (amtN_eq hw hn (show 2 * p + j < 2 * n by omega) c).1
      unfold looO at h
      rw [if_pos c] at h
      cases e : looO L p j with
      | none => rw [e] at h; cases h; exact ha
      | some y => rw [e] at h; have := ih y e; cases h; omega
    · unfold looO at h
      rw [if_neg c] at h
      exact ih x h
theorem q_loose (h : St n f L T μ) (p1 : Int32) : AgQ μ (f_L_loose μ p1) (fun ν => f_X12_loose ν p1) := by
  have hn := h.n6
  by_cases b1 : outb p1 0 (nI n - 1) = true
  · refine ⟨1, 0, wrap1 (k := 2) (by decide) rfl ?_, fun ν hk => ?_⟩
    · unfold f_X11_loose
      refine Ok.s (X11_needPerson h.c p1) ?_
      rw [if_pos b1]
      exact elimL' (XR.no (by decide) KC.refl)
    · have m0 := h.m0 hk
      unfold f_X12_loose
      refine Ok.s (X12_noPerson m0.m p1) ?_
      rw [b1]
      exact Ok.s (X12_thrT 1) (Ok.t rfl (mrT (by decide)))
  · have b1' : outb p1 0 (nI n - 1) = false := by simpa using b1
    obtain ⟨p, hp, rfl⟩ := outb_ix (by omega) b1'
    refine ⟨0, comC (looO L p 2), wrap1 (k := 0) (by decide) rfl ?_, fun ν hk => ?_⟩
    · unfold f_X11_loose
      refine Ok.s (X11_needPerson h.c _) ?_
      rw [if_neg b1]
      refine elimR' ?_
      unfold f_X11_loose_l11
      rw [two_nI]
      refine Ok.loop (fun j z => z.1 = comC (looO L p j) ∧ z.2 = nI (2 * p + j)) (fun t => t = comC (looO L p 2)) 2 (by decide) ⟨rfl, rfl⟩ (fun j z hj hI => ?_) (fun t ht => XR.yes ht KC.refl)
      obtain ⟨v, c⟩ := z
      obtain ⟨e1, e2⟩ := hI
      dsimp only at e1 e2
      subst e1 e2
      show Ok (f_X11_loose_b11 μ (nI p) _ (nI (2 * p + j))) _
      unfold f_X11_loose_b11
      rw [two_nI, nI_1]
      by_cases hc : j = 2
      · subst hc
        exact Ok.t (nI_lt (by omega) (by omega)) (Ok.d rfl)
      · have hl : 2 * p + j < 2 * n := by omega
        refine Ok.e (nI_nlt (by omega) (by omega)) (Ok.s (X2_isPledged h.c hl) ?_)
        by_cases c : L 6 (2 * p + j) = 1
        · obtain ⟨a1, a2⟩ := amtN_eq h.w hn hl c
          refine Ok.t (decide_eq_true c) ?_
          have hnx : looO L p (j + 1) = (match looO L p j with | none => some (amtN L (2 * p + j)) | some x => some (min x (amtN L (2 * p + j)))) := if_pos c
          have hle := loo_le h.w hn hp j (by omega)
          unfold f_X11_loose_j49_11 f_X11_loose_j59_11
          cases e : looO L p j with
          | none =>
            rw [e] at hnx
            refine Ok.t rfl (Ok.s (h.c.rdL (k := 8) (by decide) hl) ?_)
            refine Ok.c (by omega) ⟨?_, by dsimp only; rw [nI_1]; rfl⟩
            dsimp only
            rw [hnx, a2]; rfl
          | some x =>
            rw [e] at hnx
            dsimp only at hnx
            have hx := hle x e
            refine Ok.e (nI_nm1 (show x < 2 ^ 31 by omega)) (Ok.s (h.c.rdL (k := 8) (by decide) hl) ?_)
            rw [a2]
            by_cases d : x ≤ amtN L (2 * p + j)
            · refine Ok.t (nI_le d (by omega)) ?_
              refine Ok.c (by omega) ⟨?_, by dsimp only; rw [nI_1]; rfl⟩
              dsimp only
              rw [hnx, Nat.min_eq_left d]
            · refine Ok.e (nI_ge (by omega) (by omega)) (Ok.s (h.c.rdL (k := 8) (by decide) hl) ?_)
              refine Ok.c (by omega) ⟨?_, by dsimp only; rw [nI_1]; rfl⟩
              dsimp only
              rw [hnx, a2, Nat.min_eq_right (by omega)]; rfl
        · refine Ok.e (by simp [c]) ?_
          have hnx : looO L p (j + 1) = looO L p j := if_neg c
          unfold f_X11_loose_j59_11
          refine Ok.c (by omega) ⟨?_, by dsimp only; rw [nI_1]; rfl⟩
          dsimp only
          rw [hnx]
    · have m0 := h.m0 hk
      unfold f_X12_loose
      refine Ok.s (X12_noPerson m0.m _) ?_
      rw [b1']
      refine Ok.s (X12_thrF 1) (Ok.e fnt ?_)
      unfold f_X12_loose_l28
      rw [two_nI]
      refine Ok.loop (fun j z => z.1 = comM (looO L p j) ∧ z.2 = nI (2 * p + j)) (fun t => t = comM (looO L p 2)) 2 (by decide) ⟨rfl, rfl⟩ (fun j z hj hI => ?_) (fun t ht => ?_)
      · obtain ⟨v, c⟩ := z
        obtain ⟨e1, e2⟩ := hI
        dsimp only at e1 e2
        subst e1 e2
        show Ok (f_X12_loose_b28 (mset ν 264 0 0) (nI p) _ (nI (2 * p + j))) _
        unfold f_X12_loose_b28
        rw [two_nI, nI_1]
        by_cases hc : j = 2
        · subst hc
          exact Ok.t (nI_lt (by omega) (by omega)) (Ok.d rfl)
        · have hl : 2 * p + j < 2 * n := by omega
          refine Ok.e (nI_nlt (by omega) (by omega)) (Ok.s (X12_isPledged m0.m hl) ?_)
          by_cases c : L 6 (2 * p + j) = 1
          · obtain ⟨a1, a2⟩ := amtN_eq h.w hn hl c
            refine Ok.t (decide_eq_true c) (Ok.s (X12_lace2 m0.m hl) (Ok.s J9_min ?_))
            have hnx : looO L p (j + 1) = (match looO L p j with | none => some (amtN L (2 * p + j)) | some x => some (min x (amtN L (2 * p + j)))) := if_pos c
            have hle := loo_le h.w hn hp j (by omega)
            unfold f_X12_loose_j59_28
            refine Ok.c (by omega) ⟨?_, by dsimp only; rw [nI_1]; rfl⟩
            dsimp only
            rw [a2]
            cases e : looO L p j with
            | none =>
              rw [e] at hnx
              rw [hnx]
              show mn (nI 1000000) _ = _
              rw [mn_nI (by decide) (by omega), Nat.min_eq_right (by omega)]
              rfl
            | some x =>
              rw [e] at hnx
              have hx := hle x e
              rw [hnx]
              show mn (nI x) _ = _
              rw [mn_nI (by omega) (by omega)]
              rfl
          · refine Ok.e (by simp [c]) ?_
            have hnx : looO L p (j + 1) = looO L p j := if_neg c
            unfold f_X12_loose_j59_28
            refine Ok.c (by omega) ⟨?_, by dsimp only; rw [nI_1]; rfl⟩
            dsimp only
            rw [hnx]
      · subst ht
        unfold f_X12_loose_j66
        refine mrV ?_
        have hle := loo_le h.w hn hp 2 (by decide)
        cases e : looO L p 2 with
        | none => rfl
        | some x => exact if_pos (nI_lt (b := 1000000) (by have := hle x e; omega) (by decide))
/-! the log -/
theorem floor_c : ∀ x, x < 60 → ∀ i, i < 60 → f_J9_floorMod_7cf53 (fun _ _ => 0) ((nI x - 1) - nI i) 60 = some (nI (crow x i)) := by decide +kernel
theorem X1_rowAt (h : CL n f μ 3 L) {i : Nat} (hi : i < 60) : ∃ x, x < 60 ∧ (μ 16 1).toNatClampNeg = x ∧ f_X1_rowAt μ 16 (nI i) = some (μ 17 (crow x i)) := by
  obtain ⟨h1, h2, h3, x, hx, ex⟩ := h
  have ex' : μ 16 1 = nI x := ex
  refine ⟨x, hx, by rw [ex', nI_clamp (by omega)], ?_⟩
  unfold f_X1_rowAt
  rw [ex']
  refine bs (a := nI (crow x i)) (floor_c x hx i hi) (bs ?_ rfl)
  exact rd_nI (by unfold crow; omega) (by decide)
theorem CL.log4 (h : CL n f μ 3 L) {i : Nat} (hi : i < zz L) : f_X1_dayAt μ 16 (nI i) = some (L 14 i) ∧ f_X1_laceAt μ 16 (nI i) = some (L 15 i) ∧ f_X1_whatAt μ 16 (nI i) = some (L 16 i) ∧ f_X1_amountAt μ 16 (nI i) = some (L 17 i) := by
  have hz := h.sz.2.2.2
  obtain ⟨x, hx, ex, e⟩ := X1_rowAt h (show i < 60 by omega)
  have g : ∀ k, 14 ≤ k ∧ k ≤ 17 → cpart (k - 14) (μ 17 (crow x i)) = L k i := fun k hk => by
    have := h.atR hk hi
    rw [← ex]; exact this
  unfold f_X1_dayAt f_X1_laceAt f_X1_whatAt f_X1_amountAt
  exact ⟨bs e (congrArg some (g 14 (by decide))), bs e (congrArg some (g 15 (by decide))), bs e (congrArg some (g 16 (by decide))), bs e (congrArg some (g 17 (by decide)))⟩
def rowQ (L : Ld) (l i : Nat) : Bool := decide (L 15 i = nI l)
def lastA (L : Ld) (l : Nat) (r : Option Nat) : Int32 := match r with | some i => L 14 i | none => -1
theorem CL.siz16 (h : CL n f μ 3 L) : μ 16 2 = nI (zz L) := h.siz
theorem X1_rowsOf (h : CL n f μ 3 L) {l : Nat} : f_X1_rowsOf μ 16 (nI l) = some (nI (cntN (rowQ L l) (zz L))) := by
  have hz := h.sz.2.2.2
  unfold f_X1_rowsOf f_X1_rowsOf_l4
  refine bind_loop (fun i => (nI (cntN (rowQ L l) i), nI i)) (zz L) (nI (cntN (rowQ L l) (zz L))) rfl (fun i hi => ?_) ?_ (by omega) rfl
  · show f_X1_rowsOf_b4 μ 16 (nI l) (nI (cntN (rowQ L l) i)) (nI i) = _
    unfold f_X1_rowsOf_b4
    rw [h.siz16]
    refine ie (nI_ge hi (by omega)) (bs (h.log4 hi).2.1 ?_)
    by_cases c : L 15 i = nI l
    · rw [if_pos c, cnt_t (decide_eq_true c), nI_1, nI_1]
    · rw [if_neg c, cnt_f (by unfold rowQ; simp [c]), nI_1]
  · show f_X1_rowsOf_b4 μ 16 (nI l) _ (nI (zz L)) = _
    unfold f_X1_rowsOf_b4
    rw [h.siz16]
    exact it (nI_le (Nat.le_refl _) (by omega)) rfl
theorem X1_latest (h : CL n f μ 3 L) {l : Nat} : f_X1_latestDayOf μ 16 (nI l) = some (lastA L l (firstN (rowQ L l) (zz L) 0)) := by
  have hz := h.sz.2.2.2
  unfold f_X1_latestDayOf f_X1_latestDayOf_l2
  have key : Ok (Option.bind (loopN 10000 (fun z : Int32 => f_X1_latestDayOf_b2 μ 16 (nI l) z) 0) fun t : (Unit ⊕ Int32) => Sum.elim (fun e => f_X1_latestDayOf_j31 μ 16) (fun x => some x) t) (fun b => b = lastA L l (firstN (rowQ L l) (zz L) 0)) := by
    refine Ok.loop (fun j z => z = nI j ∧ firstN (rowQ L l) (zz L) 0 = firstN (rowQ L l) (zz L - j) j) (fun t => match t with | .inl _ => firstN (rowQ L l) (zz L) 0 = none | .inr v => v = lastA L l (firstN (rowQ L l) (zz L) 0)) (zz L) (by omega) ⟨rfl, rfl⟩ (fun j z hj hI => ?_) (fun t ht => ?_)
    · obtain ⟨rfl, hr⟩ := hI
      show Ok (f_X1_latestDayOf_b2 μ 16 (nI l) (nI j)) _
      unfold f_X1_latestDayOf_b2
      rw [h.siz16]
      by_cases hc : j = zz L
      · refine Ok.t (by rw [hc]; exact nI_le (Nat.le_refl _) (by omega)) (Ok.d ?_)
        rw [show zz L - j = 0 by omega] at hr
        exact hr
      · have hj2 : j < zz L := by omega
        refine Ok.e (nI_ge hj2 (by omega)) (Ok.s (h.log4 hj2).2.1 ?_)
        rw [show zz L - j = (zz L - (j + 1)) + 1 by omega] at hr
        by_cases c : L 15 j = nI l
        · rw [first_t (decide_eq_true c)] at hr
          refine Ok.t c (Ok.s (h.log4 hj2).1 (Ok.d ?_))
          show _ = lastA L l _
          rw [hr]; rfl
        · rw [first_f (by unfold rowQ; simp [c])] at hr
          exact Ok.e c (Ok.c hj2 ⟨nI_1 _, hr⟩)
    · cases t with
      | inl u => exact Ok.r (by rw [ht]; rfl)
      | inr v => exact Ok.r ht
  obtain ⟨b, e1, e2⟩ := key
  rw [e2] at e1
  exact e1
theorem mi_log {i k : Nat} : (130 + 4 * nI i) + nI k = nI (130 + 4 * i + k) := by
  rw [show (130 : Int32) = nI 130 from rfl, show (4 : Int32) = nI 4 from rfl, pk_mul, nI_add, nI_add]
theorem X12_ofLog (h : ML n f (μ 265) L) {i k : Nat} (hi : i < zz L) (hk : k < 4) : f_X12_ofLog μ (nI i) (nI k) = some (L (14 + k) i) := by
  have hz := h.sz.2.2.2
  unfold f_X12_ofLog
  rw [mi_log, rd_nI (by omega) (by decide), sb9]
  have := h.atR (k := 14 + k) (i := i) (by omega) hi
  rw [show 14 + k - 14 = k by omega] at this
  rw [this]
def cntD (P : Nat → Bool) (z : Nat) : Nat → Nat
  | 0 => 0
  | j + 1 => cntD P z j + (if P (z - (j + 1)) = true then 1 else 0)
theorem cntD_eq {P : Nat → Bool} {z : Nat} : ∀ j, j ≤ z → cntN P (z - j) + cntD P z j = cntN P z
  | 0, _ => rfl
  | j + 1, h => by
    have ih := cntD_eq (P := P) (z := z) j (by omega)
    rw [show z - j = (z - (j + 1)) + 1 by omega] at ih
    have e : cntN P ((z - (j + 1)) + 1) = cntN P (z - (j + 1)) + (if P (z - (j + 1)) = true then 1 else 0) := rfl
    have e2 : cntD P z (j + 1) = cntD P z j + (if P (z - (j + 1)) = true then 1 else 0) := rfl
    rw [e] at ih
    rw [e2]
    omega
theorem q_led (h : St n f L T μ) (p1 : Int32) (p2 : Bool) : AgQ μ (f_L_led μ p1 p2) (fun ν => f_X12_led ν p1 p2) := by
  have hn := h.n6
  have hz := h.c.sz.2.2.2
  by_cases b1 : outb p1 0 (nI (2 * n) - 1) = true
  · refine ⟨1, 0, wrap1 (k := 2) (by decide) rfl ?_, fun ν hk => ?_⟩
    · unfold f_X11_led
      refine Ok.s (X11_needLace h.c p1) ?_
      rw [if_pos b1]
      exact elimL' (XR.no (by decide) KC.refl)
    · have m0 := h.m0 hk
      unfold f_X12_led
      refine Ok.s (X12_noLace m0.m p1) ?_
      rw [b1]
      exact Ok.s (X12_thrT 1) (Ok.t rfl (mrT (by decide)))
  · have b1' : outb p1 0 (nI (2 * n) - 1) = false := by simpa using b1
    obtain ⟨l, hl, rfl⟩ := outb_ix (by omega) b1'
    refine ⟨0, if p2 = true then lastA L l (firstN (rowQ L l) (zz L) 0) else nI (cntN (rowQ L l) (zz L)), wrap1 (k := 0) (by decide) rfl ?_, fun ν hk => ?_⟩
    · unfold f_X11_led
      refine Ok.s (X11_needLace h.c _) ?_
      rw [if_neg b1]
      refine elimR' ?_
      cases p2 with
      | true => exact Ok.t rfl (Ok.s (X1_latest h.c) (XR.yes rfl KC.refl))
      | false => exact Ok.e fnt (Ok.s (X1_rowsOf h.c) (XR.yes rfl KC.refl))
    · have m0 := h.m0 hk
      unfold f_X12_led
      refine Ok.s (X12_noLace m0.m _) ?_
      rw [b1']
      refine Ok.s (X12_thrF 1) (Ok.e fnt ?_)
      refine Ok.s (a := nI (zz L)) (by rw [rd_k (k := 6) 6 rfl (by decide) (by decide)]; exact congrArg some m0.m.siz) ?_
      unfold f_X12_led_l36
      refine Ok.loop (fun j z => z.1 = nI (cntD (rowQ L l) (zz L) j) ∧ z.2.1 = lastA L l (firstN (rowQ L l) j (zz L - j)) ∧ z.2.2 = (if j = zz L then -1 else nI (zz L - 1 - j))) (fun t => t.1 = nI (cntN (rowQ L l) (zz L)) ∧ t.2 = lastA L l (firstN (rowQ L l) (zz L) 0)) (zz L) (by omega) ⟨rfl, rfl, ?_⟩ (fun j z hj hI => ?_) (fun t ht => ?_)
      · dsimp only
        by_cases e : 0 = zz L
        · rw [if_pos e, ← e]; decide
        · rw [if_neg e, show (1 : Int32) = nI 1 from rfl, pk_sub (by omega)]; rfl
      · obtain ⟨c, d, x⟩ := z
        obtain ⟨e1, e2, e3⟩ := hI
        dsimp only at e1 e2 e3
        subst e1 e2 e3
        show Ok (f_X12_led_b36 (mset ν 264 0 0) (nI l) p2 _ _ (if j = zz L then -1 else nI (zz L - 1 - j))) _
        unfold f_X12_led_b36
        by_cases hc : j = zz L
        · rw [if_pos hc]
          refine Ok.t (by decide) (Ok.d ⟨?_, ?_⟩)
          · have := cntD_eq (P := rowQ L l) (z := zz L) (zz L) (Nat.le_refl _)
            rw [Nat.sub_self] at this
            dsimp only
            rw [hc, ← this]
            congr 1
            exact (Nat.zero_add _).symm
          · dsimp only
            rw [hc, Nat.sub_self]
        · rw [if_neg hc]
          have hi : zz L - 1 - j < zz L := by omega
          refine Ok.e (nI_pos (by omega)) ?_
          refine Ok.s (X12_ofLog m0.m hi (k := 1) (by decide)) ?_
          have hx : nI (zz L - 1 - j) + (-1) = (if j + 1 = zz L then -1 else nI (zz L - 1 - (j + 1))) := by
            by_cases e : j + 1 = zz L
            · rw [if_pos e, show zz L - 1 - j = 0 by omega]; decide
            · rw [if_neg e, show zz L - 1 - j = (zz L - 1 - (j + 1)) + 1 by omega, pk_m1]
          have ei : zz L - (j + 1) = zz L - 1 - j := by omega
          have ef : zz L - j = (zz L - (j + 1)) + 1 := by omega
          by_cases c : L 15 (zz L - 1 - j) = nI l
          · refine Ok.t c ?_
            refine Ok.s (X12_ofLog m0.m hi (k := 0) (by decide)) ?_
            unfold f_X12_led_j67_36
            refine Ok.c (by omega) ⟨?_, ?_, hx⟩
            · show _ = nI (cntD _ _ j + _)
              rw [ei, if_pos (show rowQ L l (zz L - 1 - j) = true from decide_eq_true c), nI_1]
            · dsimp only
              rw [first_t (by rw [ei]; exact decide_eq_true c), ei]; rfl
          · refine Ok.e c ?_
            unfold f_X12_led_j67_36
            refine Ok.c (by omega) ⟨?_, ?_, hx⟩
            · show _ = nI (cntD _ _ j + _)
              rw [ei, if_neg (show ¬ rowQ L l (zz L - 1 - j) = true by unfold rowQ; simp [c])]; rfl
            · dsimp only
              rw [first_f (by rw [ei]; unfold rowQ; simp [c]), ← ef]
      · obtain ⟨c, d⟩ := t
        obtain ⟨rfl, rfl⟩ := ht
        show Ok (f_X12_led_j73 _ p2 _ _) _
        unfold f_X12_led_j73
        exact mrV rfl
theorem q_log (h : St n f L T μ) (p1 p2 : Int32) : AgQ μ (f_L_log μ p1 p2) (fun ν => f_X12_log ν p1 p2) := by
  have hn := h.n6
  have hz := h.c.sz.2.2.2
  by_cases b2 : outb p2 0 3 = true
  · refine ⟨1, 0, wrap1 (k := 4) (by decide) rfl ?_, fun ν hk => ?_⟩
    · unfold f_X11_log
      refine Ok.s X11_out ?_
      exact Ok.t b2 (XR.no (by decide) KC.refl)
    · unfold f_X12_log
      refine Ok.s X12_in ?_
      rw [nb, b2]
      exact Ok.s (X12_thrT 1) (Ok.t rfl (mrT (by decide)))
  · have b2' : outb p2 0 3 = false := by simpa using b2
    obtain ⟨k, hk3, rfl⟩ := outb_rng (b := 3) rfl (by decide) b2'
    by_cases b1 : outb p1 0 (nI (zz L) - 1) = true
    · refine ⟨0, -1, wrap1 (k := 0) (by decide) rfl ?_, fun ν hk => ?_⟩
      · unfold f_X11_log
        refine Ok.s X11_out (Ok.e b2 ?_)
        rw [h.c.siz16]
        by_cases c : p1 < 0
        · exact Ok.t c (XR.yes rfl KC.refl)
        · refine Ok.e c ?_
          have c2 : ¬ p1 < nI (zz L) := fun q => by
            obtain ⟨j, hj, rfl⟩ := nI_of c
            have hjz := (nI_ltI hj (by omega)).mp q
            have : outb (nI j) 0 (nI (zz L) - 1) = false := by
              unfold outb
              rw [if_neg c, show (1 : Int32) = nI 1 from rfl, pk_sub (by omega), if_pos (nI_le (by omega) (by omega))]
            rw [this] at b1
            cases b1
          exact Ok.e c2 (XR.yes rfl KC.refl)
      · have m0 := h.m0 hk
        unfold f_X12_log
        refine Ok.s X12_in ?_
        rw [nb, b2']
        refine Ok.s (X12_thrF 1) (Ok.e fnt ?_)
        refine Ok.s (a := nI (zz L)) (by rw [rd_k (k := 6) 6 rfl (by decide) (by decide)]; exact congrArg some m0.m.siz) ?_
        refine Ok.s X12_in ?_
        rw [b1]
        exact Ok.e fnt (mrV rfl)
    · have b1' : outb p1 0 (nI (zz L) - 1) = false := by simpa using b1
      obtain ⟨i, hi, rfl⟩ := outb_ix (by omega) b1'
      refine ⟨0, L (14 + k) i, wrap1 (k := 0) (by decide) rfl ?_, fun ν hk => ?_⟩
      · unfold f_X11_log
        refine Ok.s X11_out (Ok.e b2 ?_)
        rw [h.c.siz16]
        refine Ok.e (nI_pos (by omega)) (Ok.t (nI_lt hi (by omega)) ?_)
        obtain ⟨g1, g2, g3, g4⟩ := h.c.log4 hi
        rcases (show k = 0 ∨ k = 1 ∨ k = 2 ∨ k = 3 by omega) with rfl | rfl | rfl | rfl
        · exact Ok.t rfl (Ok.s g1 (XR.yes rfl KC.refl))
        · exact Ok.e (by decide) (Ok.t rfl (Ok.s g2 (XR.yes rfl KC.refl)))
        · exact Ok.e (by decide) (Ok.e (by decide) (Ok.t rfl (Ok.s g3 (XR.yes rfl KC.refl))))
        · exact Ok.e (by decide) (Ok.e (by decide) (Ok.e (by decide) (Ok.s g4 (XR.yes rfl KC.refl))))
      · have m0 := h.m0 hk
        unfold f_X12_log
        refine Ok.s X12_in ?_
        rw [nb, b2']
        refine Ok.s (X12_thrF 1) (Ok.e fnt ?_)
        refine Ok.s (a := nI (zz L)) (by rw [rd_k (k := 6) 6 rfl (by decide) (by decide)]; exact congrArg some m0.m.siz) ?_
        refine Ok.s X12_in ?_
        rw [b1']
        refine Ok.t rfl (Ok.s (X12_ofLog m0.m hi (by omega)) ?_)
        exact mrV rfl
end Lg
