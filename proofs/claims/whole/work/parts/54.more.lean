/-! SPAN, RACE, PAIRS, LENDS, LOOSE -/
section Mo
variable {n : Nat} {f : Int32} {μ : Mem} {L : Ld} {T : Tx} {a : Nat}
theorem cnt_one {dr : Bool} {p : Nat} {s : Ld × Int32} : (oneA dr T n p s).2 = s.2 ∨ (oneA dr T n p s).2 = s.2 + 1 := by
  unfold oneA
  split
  · exact Or.inl rfl
  · split
    · split
      · exact Or.inl rfl
      · exact Or.inr rfl
    · exact Or.inl rfl
theorem cnt_ones {dr : Bool} {L : Ld} : ∀ j, ∃ x, x ≤ j ∧ (iter (oneA dr T n) j (L, 0)).2 = nI x
  | 0 => ⟨0, Nat.le_refl _, rfl⟩
  | j + 1 => by
    obtain ⟨x, hx, e⟩ := cnt_ones (dr := dr) (L := L) j
    rcases cnt_one (T := T) (n := n) (dr := dr) (p := j) (s := iter (oneA dr T n) j (L, 0)) with h | h
    · exact ⟨x, by omega, h.trans e⟩
    · exact ⟨x + 1, by omega, by rw [iter_s, h, e, nI_1]⟩
theorem cnt_days {dr : Bool} (hn : n ≤ 6) : ∀ k, ∃ x, x ≤ 6 * k ∧ (daysA dr T n L k).2 = nI x
  | 0 => ⟨0, Nat.le_refl _, rfl⟩
  | k + 1 => by
    obtain ⟨x, hx, e⟩ := cnt_days (dr := dr) hn k
    obtain ⟨y, hy, e2⟩ := cnt_ones (T := T) (n := n) (dr := dr) (L := (daysA dr T n L k).1) n
    refine ⟨x + y, by omega, ?_⟩
    show (daysA dr T n L k).2 + (walkersA dr T n (daysA dr T n L k).1).2 = _
    unfold walkersA
    rw [e, e2, nI_add]
def spX (T : Tx) (n : Nat) (L : Ld) (k i : Nat) : Nat := idx (daysA true T n (upd2 L 0 4 (nI i)) k).2
theorem spX_eq (hn : n ≤ 6) {k i : Nat} (hk : k ≤ 60) : spX T n L k i ≤ 360 ∧ (daysA true T n (upd2 L 0 4 (nI i)) k).2 = nI (spX T n L k i) := by
  obtain ⟨x, hx, e⟩ := cnt_days (T := T) (L := upd2 L 0 4 (nI i)) (dr := true) hn k
  unfold spX idx
  rw [e, nI_clamp (by omega)]
  exact ⟨by omega, rfl⟩
def spLo (T : Tx) (n : Nat) (L : Ld) (k : Nat) : Nat → Nat
  | 0 => 360
  | j + 1 => min (spLo T n L k j) (spX T n L k (j + 1))
def spHi (T : Tx) (n : Nat) (L : Ld) (k : Nat) : Nat → Nat
  | 0 => 0
  | j + 1 => max (spHi T n L k j) (spX T n L k (j + 1))
theorem spLo_le {k : Nat} : ∀ j, spLo T n L k j ≤ 360
  | 0 => Nat.le_refl _
  | j + 1 => Nat.le_trans (Nat.min_le_left _ _) (spLo_le (k := k) j)
theorem spHi_le (hn : n ≤ 6) {k : Nat} (hk : k ≤ 60) : ∀ j, spHi T n L k j ≤ 360
  | 0 => Nat.zero_le _
  | j + 1 => Nat.max_le.mpr ⟨spHi_le (k := k) hn hk j, (spX_eq hn hk).1⟩
theorem mx_nI {a b : Nat} (ha : a < 2 ^ 31) (hb : b < 2 ^ 31) : mx (nI a) (nI b) = nI (max a b) := by
  unfold mx
  rcases Nat.lt_or_ge a b with h | h
  · rw [if_pos (nI_lt h hb), Nat.max_eq_right (by omega)]
  · rw [if_neg (nI_nlt h ha), Nat.max_eq_left h]
theorem q_span (h : St n f L T μ) (p1 : Int32) (p2 : Bool) : AgQ μ (f_L_span μ p1 p2) (fun ν => f_X12_span ν p1 p2) := by
  have hn := h.n6
  by_cases b2 : outb p1 0 60 = true
  · refine ⟨1, 0, wrap1 (k := 1) (by decide) rfl ?_, fun ν hk => ?_⟩
    · unfold f_X11_span
      refine Ok.s (X11_needAhead p1) ?_
      rw [if_pos b2]
      exact elimL' (XR.no (by decide) KC.refl)
    · unfold f_X12_span
      refine Ok.s X12_in ?_
      rw [nb, b2]
      exact Ok.s (X12_thrT 1) (Ok.t rfl (mrT (by decide)))
  · have b2' : outb p1 0 60 = false := by simpa using b2
    obtain ⟨k, hk60, rfl⟩ := outb_rng (b := 60) rfl (by decide) b2'
    refine ⟨0, if p2 = true then nI (spHi T n L k 6) else nI (spLo T n L k 6), wrap1 (k := 0) (by decide) rfl ?_, fun ν hk => ?_⟩
    · unfold f_X11_span
      refine Ok.s (X11_needAhead _) ?_
      rw [if_neg b2]
      refine elimR' ?_
      unfold f_X11_span_l15
      refine Ok.loop (fun j z => z.1 = nI (spLo T n L k j) ∧ z.2.1 = nI (spHi T n L k j) ∧ z.2.2.1 = nI (j + 1) ∧ KC μ z.2.2.2) (fun t => t.1 = nI (spLo T n L k 6) ∧ t.2.1 = nI (spHi T n L k 6) ∧ KC μ t.2.2) 6 (by decide) ⟨rfl, rfl, rfl, KC.refl⟩ (fun j z hj hI => ?_) (fun t ht => ?_)
      · obtain ⟨lo, hi, c, ν⟩ := z
        obtain ⟨e1, e2, e3, hK⟩ := hI
        dsimp only at e1 e2 e3 hK
        subst e1 e2 e3
        show Ok (f_X11_span_b15 ν (nI k) p2 _ _ (nI (j + 1))) _
        unfold f_X11_span_b15
        by_cases hc : j = 6
        · subst hc
          exact Ok.t (by decide) (Ok.d ⟨rfl, rfl, hK⟩)
        · refine Ok.e (nI_nlt (a := 6) (by omega) (by decide)) ?_
          have h2 := h.kc hK
          refine (X2_copyFrom h2.c dis18).b fun ν2 hv => ?_
          have hC : CL n f (mset ν2 18 4 (nI (j + 1))) 18 (upd2 L 0 4 (nI (j + 1))) := hv.1.set (k := 0) (by decide) (by omega)
          have hK2 : KC μ (mset ν2 18 4 (nI (j + 1))) := (hK.trans (hv.2.mono fun k hk => kcA hk)).put (by unfold scC; omega)
          refine (X2_liveOn hC h.w.seed (by decide) (h.kc hK2).lc h.wt true hk60).b fun r hr => ?_
          obtain ⟨v, ν3⟩ := r
          obtain ⟨rfl, -, hF⟩ := hr
          dsimp only at hF ⊢
          obtain ⟨q1, q2⟩ := spX_eq (T := T) (L := L) (i := j + 1) hn hk60
          refine Ok.s J9_min (Ok.s J9_max ?_)
          refine Ok.c (by omega) ⟨?_, ?_, nI_1 _, hK2.trans (hF.mono fun k hk => kcD hk)⟩
          · dsimp only
            rw [q2]
            exact mn_nI (by have := spLo_le (T := T) (n := n) (L := L) (k := k) j; omega) (by omega)
          · dsimp only
            rw [q2]
            exact mx_nI (by have := spHi_le (T := T) (L := L) hn hk60 j; omega) (by omega)
      · obtain ⟨lo, hi, ν⟩ := t
        obtain ⟨rfl, rfl, hK⟩ := ht
        exact XR.yes rfl hK
    · have m0 := h.m0 hk
      unfold f_X12_span
      refine Ok.s X12_in ?_
      rw [nb, b2']
      refine Ok.s (X12_thrF 1) (Ok.e fnt ?_)
      refine X12_keepsAll.b fun ν1 h1 => ?_
      unfold f_X12_span_l39
      refine Ok.loop (fun j z => z.1 = (if j = 0 then -1 else (if p2 = true then nI (spHi T n L k j) else nI (spLo T n L k j))) ∧ z.2.1 = nI (j + 1) ∧ z.2.2 265 = mset ν 264 0 0 265 ∧ (∀ q, q < 370 → z.2.2 268 q = mset ν 264 0 0 265 q) ∧ Fr sK (mset ν 264 0 0) z.2.2) (fun t => t.1 = (if p2 = true then nI (spHi T n L k 6) else nI (spLo T n L k 6)) ∧ Fr sK (mset ν 264 0 0) t.2) 6 (by decide) ⟨rfl, rfl, h1.1 265 (by decide), h1.2, h1.1.mono fun k hk => Or.inl hk⟩ (fun j z hj hI => ?_) (fun t ht => kcmK ht.1 ht.2)
      obtain ⟨v, c, ν2⟩ := z
      obtain ⟨e1, e2, e65, e68, hK⟩ := hI
      dsimp only at e1 e2 e65 e68 hK
      subst e1 e2
      show Ok (f_X12_span_b39 ν2 (nI k) p2 _ (nI (j + 1))) _
      unfold f_X12_span_b39
      by_cases hc : j = 6
      · subst hc
        exact Ok.t (by decide) (Ok.d ⟨rfl, hK⟩)
      · refine Ok.e (nI_nlt (a := 6) (by omega) (by decide)) ?_
        refine Ok.s (wr_k 7 rfl (by decide) (by decide)) ?_
        have hM : ML n f (ν2 265) L := by rw [e65]; exact m0.m
        have hM0 : ML n f (mset ν2 265 7 (nI (j + 1)) 265) (upd2 L 0 4 (nI (j + 1))) := hM.put (k := 0) (dm0 (by decide)) (by decide) (by decide) rfl
        have hS0 : Ms s72 ν2 (mset ν2 265 7 (nI (j + 1))) := Ms.set (S := s72) (Or.inl rfl) (by decide) (by decide)
        have hT1 : LM (ν2 265) T := by rw [e65]; exact m0.lm
        unfold f_X12_span_l58
        refine days_loop (st := false) (dr := true) rfl hk60 hM0 m0.w.seed (hT1.ms hS0) m0.wt (fun i ν hi => ?_) (fun ν => ?_) (fun ν3 hM3 h2 => ?_) rfl
        · show f_X12_span_b58 ν (nI k) p2 _ _ (nI i) = _
          unfold f_X12_span_b58
          refine ie (nI_ge hi (by omega)) ?_
          rw [nI_1]
        · exact it (nI_le (Nat.le_refl _) (by omega)) rfl
        · have hS : Ms s72 ν2 ν3 := hS0.trans h2
          obtain ⟨q1, q2⟩ := spX_eq (T := T) (L := L) (i := j + 1) hn hk60
          unfold f_X12_span_j75_39
          refine Ok.s (a := f + nI (spX T n L k (j + 1))) (by rw [rd_k (k := 5) 5 rfl (by decide) (by decide), ← q2]; exact congrArg some hM3.2.2) ?_
          refine Ok.s (a := f) (by rw [rd_k (k := 5) 5 rfl (by decide) (by decide), hS.1 268 (by unfold s72; decide), e68 5 (by decide)]; exact congrArg some m0.m.2.2) ?_
          refine X12_bringsBack.b fun ν4 h3 => ?_
          rw [add_sub]
          have e68' : Fr (fun k => k = 268) ν2 ν2 ∧ ∀ q, q < 370 → ν2 268 q = ν2 265 q := ⟨Fr.refl, fun q hq => by rw [e68 q hq, e65]⟩
          have e4 : ν4 265 = mset ν 264 0 0 265 := (back_eq e68' hS (by unfold s72; decide) h3).trans e65
          have f4 : Fr sK (mset ν 264 0 0) ν4 := hK.trans (kept e68' hS (fun k hk => hk) h3)
          have g4 : ∀ q, q < 370 → ν4 268 q = mset ν 264 0 0 265 q := fun q hq => by
            rw [h3.1 268 (by decide), hS.1 268 (by unfold s72; decide)]
            exact e68 q hq
          have hlo := spLo_le (T := T) (n := n) (L := L) (k := k) j
          have hhi := spHi_le (T := T) (L := L) hn hk60 j
          by_cases j0 : j = 0
          · subst j0
            refine Ok.e (show ¬ (0 : Int32) ≤ -1 by decide) ?_
            unfold f_X12_span_j122_39
            refine Ok.c (by decide) ⟨?_, rfl, e4, g4, f4⟩
            show nI (spX T n L k 1) = if 1 = 0 then -1 else _
            rw [if_neg (by decide)]
            cases p2 with
            | true =>
              rw [if_pos rfl]
              exact congrArg nI (show spX T n L k 1 = max 0 (spX T n L k 1) by omega)
            | false =>
              rw [if_neg fnt]
              have q1' : spX T n L k 1 ≤ 360 := q1
              exact congrArg nI (show spX T n L k 1 = min 360 (spX T n L k 1) by omega)
          · rw [if_neg j0]
            cases p2 with
            | true =>
              rw [if_pos rfl]
              refine Ok.t (nI_pos' (by omega)) (Ok.t rfl (Ok.s J9_max ?_))
              unfold f_X12_span_j122_39
              refine Ok.c (by omega) ⟨?_, nI_1 _, e4, g4, f4⟩
              show mx _ _ = if j + 1 = 0 then -1 else _
              rw [if_neg (by omega), if_pos rfl, mx_nI (by omega) (by omega)]
              rfl
            | false =>
              rw [if_neg fnt]
              refine Ok.t (nI_pos' (by omega)) (Ok.e fnt (Ok.s J9_min ?_))
              unfold f_X12_span_j122_39
              refine Ok.c (by omega) ⟨?_, nI_1 _, e4, g4, f4⟩
              show mn _ _ = if j + 1 = 0 then -1 else _
              rw [if_neg (by omega), if_neg fnt, mn_nI (by omega) (by omega)]
              rfl
/-! race -/
def sameS (T : Tx) (n : Nat) (L : Ld) (w : Int32) : Int32 := obits (fun p => decide (walkA T n L p = w)) n
theorem X12_asFastAs (h : ML n f (μ 265) L) (hw : WF n L) (hT : LM (μ 265) T) (hW : WT T) (w : Int32) : Ok (f_X12_asFastAs μ w) (fun q => q.1 = sameS T n L w ∧ Fr (fun k => k = 272) μ q.2) := by
  have hn := h.n6
  unfold f_X12_asFastAs f_X12_asFastAs_l4
  refine Ok.loop (fun j z => z.1 = obits (fun p => decide (walkA T n L p = w)) j ∧ z.2.1 = nI j ∧ Fr (fun k => k = 272) μ z.2.2) (fun t => t.1 = sameS T n L w ∧ Fr (fun k => k = 272) μ t.2) n (by omega) ⟨rfl, rfl, Fr.refl⟩ (fun j z hj hI => ?_) (fun t ht => Ok.r ht)
  obtain ⟨v, c, ν⟩ := z
  obtain ⟨e1, e2, hF⟩ := hI
  dsimp only at e1 e2 hF
  subst e1 e2
  show Ok (f_X12_asFastAs_b4 ν w _ (nI j)) _
  unfold f_X12_asFastAs_b4
  have f65 : ν 265 = μ 265 := hF 265 (by decide)
  refine Ok.s (X12_people (by rw [f65]; exact h)) ?_
  by_cases hc : j = n
  · subst hc
    exact Ok.t (nI_le (Nat.le_refl _) (by omega)) (Ok.d ⟨rfl, hF⟩)
  · have hj2 : j < n := by omega
    refine Ok.e (nI_ge hj2 (by omega)) ?_
    refine (X12_walksBy (by rw [f65]; exact h) hw (by rw [f65]; exact hT) hW hj2).b fun q hq => ?_
    obtain ⟨v, ν2⟩ := q
    obtain ⟨rfl, hF2⟩ := hq
    dsimp only at hF2 ⊢
    exact Ok.c hj2 ⟨obits_or rfl, nI_1 _, hF.trans hF2⟩
theorem bt_not {x : Int32} {i : Nat} (hi : i < 32) : bt (x ^^^ (-1)) i = !bt x i := by rw [b_xor, b_m1 i hi]; cases bt x i <;> rfl
theorem q_race (h : St n f L T μ) (p1 : Int32) : AgQ μ (f_L_race μ p1) (fun ν => f_X12_race ν p1) := by
  have hn := h.n6
  by_cases b1 : outb p1 0 (nI n - 1) = true
  · refine ⟨1, 0, wrap1 (k := 2) (by decide) rfl ?_, fun ν hk => ?_⟩
    · unfold f_X11_race
      refine Ok.s (X11_needPerson h.c p1) ?_
      rw [if_pos b1]
      exact elimL' (XR.no (by decide) KC.refl)
    · have m0 := h.m0 hk
      unfold f_X12_race
      refine Ok.s (X12_noPerson m0.m p1) ?_
      rw [b1]
      exact Ok.s (X12_thrT 1) (Ok.t rfl (mrT (by decide)))
  · have b1' : outb p1 0 (nI n - 1) = false := by simpa using b1
    obtain ⟨p, hp, rfl⟩ := outb_ix (by omega) b1'
    refine ⟨0, obits (fun j => !decide (j = p) && decide (walkA T n L j = walkA T n L p)) n, wrap1 (k := 0) (by decide) rfl ?_, fun ν hk => ?_⟩
    · unfold f_X11_race
      refine Ok.s (X11_needPerson h.c _) ?_
      rw [if_neg b1]
      refine elimR' ?_
      refine (X2_walkOf h.c h.w (by decide) h.lc h.wt hp).b fun q hq => ?_
      obtain ⟨v, ν⟩ := q
      obtain ⟨rfl, hF⟩ := hq
      dsimp only at hF ⊢
      unfold f_X11_race_l23
      refine Ok.loop (fun j z => z.1 = obits (fun j => !decide (j = p) && decide (walkA T n L j = walkA T n L p)) j ∧ z.2.1 = nI j ∧ KC μ z.2.2) (fun t => t.1 = obits (fun j => !decide (j = p) && decide (walkA T n L j = walkA T n L p)) n ∧ KC μ t.2) n (by omega) ⟨rfl, rfl, kc5 hF⟩ (fun j z hj hI => ?_) (fun t ht => XR.yes ht.1 ht.2)
      obtain ⟨v, c, ν2⟩ := z
      obtain ⟨e1, e2, hK⟩ := hI
      dsimp only at e1 e2 hK
      subst e1 e2
      show Ok (f_X11_race_b23 ν2 (nI p) _ _ (nI j)) _
      unfold f_X11_race_b23
      have h2 := h.kc hK
      by_cases hc : j = n
      · subst hc
        exact Ok.t h2.c.ge1 (Ok.d ⟨rfl, hK⟩)
      · have hj2 : j < n := by omega
        refine Ok.e (h2.c.lt1 hj2) ?_
        by_cases e : j = p
        · refine Ok.t (by rw [e]) ?_
          unfold f_X11_race_j65_23
          refine Ok.c hj2 ⟨?_, nI_1 _, hK⟩
          exact obits_0 (P := fun j => !decide (j = p) && decide (walkA T n L j = walkA T n L p)) (i := j) (by simp [e])
        · refine Ok.e (fun q => e ((nI_eq (by omega) (by omega)).mp q)) ?_
          refine (X2_walkOf h2.c h2.w (by decide) h2.lc h2.wt hj2).b fun q hq => ?_
          obtain ⟨v, ν3⟩ := q
          obtain ⟨rfl, hF3⟩ := hq
          dsimp only at hF3 ⊢
          exact Ok.c hj2 ⟨obits_if (by simp [e]), nI_1 _, hK.trans (kc5 hF3)⟩
    · have m0 := h.m0 hk
      unfold f_X12_race
      refine Ok.s (X12_noPerson m0.m _) ?_
      rw [b1']
      refine Ok.s (X12_thrF 1) (Ok.e fnt ?_)
      refine (X12_walksBy m0.m m0.w m0.lm m0.wt hp).b fun q hq => ?_
      obtain ⟨v, ν2⟩ := q
      obtain ⟨rfl, hF⟩ := hq
      dsimp only at hF ⊢
      have f65 : ν2 265 = mset ν 264 0 0 265 := hF 265 (by decide)
      refine (X12_asFastAs (by rw [f65]; exact m0.m) m0.w (by rw [f65]; exact m0.lm) m0.wt _).b fun q hq => ?_
      obtain ⟨v, ν3⟩ := q
      obtain ⟨rfl, hF3⟩ := hq
      dsimp only at hF3 ⊢
      refine mrS ?_ (hF.trans hF3) fun k hk => km72 hk
      unfold sameS
      apply b_ext
      intro i hi
      rw [b_and, ob_b hi (by omega), ob_b hi (by omega), bt_not hi, bt_pw (by omega) hi]
      cases decide (i < n) <;> cases decide (i = p) <;> cases decide (walkA T n L i = walkA T n L p) <;> rfl
end Mo
