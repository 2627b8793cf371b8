/-! WHO COMES, MERCY, SPAN -/
section Co
variable {n : Nat} {f : Int32} {μ : Mem} {L : Ld} {T : Tx} {a : Nat}
theorem come_lt {p q j : Nat} (h : comeO T n L p q = some j) : j < 61 := by have := first_lt h; omega
theorem comM_C {p q : Nat} : (if comM (comeO T n L p q) < 1000000 then (comM (comeO T n L p q) : Int32) else (-1)) = comC (comeO T n L p q) := by
  cases e : comeO T n L p q with
  | none => rfl
  | some j => exact if_pos (nI_lt (b := 1000000) (by have := come_lt e; omega) (by decide))
theorem kcmK {ν : Mem} {v w : Int32} (e : w = v) {ν' : Mem} (hF : Fr sK (mset ν 264 0 0) ν') : Ok (some (w, ν')) (MR ν 0 v (KM ν)) := mrS e hF fun k hk => kmK hk
theorem q_comes (h : St n f L T μ) (p1 p2 : Int32) : AgQ μ (f_L_comes μ p1 p2) (fun ν => f_X12_comes ν p1 p2) := by
  have hn := h.n6
  by_cases b1 : outb p1 0 (nI n - 1) = true
  · refine ⟨1, 0, wrap1 (k := 2) (by decide) rfl ?_, fun ν hk => ?_⟩
    · unfold f_X11_comes
      refine Ok.s (X11_needPerson h.c p1) ?_
      rw [if_pos b1]
      exact elimL' (XR.no (by decide) KC.refl)
    · have m0 := h.m0 hk
      unfold f_X12_comes
      refine Ok.s (X12_noPerson m0.m p1) ?_
      rw [b1]
      refine Ok.t rfl ?_
      unfold f_X12_comes_j21 f_X12_comes_j26
      exact Ok.s (X12_thrT 1) (Ok.t rfl (mrT (by decide)))
  · have b1' : outb p1 0 (nI n - 1) = false := by simpa using b1
    obtain ⟨p, hp, rfl⟩ := outb_ix (by omega) b1'
    by_cases b2 : outb p2 0 19 = true
    · refine ⟨1, 0, wrap1 (k := 2) (by decide) rfl ?_, fun ν hk => ?_⟩
      · unfold f_X11_comes
        refine Ok.s (X11_needPerson h.c _) ?_
        rw [if_neg b1]
        refine elimR' (Ok.s (X11_needPlace p2) ?_)
        rw [if_pos b2]
        exact elimL' (XR.no (by decide) KC.refl)
      · have m0 := h.m0 hk
        unfold f_X12_comes
        refine Ok.s (X12_noPerson m0.m _) ?_
        rw [b1']
        refine Ok.e fnt ?_
        refine Ok.s (X12_noPlace p2) ?_
        rw [b2]
        exact Ok.s (X12_thrT 1) (Ok.t rfl (mrT (by decide)))
    · have b2' : outb p2 0 19 = false := by simpa using b2
      obtain ⟨q, hq, rfl⟩ := outb_rng (b := 19) rfl (by decide) b2'
      refine ⟨0, comC (comeO T n L p q), wrap1 (k := 0) (by decide) rfl ?_, fun ν hk => ?_⟩
      · unfold f_X11_comes
        refine Ok.s (X11_needPerson h.c _) ?_
        rw [if_neg b1]
        refine elimR' (Ok.s (X11_needPlace _) ?_)
        rw [if_neg b2]
        refine elimR' ((X11_daysTo h hp hq).b fun r hr => ?_)
        exact XR.yes hr.1 hr.2
      · have m0 := h.m0 hk
        unfold f_X12_comes
        refine Ok.s (X12_noPerson m0.m _) ?_
        rw [b1']
        refine Ok.e fnt ?_
        refine Ok.s (X12_noPlace _) ?_
        rw [b2']
        refine Ok.s (X12_thrF 1) (Ok.e fnt ?_)
        refine (X12_comesTo m0.m m0.w m0.lm m0.wt hp hq).b fun r hr => ?_
        exact kcmK (by rw [hr.1, comM_C]) hr.2
def sooS (T : Tx) (n : Nat) (L : Ld) (q i : Nat) (s : Int32 × Nat) : Int32 × Nat := match comeO T n L i q with
  | some d => if s.2 ≤ d then s else (nI i, d)
  | none => s
def sooA (T : Tx) (n : Nat) (L : Ld) (q i : Nat) : Int32 × Nat := iter (sooS T n L q) i (-1, 61)
def mB (b : Nat) : Int32 := if b = 61 then 1000000 else nI b
theorem soo_le {q : Nat} : ∀ i, (sooA T n L q i).2 ≤ 61
  | 0 => Nat.le_refl _
  | i + 1 => by
    show (sooS T n L q i (sooA T n L q i)).2 ≤ 61
    have ih := soo_le (q := q) i
    unfold sooS
    cases e : comeO T n L i q with
    | none => exact ih
    | some d =>
      dsimp only
      split
      · exact ih
      · have := come_lt e
        show d ≤ 61
        omega
theorem q_soonest (h : St n f L T μ) (p1 : Int32) : AgQ μ (f_L_soonest μ p1) (fun ν => f_X12_soonest ν p1) := by
  have hn := h.n6
  by_cases b2 : outb p1 0 19 = true
  · refine ⟨1, 0, wrap1 (k := 2) (by decide) rfl ?_, fun ν hk => ?_⟩
    · unfold f_X11_soonest
      refine Ok.s (X11_needPlace p1) ?_
      rw [if_pos b2]
      exact elimL' (XR.no (by decide) KC.refl)
    · unfold f_X12_soonest
      refine Ok.s (X12_noPlace p1) ?_
      rw [b2]
      exact Ok.s (X12_thrT 1) (Ok.t rfl (mrT (by decide)))
  · have b2' : outb p1 0 19 = false := by simpa using b2
    obtain ⟨q, hq, rfl⟩ := outb_rng (b := 19) rfl (by decide) b2'
    refine ⟨0, (sooA T n L q n).1, wrap1 (k := 0) (by decide) rfl ?_, fun ν hk => ?_⟩
    · unfold f_X11_soonest
      refine Ok.s (X11_needPlace _) ?_
      rw [if_neg b2]
      refine elimR' ?_
      unfold f_X11_soonest_l13
      refine Ok.loop (fun j z => z.1 = (sooA T n L q j).1 ∧ z.2.1 = nI (sooA T n L q j).2 ∧ z.2.2.1 = nI j ∧ KC μ z.2.2.2) (fun t => t.1 = (sooA T n L q n).1 ∧ KC μ t.2) n (by omega) ⟨rfl, rfl, rfl, KC.refl⟩ (fun j z hj hI => ?_) (fun t ht => XR.yes ht.1 ht.2)
      obtain ⟨w, b, c, ν⟩ := z
      obtain ⟨e1, e2, e3, hK⟩ := hI
      dsimp only at e1 e2 e3 hK
      subst e1 e2 e3
      show Ok (f_X11_soonest_b13 ν (nI q) _ _ (nI j)) _
      unfold f_X11_soonest_b13
      have h2 := h.kc hK
      by_cases hc : j = n
      · subst hc
        exact Ok.t h2.c.ge1 (Ok.d ⟨rfl, hK⟩)
      · have hj2 : j < n := by omega
        refine Ok.e (h2.c.lt1 hj2) ?_
        refine (X11_daysTo h2 hj2 hq).b fun r hr => ?_
        obtain ⟨v, ν2⟩ := r
        obtain ⟨rfl, hK2⟩ := hr
        dsimp only at hK2 ⊢
        have hnx : sooA T n L q (j + 1) = sooS T n L q j (sooA T n L q j) := rfl
        have hle := soo_le (T := T) (n := n) (L := L) (q := q) j
        unfold sooS at hnx
        cases e : comeO T n L j q with
        | none =>
          rw [e] at hnx
          refine Ok.t rfl ?_
          unfold f_X11_soonest_j52_13
          refine Ok.c hj2 ?_
          rw [hnx]
          exact ⟨rfl, rfl, nI_1 _, hK.trans hK2⟩
        | some d =>
          rw [e] at hnx
          dsimp only at hnx
          have hd := come_lt e
          refine Ok.e (nI_nm1 (show d < 2 ^ 31 by omega)) ?_
          by_cases c : (sooA T n L q j).2 ≤ d
          · rw [if_pos c] at hnx
            refine Ok.t (nI_le c (by omega)) ?_
            unfold f_X11_soonest_j52_13
            refine Ok.c hj2 ?_
            rw [hnx]
            exact ⟨rfl, rfl, nI_1 _, hK.trans hK2⟩
          · rw [if_neg c] at hnx
            refine Ok.e (nI_ge (by omega) (by omega)) ?_
            unfold f_X11_soonest_j52_13
            refine Ok.c hj2 ?_
            rw [hnx]
            exact ⟨rfl, rfl, nI_1 _, hK.trans hK2⟩
    · have m0 := h.m0 hk
      unfold f_X12_soonest
      refine Ok.s (X12_noPlace _) ?_
      rw [b2']
      refine Ok.s (X12_thrF 1) (Ok.e fnt ?_)
      unfold f_X12_soonest_l28
      refine Ok.loop (fun j z => z.1 = (sooA T n L q j).1 ∧ z.2.1 = mB (sooA T n L q j).2 ∧ z.2.2.1 = nI j ∧ Fr sK (mset ν 264 0 0) z.2.2.2) (fun t => t.1 = (sooA T n L q n).1 ∧ Fr sK (mset ν 264 0 0) t.2) n (by omega) ⟨rfl, rfl, rfl, Fr.refl⟩ (fun j z hj hI => ?_) (fun t ht => kcmK ht.1 ht.2)
      obtain ⟨w, b, c, ν2⟩ := z
      obtain ⟨e1, e2, e3, hK⟩ := hI
      dsimp only at e1 e2 e3 hK
      subst e1 e2 e3
      show Ok (f_X12_soonest_b28 ν2 (nI q) _ _ (nI j)) _
      unfold f_X12_soonest_b28
      have e65 : ν2 265 = mset ν 264 0 0 265 := hK 265 (by unfold sK; decide)
      have hM : ML n f (ν2 265) L := by rw [e65]; exact m0.m
      have hTM : LM (ν2 265) T := by rw [e65]; exact m0.lm
      refine Ok.s (X12_people hM) ?_
      by_cases hc : j = n
      · subst hc
        exact Ok.t (nI_le (Nat.le_refl _) (by omega)) (Ok.d ⟨rfl, hK⟩)
      · have hj2 : j < n := by omega
        refine Ok.e (nI_ge hj2 (by omega)) ?_
        refine (X12_comesTo hM m0.w hTM m0.wt hj2 hq).b fun r hr => ?_
        obtain ⟨v, ν3⟩ := r
        obtain ⟨rfl, hK2⟩ := hr
        dsimp only at hK2 ⊢
        refine Ok.s J9_min ?_
        have hnx : sooA T n L q (j + 1) = sooS T n L q j (sooA T n L q j) := rfl
        have hle := soo_le (T := T) (n := n) (L := L) (q := q) j
        unfold sooS at hnx
        refine Ok.c hj2 ?_
        generalize sooA T n L q j = s at hnx hle ⊢
        cases e : comeO T n L j q with
        | none =>
          rw [e] at hnx
          rw [hnx]
          have c : mB s.2 ≤ comM none := by
            unfold mB
            split
            · exact Int32.le_refl _
            · exact nI_le (b := 1000000) (by omega) (by decide)
          refine ⟨if_pos c, ?_, nI_1 _, hK.trans hK2⟩
          dsimp only
          unfold mn
          exact if_neg (Int32.not_lt.mpr c)
        | some d =>
          rw [e] at hnx
          dsimp only at hnx
          have hd := come_lt e
          by_cases c : s.2 ≤ d
          · rw [if_pos c] at hnx
            rw [hnx]
            have c2 : mB s.2 ≤ nI d := by
              unfold mB
              rw [if_neg (by omega)]
              exact nI_le c (by omega)
            refine ⟨if_pos c2, ?_, nI_1 _, hK.trans hK2⟩
            show mn (mB s.2) (nI d) = _
            unfold mn
            exact if_neg (Int32.not_lt.mpr c2)
          · rw [if_neg c] at hnx
            rw [hnx]
            have c2 : ¬ mB s.2 ≤ nI d := by
              unfold mB
              split
              · exact nI_ge (b := 1000000) (by omega) (by decide)
              · exact nI_ge (by omega) (by omega)
            refine ⟨if_neg c2, ?_, nI_1 _, hK.trans hK2⟩
            show mn (mB s.2) (nI d) = _
            unfold mn mB
            rw [if_pos (by have := Int32.not_le.mp c2; unfold mB at this; exact this), if_neg (show ¬ d = 61 by omega)]
/-! mercy -/
theorem how_one {dr : Bool} {p l : Nat} {s : Ld × Int32} : (oneA dr T n p s).1 6 l = s.1 6 l := by
  unfold oneA
  split
  · rfl
  · split
    · split <;> rfl
    · rfl
theorem how_ones {dr : Bool} {l : Nat} {s : Ld × Int32} : ∀ j, (iter (oneA dr T n) j s).1 6 l = s.1 6 l
  | 0 => rfl
  | j + 1 => how_one.trans (how_ones j)
theorem how_grow {l i : Nat} : growS T n i L 6 l = L 6 l := by
  unfold growS
  split <;> rfl
theorem how_grows {l : Nat} : ∀ j, iter (growS T n) j L 6 l = L 6 l
  | 0 => rfl
  | j + 1 => how_grow.trans (how_grows j)
theorem how_due {l i : Nat} (h : ¬ L 6 l = 1) : dueS i L 6 l = L 6 l := by
  by_cases e : i = l
  · subst e; rw [due_f h]
  · have hp : ∀ p h', payA L i p h' 6 l = L 6 l := fun p h' => by
      unfold payA rowA
      rw [upd2_k (by decide), upd2_k (by decide), upd2_k (by decide), upd2_k (by decide), upd2_k (by decide), upd2_i (fun q => e q.symm), logA_lo (by decide)]
      rfl
    have hl : lostA L i 6 l = L 6 l := by
      unfold lostA rowA
      rw [upd2_k (by decide), upd2_k (by decide), upd2_k (by decide), upd2_k (by decide), upd2_k (by decide), upd2_i (fun q => e q.symm), logA_lo (by decide)]
    unfold dueS settleA
    split
    · split
      · rfl
      · split
        · split
          · exact hl
          · split
            · exact hl
            · exact hp _ _
        · exact hp _ _
    · rfl
theorem how_dues {l : Nat} (h : ¬ L 6 l = 1) : ∀ j, iter dueS j L 6 l = L 6 l
  | 0 => rfl
  | j + 1 => by
    have ih := how_dues h j
    exact (how_due (by rw [ih]; exact h)).trans ih
theorem how_day {dr : Bool} {l : Nat} (h : ¬ L 6 l = 1) : (dayA dr T n L).1 6 l = L 6 l := by
  show dueA T n (walkersA dr T n L).1 6 l = _
  unfold dueA walkersA
  have h1 : (iter (oneA dr T n) n (L, 0)).1 6 l = L 6 l := how_ones n
  have h2 : iter (growS T n) (2 * n) (iter (oneA dr T n) n (L, 0)).1 6 l = L 6 l := (how_grows _).trans h1
  exact (how_dues (by rw [h2]; exact h) _).trans h2
theorem how_days {dr : Bool} {l j : Nat} (h : ¬ (daysA dr T n L j).1 6 l = 1) : ∀ d, (daysA dr T n L (j + d)).1 6 l = (daysA dr T n L j).1 6 l
  | 0 => rfl
  | d + 1 => by
    have ih := how_days h d
    show (dayA dr T n (daysA dr T n L (j + d)).1).1 6 l = _
    exact (how_day (by rw [ih]; exact h)).trans ih
def mercL (L : Ld) (l e : Nat) : Ld := upd2 L 10 l (mn 9999 (L 10 l + nI e))
def spared (T : Tx) (n : Nat) (L : Ld) (l e : Nat) : Bool := !decide ((daysA false T n (mercL L l e) 60).1 6 l = 2)
theorem WF.merc (hw : WF n L) {l e : Nat} (hl : l < 2 * n) (he : e ≤ 30) (c : L 6 l = 1) : WF n (mercL L l e) := by
  obtain ⟨m1, h', m2, m3, m4, m5, m6, ⟨x, hx, ex⟩, m8⟩ := (hw.lace hl).pledged c
  unfold mercL
  refine hw.term (x := min 9999 (x + e)) c (by omega) ?_
  rw [ex, nI_add]; exact mn_nI (a := 9999) (by decide) (by omega)
theorem X11_isSpared (h : St n f L T μ) {l e : Nat} (hl : l < 2 * n) (he : e ≤ 30) (c : L 6 l = 1) : Ok (f_X11_isSpared μ (nI l) (nI e)) (fun r => r.1 = spared T n L l e ∧ KC μ r.2) := by
  have hn := h.n6
  unfold f_X11_isSpared
  refine (X2_copyFrom h.c dis18).b fun ν hv => ?_
  have hc3 : CL n f ν 3 L := h.c.fr fun j hj => hv.2 _ (by unfold sA; omega)
  refine Ok.s (hc3.rdL (k := 10) (by decide) hl) ?_
  refine Ok.s J9_min ?_
  refine Ok.s (wr_nI (by omega) (by decide)) ?_
  have hC0 : CL n f (mset ν 28 l (mn 9999 (L 10 l + nI e))) 18 (mercL L l e) := hv.1.set (k := 10) (by decide) (by omega)
  have hw0 : WF n (mercL L l e) := h.w.merc hl he c
  have hK0 : KC μ (mset ν 28 l (mn 9999 (L 10 l + nI e))) := (hv.2.mono fun k hk => kcA hk).put (by unfold scC; omega)
  unfold f_X11_isSpared_l39
  refine Ok.loop (fun j z => z.1 = nI j ∧ (∃ g, CL n g z.2 18 (daysA false T n (mercL L l e) j).1) ∧ KC μ z.2) (fun ν => (∃ g j, j ≤ 60 ∧ (j = 60 ∨ ¬ (daysA false T n (mercL L l e) j).1 6 l = 1) ∧ CL n g ν 18 (daysA false T n (mercL L l e) j).1) ∧ KC μ ν) 60 (by decide) ⟨rfl, ⟨f, hC0⟩, hK0⟩ (fun j z hj hI => ?_) (fun ν ht => ?_)
  · obtain ⟨c, ν⟩ := z
    obtain ⟨e1, ⟨g, hC⟩, hK⟩ := hI
    dsimp only at e1 hC hK
    subst e1
    show Ok (f_X11_isSpared_b39 ν (nI l) (nI j)) _
    unfold f_X11_isSpared_b39
    by_cases hc : j = 60
    · subst hc
      exact Ok.t (by decide) (Ok.d ⟨⟨g, 60, Nat.le_refl _, Or.inl rfl, hC⟩, hK⟩)
    · refine Ok.e (nI_ge (b := 60) (by omega) (by decide)) ?_
      refine Ok.s (X2_isPledged hC hl) ?_
      by_cases d : (daysA false T n (mercL L l e) j).1 6 l = 1
      · refine Ok.t (decide_eq_true d) ?_
        have hwj : WF n (daysA false T n (mercL L l e) j).1 := hw0.days hn h.wt j
        refine (X2_liveOn hC hwj (by decide) (h.kc hK).lc h.wt false (k := 1) (by decide)).b fun r hv2 => ?_
        exact Ok.c (by omega) ⟨nI_1 _, ⟨_, hv2.2.1⟩, hK.trans (hv2.2.2.mono fun k hk => kcD hk)⟩
      · refine Ok.e (by simp [d]) ?_
        exact Ok.d ⟨⟨g, j, hj, Or.inr d, hC⟩, hK⟩
  · obtain ⟨⟨g, j, hj, hd, hC⟩, hK⟩ := ht
    unfold f_X11_isSpared_j76
    refine Ok.s (hC.rdL (k := 6) (by decide) hl) ?_
    have e60 : (daysA false T n (mercL L l e) 60).1 6 l = (daysA false T n (mercL L l e) j).1 6 l := by
      rcases hd with rfl | hd
      · rfl
      · have := how_days hd (60 - j)
        rwa [show j + (60 - j) = 60 by omega] at this
    refine Ok.r ⟨?_, hK⟩
    unfold spared
    rw [e60]
    show (if _ = 2 then (false : Bool) else true) = _
    by_cases d : (daysA false T n (mercL L l e) j).1 6 l = 2
    · rw [if_pos d]; simp [d]
    · rw [if_neg d]; simp [d]
theorem X12_isLostBy (h : ML n f (μ 265) L) (hw : WF n L) (hT : LM (μ 265) T) (hW : WT T) {l e : Nat} (hl : l < 2 * n) (he : e ≤ 30) (c : L 6 l = 1) : Ok (f_X12_isLostBy μ (nI l) (nI e)) (fun r => r.1 = !spared T n L l e ∧ Fr sK μ r.2) := by
  have hn := h.n6
  unfold f_X12_isLostBy
  refine X12_keepsAll.b fun ν1 h1 => ?_
  refine Ok.s (X12_laceAtN (k := 4)) ?_
  refine Ok.s (X12_lace4 (h.of68 h1.1) hl) ?_
  refine Ok.s J9_min ?_
  refine Ok.s (wr_nI (by omega) (by decide)) ?_
  have hM0 : ML n f (mset ν1 265 (58 + 6 * l + 4) (mn 9999 (L 10 l + nI e)) 265) (mercL L l e) := (h.of68 h1.1).putL (k := 10) (by decide) hl rfl
  have hw0 : WF n (mercL L l e) := hw.merc hl he c
  have hS0 : Ms s72 ν1 (mset ν1 265 (58 + 6 * l + 4) (mn 9999 (L 10 l + nI e))) := Ms.set (S := s72) (Or.inl rfl) (by omega) (by omega)
  have hT1 : LM (ν1 265) T := by rw [h1.1 265 (by decide)]; exact hT
  unfold f_X12_isLostBy_l30
  refine days_loop (st := true) (dr := false) (k := 60) rfl (by decide) hM0 hw0 (hT1.ms hS0) hW (fun j ν hj => ?_) (fun ν => ?_) (fun ν2 hM h2 => ?_) rfl
  · show f_X12_isLostBy_b30 ν (nI l) (nI j) = _
    unfold f_X12_isLostBy_b30
    refine ie (nI_ge (b := 60) hj (by decide)) ?_
    rw [nI_1]
  · exact it (show (60 : Int32) ≤ nI 60 by decide) rfl
  · unfold f_X12_isLostBy_j47
    refine Ok.s (X12_isLost hM hl) ?_
    refine X12_bringsBack.b fun ν3 h3 => ?_
    exact Ok.r ⟨by unfold spared; simp, kept h1 (hS0.trans h2) (fun k hk => hk) h3⟩
def mercO (T : Tx) (n : Nat) (L : Ld) (l : Nat) : Option Nat := firstN (spared T n L l) 31 0
theorem q_mercy (h : St n f L T μ) (p1 : Int32) : AgQ μ (f_L_mercy μ p1) (fun ν => f_X12_mercy ν p1) := by
  have hn := h.n6
  by_cases b1 : outb p1 0 (nI (2 * n) - 1) = true
  · refine ⟨1, 0, wrap1 (k := 2) (by decide) rfl ?_, fun ν hk => ?_⟩
    · unfold f_X11_mercy
      refine Ok.s (X11_needLace h.c p1) ?_
      rw [if_pos b1]
      exact elimL' (XR.no (by decide) KC.refl)
    · have m0 := h.m0 hk
      unfold f_X12_mercy
      refine Ok.s (X12_noLace m0.m p1) ?_
      rw [b1]
      exact Ok.s (X12_thrT 1) (Ok.t rfl (mrT (by decide)))
  · have b1' : outb p1 0 (nI (2 * n) - 1) = false := by simpa using b1
    obtain ⟨l, hl, rfl⟩ := outb_ix (by omega) b1'
    by_cases c : L 6 l = 1
    · refine ⟨0, comC (mercO T n L l), wrap1 (k := 0) (by decide) rfl ?_, fun ν hk => ?_⟩
      · unfold f_X11_mercy
        refine Ok.s (X11_needLace h.c _) ?_
        rw [if_neg b1]
        refine elimR' (Ok.s (X2_isPledged h.c hl) (Ok.t (decide_eq_true c) ?_))
        unfold f_X11_mercy_l20
        refine Ok.loop (fun j z => z.1 = nI j ∧ KC μ z.2 ∧ mercO T n L l = firstN (spared T n L l) (31 - j) j) (fun t => match t with | .inl ν => mercO T n L l = none ∧ KC μ ν | .inr r => XR 0 (comC (mercO T n L l)) (KC μ) r) 31 (by decide) ⟨rfl, KC.refl, rfl⟩ (fun j z hj hI => ?_) (fun t ht => ?_)
        · obtain ⟨c9, ν⟩ := z
          obtain ⟨e1, hK, hr⟩ := hI
          dsimp only at e1 hK hr
          subst e1
          show Ok (f_X11_mercy_b20 ν (nI l) (nI j)) _
          unfold f_X11_mercy_b20
          by_cases hc : j = 31
          · subst hc
            exact Ok.t (by decide) (Ok.d ⟨hr, hK⟩)
          · refine Ok.e (nI_nlt (a := 30) (by omega) (by decide)) ?_
            refine (X11_isSpared (h.kc hK) hl (by omega) c).b fun r hv => ?_
            obtain ⟨v, ν2⟩ := r
            obtain ⟨rfl, hK2⟩ := hv
            dsimp only at hK2 ⊢
            rw [show 31 - j = (31 - (j + 1)) + 1 by omega] at hr
            by_cases d : spared T n L l j = true
            · refine Ok.t d (Ok.d ?_)
              rw [first_t d] at hr
              show XR 0 _ _ _
              rw [hr]
              exact ⟨rfl, rfl, hK.trans hK2⟩
            · refine Ok.e d (Ok.c (by omega) ⟨nI_1 _, hK.trans hK2, ?_⟩)
              rw [first_f d] at hr
              exact hr
        · cases t with
          | inl ν => exact XR.yes (by rw [ht.1]; rfl) ht.2
          | inr r => exact ⟨_, rfl, ht⟩
      · have m0 := h.m0 hk
        unfold f_X12_mercy
        refine Ok.s (X12_noLace m0.m _) ?_
        rw [b1']
        refine Ok.s (X12_thrF 1) (Ok.e fnt ?_)
        refine Ok.s (X12_isPledged m0.m hl) (Ok.t (decide_eq_true c) ?_)
        unfold f_X12_mercy_l32
        refine Ok.loop (fun j z => z.1 = nI j ∧ Fr sK (mset ν 264 0 0) z.2 ∧ mercO T n L l = firstN (spared T n L l) (31 - j) j) (fun t => match t with | .inl ν2 => mercO T n L l = none ∧ Fr sK (mset ν 264 0 0) ν2 | .inr r => r.1 = comC (mercO T n L l) ∧ Fr sK (mset ν 264 0 0) r.2) 31 (by decide) ⟨rfl, Fr.refl, rfl⟩ (fun j z hj hI => ?_) (fun t ht => ?_)
        · obtain ⟨c9, ν2⟩ := z
          obtain ⟨e1, hK, hr⟩ := hI
          dsimp only at e1 hK hr
          subst e1
          show Ok (f_X12_mercy_b32 ν2 (nI l) (nI j)) _
          unfold f_X12_mercy_b32
          by_cases hc : j = 31
          · subst hc
            exact Ok.t (by decide) (Ok.d ⟨hr, hK⟩)
          · refine Ok.e (nI_nlt (a := 30) (by omega) (by decide)) ?_
            have e65 : ν2 265 = mset ν 264 0 0 265 := hK 265 (by unfold sK; decide)
            refine (X12_isLostBy (by rw [e65]; exact m0.m) m0.w (by rw [e65]; exact m0.lm) m0.wt hl (by omega) c).b fun r hv => ?_
            obtain ⟨v, ν3⟩ := r
            obtain ⟨rfl, hK2⟩ := hv
            dsimp only at hK2 ⊢
            rw [show 31 - j = (31 - (j + 1)) + 1 by omega] at hr
            by_cases d : spared T n L l j = true
            · refine Ok.e (by rw [d]; decide) (Ok.d ?_)
              rw [first_t d] at hr
              show _ ∧ _
              rw [hr]
              exact ⟨rfl, hK.trans hK2⟩
            · refine Ok.t (by simp [d]) (Ok.c (by omega) ⟨nI_1 _, hK.trans hK2, ?_⟩)
              rw [first_f d] at hr
              exact hr
        · cases t with
          | inl ν2 => exact kcmK (by rw [ht.1]; rfl) ht.2
          | inr r => exact kcmK ht.1 ht.2
    · refine ⟨0, -1, wrap1 (k := 0) (by decide) rfl ?_, fun ν hk => ?_⟩
      · unfold f_X11_mercy
        refine Ok.s (X11_needLace h.c _) ?_
        rw [if_neg b1]
        refine elimR' (Ok.s (X2_isPledged h.c hl) (Ok.e (by simp [c]) ?_))
        exact XR.yes rfl KC.refl
      · have m0 := h.m0 hk
        unfold f_X12_mercy
        refine Ok.s (X12_noLace m0.m _) ?_
        rw [b1']
        refine Ok.s (X12_thrF 1) (Ok.e fnt ?_)
        refine Ok.s (X12_isPledged m0.m hl) (Ok.e (by simp [c]) ?_)
        exact mrV rfl
end Co
