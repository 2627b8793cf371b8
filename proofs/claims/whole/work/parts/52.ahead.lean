/-! QUESTIONS OF DAYS TO COME -/
def sK (k : Nat) : Prop := k = 268 ∨ k = 272
theorem kept {S : Nat → Prop} {μ μ1 μ2 μ3 : Mem} (h1 : Fr (fun k => k = 268) μ μ1 ∧ ∀ q, q < 370 → μ1 268 q = μ 265 q) (h2 : Ms S μ1 μ2) (hS : ∀ k, S k → s72 k) (h3 : Fr (fun k => k = 265) μ2 μ3 ∧ (∀ q, q < 370 → μ3 265 q = μ2 268 q) ∧ ∀ q, 370 ≤ q → μ3 265 q = μ2 265 q) : Fr sK μ μ3 := by
  intro k hk
  by_cases e : k = 265
  · subst e
    exact back_eq h1 h2 (fun q => by have := hS _ q; unfold s72 at this; omega) h3
  · unfold sK at hk
    rw [h3.1 k e, h2.1 k (fun q => by have := hS _ q; unfold s72 at this; omega), h1.1 k (by omega)]
theorem kmK {k : Nat} (h : sK k) : scM k ∧ k ≠ 264 := by unfold scM; unfold sK at h; omega
theorem kcD {k : Nat} (h : sD 18 k) : scC k := by unfold scC; unfold sD sA s5 at h; omega
theorem kcA {k : Nat} (h : sA 18 k) : scC k := by unfold scC; unfold sA at h; omega
section Ah
variable {n : Nat} {f : Int32} {μ : Mem} {L : Ld} {T : Tx} {a : Nat}
theorem ML.of68 {ν : Mem} (h : ML n f (μ 265) L) (h1 : Fr (fun k => k = 268) μ ν) : ML n f (ν 265) L := by rw [h1 265 (by decide)]; exact h
theorem days_loop {ρ : Type} {g : Int32 × Mem → Option ((Int32 × Mem) ⊕ Mem)} {F : Mem → Option ρ} {Q : ρ → Prop} {st dr : Bool} {k : Nat} (hd : dr = !st) (hk : k ≤ 60) (h : ML n f (μ 265) L) (hw : WF n L) (hT : LM (μ 265) T) (hW : WT T) (hg : ∀ j ν, j < k → g (nI j, ν) = Option.bind (f_X12_oneDay ν st) fun q1 => some (.inl (nI (j + 1), q1))) (he : ∀ ν, g (nI k, ν) = some (.inr ν)) (kont : ∀ ν, ML n (f + (daysA dr T n L k).2) (ν 265) (daysA dr T n L k).1 → Ms s72 μ ν → Ok (F ν) Q) {z0 : Int32} (hz : z0 = nI 0) : Ok (Option.bind (loopN 10000 g (z0, μ)) F) Q := by
  subst hz
  have hn := h.n6
  refine Ok.loop (fun j z => z.1 = nI j ∧ ML n (f + (daysA dr T n L j).2) (z.2 265) (daysA dr T n L j).1 ∧ Ms s72 μ z.2) (fun ν => ML n (f + (daysA dr T n L k).2) (ν 265) (daysA dr T n L k).1 ∧ Ms s72 μ ν) k (by omega) ⟨rfl, by show ML n (f + 0) _ _; rw [Int32.add_zero]; exact h, Ms.refl⟩ (fun j z hj hI => ?_) (fun ν hν => kont ν hν.1 hν.2)
  obtain ⟨c, ν⟩ := z
  obtain ⟨e1, hM, hF⟩ := hI
  dsimp only at e1 hM hF
  subst e1
  by_cases hc : j = k
  · subst hc
    exact ⟨_, he ν, hM, hF⟩
  · rw [hg j ν (by omega)]
    refine (X12_oneDay hM (hw.days hn hW j) (hT.ms hF) hW hd).b fun ν2 hv => ?_
    refine Ok.c (by omega) ⟨rfl, ?_, hF.trans hv.2⟩
    have hnext : daysA dr T n L (j + 1) = ((dayA dr T n (daysA dr T n L j).1).1, (daysA dr T n L j).2 + (dayA dr T n (daysA dr T n L j).1).2) := rfl
    rw [hnext]
    dsimp only
    rw [← Int32.add_assoc]
    exact hv.1
theorem dis18 : dis 18 3 := by unfold dis; omega
/-- the trial land: a copy of the class's, lived on -/
theorem X2_trial (h : St n f L T μ) (dr : Bool) {k : Nat} (hk : k ≤ 60) : Ok (Option.bind (f_X2_copyFrom μ 18 3) fun q => f_X2_liveOn q 18 (nI k) 48 dr) (fun q => q.1 = (daysA dr T n L k).2 ∧ CL n (f + (daysA dr T n L k).2) q.2 18 (daysA dr T n L k).1 ∧ KC μ q.2) := by
  refine (X2_copyFrom h.c dis18).b fun ν hv => ?_
  refine (X2_liveOn hv.1 h.w (by decide) (h.lc.fr fun j hj => hv.2 _ (by unfold sA; omega)) h.wt dr hk).w fun q hq => ⟨hq.1, hq.2.1, ?_⟩
  exact (hv.2.mono fun k hk => kcA hk).trans (hq.2.2.mono fun k hk => kcD hk)
theorem bindA {α β γ : Type} {o : Option α} {f : α → Option β} {g : β → Option γ} {P : γ → Prop} (h : Ok (Option.bind (Option.bind o f) g) P) : Ok (Option.bind o fun x => Option.bind (f x) g) P := by
  cases o with
  | none => exact h
  | some a => exact h
theorem q_ahead (h : St n f L T μ) (p1 p2 : Int32) (p3 : Bool) : AgQ μ (f_L_ahead μ p1 p2 p3) (fun ν => f_X12_ahead ν p1 p2 p3) := by
  have hn := h.n6
  by_cases b1 : outb p1 0 (nI n - 1) = true
  · refine ⟨1, 0, wrap2 (k := 2) (by decide) rfl ?_, fun ν hk => ?_⟩
    · unfold f_X11_ahead
      refine Ok.s (X11_needPerson h.c p1) ?_
      rw [if_pos b1]
      exact elimL' (XR.no (by decide) KC.refl)
    · have m0 := h.m0 hk
      unfold f_X12_ahead
      refine Ok.s (X12_noPerson m0.m p1) ?_
      rw [b1]
      exact Ok.s (X12_thrT 1) (Ok.t rfl (mrT (by decide)))
  · have b1' : outb p1 0 (nI n - 1) = false := by simpa using b1
    obtain ⟨p, hp, rfl⟩ := outb_ix (by omega) b1'
    by_cases b2 : outb p2 0 60 = true
    · refine ⟨2, 0, wrap2 (k := 1) (by decide) rfl ?_, fun ν hk => ?_⟩
      · unfold f_X11_ahead
        refine Ok.s (X11_needPerson h.c _) ?_
        rw [if_neg b1]
        refine elimR' (Ok.s (X11_needAhead p2) ?_)
        rw [if_pos b2]
        exact elimL' (XR.no (by decide) KC.refl)
      · have m0 := h.m0 hk
        unfold f_X12_ahead
        refine Ok.s (X12_noPerson m0.m _) ?_
        rw [b1']
        refine Ok.s (X12_thrF 1) (Ok.e fnt ?_)
        refine Ok.s X12_in ?_
        rw [nb, b2]
        exact Ok.s (X12_thrT 2) (Ok.t rfl (mrT (by decide)))
    · have b2' : outb p2 0 60 = false := by simpa using b2
      obtain ⟨k, hk60, rfl⟩ := outb_rng (b := 60) rfl (by decide) b2'
      refine ⟨0, (daysA false T n L k).1 (if p3 = true then 1 else 3) p, wrap2 (k := 0) (by decide) rfl ?_, fun ν hk => ?_⟩
      · unfold f_X11_ahead
        refine Ok.s (X11_needPerson h.c _) ?_
        rw [if_neg b1]
        refine elimR' (Ok.s (X11_needAhead _) ?_)
        rw [if_neg b2]
        refine elimR' (bindA ((X2_trial h false hk60).b fun q hq => ?_))
        cases p3 with
        | true =>
          refine Ok.t rfl (Ok.s (hq.2.1.rdP (k := 1) (by decide) hp) ?_)
          exact XR.yes rfl hq.2.2
        | false =>
          refine Ok.e fnt (Ok.s (hq.2.1.rdP (k := 3) (by decide) hp) ?_)
          exact XR.yes rfl hq.2.2
      · have m0 := h.m0 hk
        unfold f_X12_ahead
        refine Ok.s (X12_noPerson m0.m _) ?_
        rw [b1']
        refine Ok.s (X12_thrF 1) (Ok.e fnt ?_)
        refine Ok.s X12_in ?_
        rw [nb, b2']
        refine Ok.s (X12_thrF 2) (Ok.e fnt ?_)
        refine X12_keepsAll.b fun ν1 h1 => ?_
        unfold f_X12_ahead_l50
        refine days_loop (st := true) (dr := false) rfl hk60 (m0.m.of68 h1.1) m0.w (by rw [h1.1 265 (by decide)]; exact m0.lm) m0.wt (fun j ν hj => ?_) (fun ν => ?_) (fun ν2 hM h2 => ?_) rfl
        · show f_X12_ahead_b50 ν (nI p) (nI k) p3 (nI j) = _
          unfold f_X12_ahead_b50
          refine ie (nI_ge hj (by omega)) ?_
          rw [nI_1]
        · exact it (nI_le (Nat.le_refl _) (by omega)) rfl
        · unfold f_X12_ahead_j67
          refine Ok.s (a := (daysA false T n L k).1 (if p3 = true then 1 else 3) p) (by cases p3; exact X12_of2 hM hp; exact X12_of0 hM hp) ?_
          refine X12_bringsBack.b fun ν3 h3 => ?_
          exact mrS rfl (kept h1 h2 (fun k hk => hk) h3) fun k hk => kmK hk
theorem X2_lost18 {g : Int32} {ν : Mem} {L' : Ld} (h : CL n g ν a L') : f_X2_lacesThatAre ν a 2 = some (lostS n L') := X2_lacesThatAre h 2
theorem q_breaks (h : St n f L T μ) (p1 : Int32) : AgQ μ (f_L_breaks μ p1) (fun ν => f_X12_breaks ν p1) := by
  have hn := h.n6
  by_cases b2 : outb p1 0 60 = true
  · refine ⟨1, 0, wrap1 (k := 1) (by decide) rfl ?_, fun ν hk => ?_⟩
    · unfold f_X11_breaks
      refine Ok.s (X11_needAhead p1) ?_
      rw [if_pos b2]
      exact elimL' (XR.no (by decide) KC.refl)
    · unfold f_X12_breaks
      refine Ok.s X12_in ?_
      rw [nb, b2]
      exact Ok.s (X12_thrT 1) (Ok.t rfl (mrT (by decide)))
  · have b2' : outb p1 0 60 = false := by simpa using b2
    obtain ⟨k, hk60, rfl⟩ := outb_rng (b := 60) rfl (by decide) b2'
    refine ⟨0, lostS n (daysA false T n L k).1 &&& (lostS n L ^^^ (-1)), wrap1 (k := 0) (by decide) rfl ?_, fun ν hk => ?_⟩
    · unfold f_X11_breaks
      refine Ok.s (X11_needAhead _) ?_
      rw [if_neg b2]
      refine elimR' (bindA ((X2_trial h false hk60).b fun q hq => ?_))
      refine Ok.s (X2_lost18 hq.2.1) (Ok.s (X2_lost18 (h.kc hq.2.2).c) ?_)
      exact XR.yes rfl hq.2.2
    · have m0 := h.m0 hk
      unfold f_X12_breaks
      refine Ok.s X12_in ?_
      rw [nb, b2']
      refine Ok.s (X12_thrF 1) (Ok.e fnt ?_)
      refine Ok.s (X12_lostOnes m0.m) ?_
      refine X12_keepsAll.b fun ν1 h1 => ?_
      unfold f_X12_breaks_l41
      refine days_loop (st := true) (dr := false) rfl hk60 (m0.m.of68 h1.1) m0.w (by rw [h1.1 265 (by decide)]; exact m0.lm) m0.wt (fun j ν hj => ?_) (fun ν => ?_) (fun ν2 hM h2 => ?_) rfl
      · show f_X12_breaks_b41 ν (nI k) _ (nI j) = _
        unfold f_X12_breaks_b41
        refine ie (nI_ge hj (by omega)) ?_
        rw [nI_1]
      · exact it (nI_le (Nat.le_refl _) (by omega)) rfl
      · unfold f_X12_breaks_j57
        refine Ok.s (X12_lostOnes hM) ?_
        refine X12_bringsBack.b fun ν3 h3 => ?_
        exact mrS rfl (kept h1 h2 (fun k hk => hk) h3) fun k hk => kmK hk
theorem add_sub (x y : Int32) : x + y - x = y := by rw [Int32.add_comm, Int32.add_sub_cancel]
theorem q_trial (h : St n f L T μ) (p1 : Int32) (p2 : Bool) : AgQ μ (f_L_trial μ p1 p2) (fun ν => f_X12_trial ν p1 p2) := by
  have hn := h.n6
  by_cases b2 : outb p1 0 60 = true
  · refine ⟨1, 0, wrap1 (k := 1) (by decide) rfl ?_, fun ν hk => ?_⟩
    · unfold f_X11_trial
      refine Ok.s (X11_needAhead p1) ?_
      rw [if_pos b2]
      exact elimL' (XR.no (by decide) KC.refl)
    · unfold f_X12_trial
      refine Ok.s X12_in ?_
      rw [nb, b2]
      exact Ok.s (X12_thrT 1) (Ok.t rfl (mrT (by decide)))
  · have b2' : outb p1 0 60 = false := by simpa using b2
    obtain ⟨k, hk60, rfl⟩ := outb_rng (b := 60) rfl (by decide) b2'
    refine ⟨0, if p2 = true then lostS n (daysA true T n L k).1 else (daysA true T n L k).2, wrap1 (k := 0) (by decide) rfl ?_, fun ν hk => ?_⟩
    · unfold f_X11_trial
      refine Ok.s (X11_needAhead _) ?_
      rw [if_neg b2]
      refine elimR' (bindA ((X2_trial h true hk60).b fun q hq => ?_))
      cases p2 with
      | true => exact Ok.t rfl (Ok.s (X2_lost18 hq.2.1) (XR.yes rfl hq.2.2))
      | false => exact Ok.e fnt (XR.yes hq.1 hq.2.2)
    · have m0 := h.m0 hk
      unfold f_X12_trial
      refine Ok.s X12_in ?_
      rw [nb, b2']
      refine Ok.s (X12_thrF 1) (Ok.e fnt ?_)
      refine X12_keepsAll.b fun ν1 h1 => ?_
      unfold f_X12_trial_l36
      refine days_loop (st := false) (dr := true) rfl hk60 (m0.m.of68 h1.1) m0.w (by rw [h1.1 265 (by decide)]; exact m0.lm) m0.wt (fun j ν hj => ?_) (fun ν => ?_) (fun ν2 hM h2 => ?_) rfl
      · show f_X12_trial_b36 ν (nI k) p2 (nI j) = _
        unfold f_X12_trial_b36
        refine ie (nI_ge hj (by omega)) ?_
        rw [nI_1]
      · exact it (nI_le (Nat.le_refl _) (by omega)) rfl
      · unfold f_X12_trial_j52 f_X12_trial_j76
        cases p2 with
        | true =>
          refine Ok.t rfl (Ok.s (X12_lostOnes hM) ?_)
          refine X12_bringsBack.b fun ν3 h3 => ?_
          exact mrS rfl (kept h1 h2 (fun k hk => hk) h3) fun k hk => kmK hk
        | false =>
          refine Ok.e fnt ?_
          refine Ok.s (a := f + (daysA true T n L k).2) (by rw [rd_k (k := 5) 5 rfl (by decide) (by decide)]; exact congrArg some hM.2.2) ?_
          refine Ok.s (a := f) (by rw [rd_k (k := 5) 5 rfl (by decide) (by decide), h2.1 268 (by unfold s72; decide), h1.2 5 (by decide)]; exact congrArg some m0.m.2.2) ?_
          refine X12_bringsBack.b fun ν3 h3 => ?_
          exact mrS (add_sub _ _) (kept h1 h2 (fun k hk => hk) h3) fun k hk => kmK hk
/-! who comes when -/
def firstN (P : Nat → Bool) : Nat → Nat → Option Nat
  | 0, _ => none
  | d + 1, i => if P i = true then some i else firstN P d (i + 1)
def hereP (T : Tx) (n : Nat) (L : Ld) (p q : Nat) (j : Nat) : Bool := decide ((daysA false T n (upd2 L 4 p (nI q)) j).1 3 p = nI q)
def comeO (T : Tx) (n : Nat) (L : Ld) (p q : Nat) : Option Nat := firstN (hereP T n L p q) 61 0
theorem first_t {P : Nat → Bool} {d i : Nat} (h : P i = true) : firstN P (d + 1) i = some i := if_pos h
theorem first_f {P : Nat → Bool} {d i : Nat} (h : ¬ P i = true) : firstN P (d + 1) i = firstN P d (i + 1) := if_neg h
theorem first_lt {P : Nat → Bool} : ∀ {d i j : Nat}, firstN P d i = some j → j < i + d
  | 0, _, _, h => by cases h
  | d + 1, i, j, h => by
    by_cases c : P i = true
    · rw [first_t c] at h; cases h; omega
    · rw [first_f c] at h; have := first_lt h; omega
def comC (r : Option Nat) : Int32 := match r with | some j => nI j | none => -1
def comM (r : Option Nat) : Int32 := match r with | some j => nI j | none => 1000000
theorem hw_goal {p q : Nat} (hw : WF n L) (hq : q ≤ 19) : WF n (upd2 L 4 p (nI q)) := hw.goal hq rfl
theorem X11_daysTo (h : St n f L T μ) {p q : Nat} (hp : p < n) (hq : q ≤ 19) : Ok (f_X11_daysTo μ (nI p) (nI q)) (fun r => r.1 = comC (comeO T n L p q) ∧ KC μ r.2) := by
  have hn := h.n6
  unfold f_X11_daysTo
  refine (X2_copyFrom h.c dis18).b fun ν hv => ?_
  refine Ok.s (wr_nI (by omega) (by decide)) ?_
  have hC0 : CL n f (mset ν 22 p (nI q)) 18 (upd2 L 4 p (nI q)) := hv.1.set (k := 4) (by decide) (by omega)
  have hw0 : WF n (upd2 L 4 p (nI q)) := hw_goal h.w hq
  have hK0 : KC μ (mset ν 22 p (nI q)) := (hv.2.mono fun k hk => kcA hk).put (by unfold scC; omega)
  unfold f_X11_daysTo_l23
  refine Ok.loop (fun j z => z.1 = nI j ∧ (∃ g, CL n g z.2 18 (daysA false T n (upd2 L 4 p (nI q)) j).1) ∧ KC μ z.2 ∧ comeO T n L p q = firstN (hereP T n L p q) (61 - j) j) (fun t => match t with | .inl ν => comeO T n L p q = none ∧ KC μ ν | .inr r => r.1 = comC (comeO T n L p q) ∧ KC μ r.2) 61 (by decide) ⟨rfl, ⟨f, hC0⟩, hK0, rfl⟩ (fun j z hj hI => ?_) (fun t ht => ?_)
  · obtain ⟨c, ν⟩ := z
    obtain ⟨e1, ⟨g, hC⟩, hK, hr⟩ := hI
    dsimp only at e1 hC hK hr
    subst e1
    show Ok (f_X11_daysTo_b23 ν (nI p) (nI q) (nI j)) _
    unfold f_X11_daysTo_b23
    by_cases hc : j = 61
    · subst hc
      exact Ok.t (by decide) (Ok.d ⟨hr, hK⟩)
    · refine Ok.e (nI_nlt (a := 60) (by omega) (by decide)) ?_
      refine Ok.s (hC.rdP (k := 3) (by decide) hp) ?_
      rw [show 61 - j = (61 - (j + 1)) + 1 by omega] at hr
      by_cases d : (daysA false T n (upd2 L 4 p (nI q)) j).1 3 p = nI q
      · refine Ok.t d (Ok.d ⟨?_, hK⟩)
        rw [hr, first_t (decide_eq_true d)]
        rfl
      · refine Ok.e d ?_
        rw [first_f (by unfold hereP; simp [d])] at hr
        have hwj : WF n (daysA false T n (upd2 L 4 p (nI q)) j).1 := hw0.days hn h.wt j
        refine (X2_liveOn hC hwj (by decide) (h.kc hK).lc h.wt false (k := 1) (by decide)).b fun r hv2 => ?_
        exact Ok.c (by omega) ⟨nI_1 _, ⟨_, hv2.2.1⟩, hK.trans (hv2.2.2.mono fun k hk => kcD hk), hr⟩
  · cases t with
    | inl ν =>
      refine Ok.r ⟨?_, ht.2⟩
      rw [ht.1]; rfl
    | inr r => exact Ok.r ht
theorem X12_comesTo (h : ML n f (μ 265) L) (hw : WF n L) (hT : LM (μ 265) T) (hW : WT T) {p q : Nat} (hp : p < n) (hq : q ≤ 19) : Ok (f_X12_comesTo μ (nI p) (nI q)) (fun r => r.1 = comM (comeO T n L p q) ∧ Fr sK μ r.2) := by
  have hn := h.n6
  unfold f_X12_comesTo
  refine X12_keepsAll.b fun ν1 h1 => ?_
  refine Ok.s (X12_atN (k := 3)) ?_
  refine Ok.s (wr_nI (by omega) (by decide)) ?_
  have hM0 : ML n f (mset ν1 265 (28 + 5 * p + 3) (nI q) 265) (upd2 L 4 p (nI q)) := (h.of68 h1.1).putP (k := 4) (by decide) hp rfl
  have hw0 : WF n (upd2 L 4 p (nI q)) := hw_goal hw hq
  have hS0 : Ms s72 ν1 (mset ν1 265 (28 + 5 * p + 3) (nI q)) := Ms.set (S := s72) (Or.inl rfl) (by omega) (by omega)
  have hT1 : LM (ν1 265) T := by rw [h1.1 265 (by decide)]; exact hT
  unfold f_X12_comesTo_l22
  refine Ok.loop (fun j z => z.2.1 = nI j ∧ Ms s72 ν1 z.2.2 ∧ ((z.1 = 1000000 ∧ (∃ g, ML n g (z.2.2 265) (daysA false T n (upd2 L 4 p (nI q)) j).1) ∧ comeO T n L p q = firstN (hereP T n L p q) (61 - j) j) ∨ (∃ i, i < 61 ∧ z.1 = nI i ∧ comeO T n L p q = some i))) (fun t => t.1 = comM (comeO T n L p q) ∧ Ms s72 ν1 t.2) 61 (by decide) ⟨rfl, hS0, Or.inl ⟨rfl, ⟨f, hM0⟩, rfl⟩⟩ (fun j z hj hI => ?_) (fun t ht => ?_)
  · obtain ⟨v, c, ν⟩ := z
    obtain ⟨e1, hS, hI⟩ := hI
    dsimp only at e1 hS hI
    subst e1
    show Ok (f_X12_comesTo_b22 ν (nI p) (nI q) v (nI j)) _
    unfold f_X12_comesTo_b22
    by_cases hc : j = 61
    · subst hc
      refine Ok.t (by decide) (Ok.d ?_)
      rcases hI with ⟨rfl, -, hr⟩ | ⟨i, hi, rfl, hr⟩
      · exact ⟨by rw [hr]; rfl, hS⟩
      · exact ⟨by rw [hr]; rfl, hS⟩
    · refine Ok.e (nI_nlt (a := 60) (by omega) (by decide)) ?_
      rcases hI with ⟨rfl, ⟨g, hM⟩, hr⟩ | ⟨i, hi, rfl, hr⟩
      · refine Ok.t rfl ?_
        refine Ok.s (X12_of2 hM hp) ?_
        rw [show 61 - j = (61 - (j + 1)) + 1 by omega] at hr
        have hwj : WF n (daysA false T n (upd2 L 4 p (nI q)) j).1 := hw0.days hn hW j
        have hday := X12_oneDay hM hwj (hT1.ms hS) hW (st := true) (dr := false) rfl
        by_cases d : (daysA false T n (upd2 L 4 p (nI q)) j).1 3 p = nI q
        · refine Ok.t d ?_
          unfold f_X12_comesTo_j54_22
          refine hday.b fun ν2 hv => Ok.c (by omega) ⟨nI_1 _, hS.trans hv.2, Or.inr ⟨j, by omega, rfl, ?_⟩⟩
          rw [hr, first_t (decide_eq_true d)]
        · refine Ok.e d ?_
          rw [first_f (by unfold hereP; simp [d])] at hr
          unfold f_X12_comesTo_j54_22
          exact hday.b fun ν2 hv => Ok.c (by omega) ⟨nI_1 _, hS.trans hv.2, Or.inl ⟨rfl, ⟨_, hv.1⟩, hr⟩⟩
      · refine Ok.e (fun e => absurd ((nI_eq (b := 1000000) (by omega) (by decide)).mp e) (by omega)) ?_
        exact Ok.d ⟨by rw [hr]; rfl, hS⟩
  · obtain ⟨v, ν⟩ := t
    obtain ⟨rfl, hS⟩ := ht
    dsimp only at hS
    show Ok (f_X12_comesTo_j66 ν _) _
    unfold f_X12_comesTo_j66
    refine X12_bringsBack.b fun ν3 h3 => ?_
    exact Ok.r ⟨rfl, kept h1 hS (fun k hk => hk) h3⟩
end Ah
