/-! WHO OWES WHOM -/
section Ow
variable {n : Nat} {f : Int32} {μ : Mem} {L : Ld} {T : Tx} {a : Nat}
def MB (ν : Mem) (c : Int32) (v : Bool) (E : Mem → Prop) (q : Bool × Mem) : Prop := q.2 264 0 = c ∧ (c = 0 → q.1 = v) ∧ q.2 275 = ν 275 ∧ E q.2
theorem mbT {ν : Mem} {c : Int32} {v w : Bool} (hc : c ≠ 0) : Ok (some (w, mset (mset ν 264 0 0) 264 0 c)) (MB ν c v (KM ν)) := ⟨_, rfl, (show mset (mset ν 264 0 0) 264 0 c 264 0 = c from mset_at), fun q => absurd q hc, (show mset (mset ν 264 0 0) 264 0 c 275 = ν 275 from t275.trans t275), (show KM ν (mset (mset ν 264 0 0) 264 0 c) from KM.thr.trans KM.thr)⟩
theorem mbV {ν : Mem} {v w : Bool} (e : w = v) : Ok (some (w, mset ν 264 0 0)) (MB ν 0 v (KM ν)) := ⟨_, rfl, (show mset ν 264 0 0 264 0 = 0 from mset_at), fun _ => e, (show mset ν 264 0 0 275 = ν 275 from t275), (show KM ν (mset ν 264 0 0) from KM.thr)⟩
def XB (k : Nat) (v : Bool) (R : Mem → Prop) (r : (Nat × Mem) ⊕ (Bool × Mem)) : Prop := match r with
  | .inl e => e.1 = k ∧ k ≠ 0 ∧ R e.2
  | .inr q => k = 0 ∧ q.1 = v ∧ R q.2
theorem wrapB {k : Nat} {v : Bool} {c : Int32} (ha : k = 0 ∨ k = 2 ∨ k = 1) (hc : c = if k = 0 then 0 else if k = 2 then 1 else 2) {p1 p2 : Int32} (h : Ok (f_X11_owes μ p1 p2) (XB k v (KC μ))) : Ok (f_L_owes μ p1 p2) (CR c (b2i v) (KC μ)) := by
  subst hc
  unfold f_L_owes
  refine h.b fun r hr => ?_
  cases r with
  | inl e =>
    obtain ⟨e1, e2⟩ := e
    obtain ⟨rfl, hk2, hR⟩ := hr
    dsimp only at hk2 hR
    refine elimL' ?_
    rcases ha with rfl | rfl | rfl
    · exact absurd rfl hk2
    · exact Ok.t rfl (Ok.r (P := CR 1 (b2i v) (KC μ)) ⟨rfl, fun w => absurd w (by decide), hR⟩)
    · exact Ok.e (show ¬ 1 = 2 by decide) (Ok.t rfl (Ok.r (P := CR 2 (b2i v) (KC μ)) ⟨rfl, fun w => absurd w (by decide), hR⟩))
  | inr q =>
    obtain ⟨x, ν⟩ := q
    obtain ⟨rfl, rfl, hR⟩ := hr
    dsimp only at hR
    refine elimR' ?_
    unfold f_L_owes_j16
    have hK : ∀ y, KC μ (mset ν 275 0 y) := fun y => hR.put (by unfold scC; omega)
    cases x with
    | true => exact Ok.t rfl (Ok.s (wr_k 0 rfl (by decide) (by decide)) (Ok.r ⟨rfl, fun _ => (show mset ν 275 0 1 275 0 = 1 from mset_at), hK _⟩))
    | false => exact Ok.e fnt (Ok.s (wr_k 0 rfl (by decide) (by decide)) (Ok.r ⟨rfl, fun _ => (show mset ν 275 0 0 275 0 = 0 from mset_at), hK _⟩))
theorem q_owes (h : St n f L T μ) (p1 p2 : Int32) : ∃ (c : Int32) (v : Bool), Ok (f_L_owes μ p1 p2) (CR c (b2i v) (KC μ)) ∧ ∀ ν, KC μ ν → Ok (f_X12_owes ν p1 p2) (MB ν c v (KM ν)) := by
  have hn := h.n6
  by_cases b1 : outb p1 0 (nI n - 1) = true
  · refine ⟨1, false, wrapB (k := 2) (by decide) rfl ?_, fun ν hk => ?_⟩
    · unfold f_X11_owes
      refine Ok.s (X11_needPerson h.c p1) ?_
      rw [if_pos b1]
      exact elimL' ⟨_, rfl, rfl, by decide, KC.refl⟩
    · have m0 := h.m0 hk
      unfold f_X12_owes
      refine Ok.s (X12_noPerson m0.m p1) ?_
      rw [b1]
      refine Ok.t rfl ?_
      unfold f_X12_owes_j22 f_X12_owes_j27
      exact Ok.s (X12_thrT 1) (Ok.t rfl (mbT (by decide)))
  · have b1' : outb p1 0 (nI n - 1) = false := by simpa using b1
    obtain ⟨p, hp, rfl⟩ := outb_ix (by omega) b1'
    by_cases b2 : outb p2 0 (nI n - 1) = true
    · refine ⟨1, false, wrapB (k := 2) (by decide) rfl ?_, fun ν hk => ?_⟩
      · unfold f_X11_owes
        refine Ok.s (X11_needPerson h.c _) ?_
        rw [if_neg b1]
        refine elimR' (Ok.s (X11_needPerson h.c p2) ?_)
        rw [if_pos b2]
        exact elimL' ⟨_, rfl, rfl, by decide, KC.refl⟩
      · have m0 := h.m0 hk
        unfold f_X12_owes
        refine Ok.s (X12_noPerson m0.m _) ?_
        rw [b1']
        refine Ok.e fnt (Ok.s (X12_noPerson m0.m p2) ?_)
        rw [b2]
        exact Ok.s (X12_thrT 1) (Ok.t rfl (mbT (by decide)))
    · have b2' : outb p2 0 (nI n - 1) = false := by simpa using b2
      obtain ⟨q, hq, rfl⟩ := outb_ix (by omega) b2'
      by_cases c : nI p = nI q
      · refine ⟨2, false, wrapB (k := 1) (by decide) rfl ?_, fun ν hk => ?_⟩
        · unfold f_X11_owes
          refine Ok.s (X11_needPerson h.c _) ?_
          rw [if_neg b1]
          refine elimR' (Ok.s (X11_needPerson h.c _) ?_)
          rw [if_neg b2]
          exact elimR' (Ok.t c ⟨_, rfl, rfl, by decide, KC.refl⟩)
        · have m0 := h.m0 hk
          unfold f_X12_owes
          refine Ok.s (X12_noPerson m0.m _) ?_
          rw [b1']
          refine Ok.e fnt (Ok.s (X12_noPerson m0.m _) ?_)
          rw [b2']
          refine Ok.s (X12_thrF 1) (Ok.e fnt ?_)
          rw [if_pos c]
          exact Ok.s (X12_thrT 2) (Ok.t rfl (mbT (by decide)))
      · refine ⟨0, bt (leadA n L p) q, wrapB (k := 0) (by decide) rfl ?_, fun ν hk => ?_⟩
        · unfold f_X11_owes
          refine Ok.s (X11_needPerson h.c _) ?_
          rw [if_neg b1]
          refine elimR' (Ok.s (X11_needPerson h.c _) ?_)
          rw [if_neg b2]
          refine elimR' (Ok.e c (Ok.s (X2_creditorsOf h.c hp) (Ok.s (X11_hasBit (by omega)) ?_)))
          exact ⟨_, rfl, rfl, rfl, KC.refl⟩
        · have m0 := h.m0 hk
          unfold f_X12_owes
          refine Ok.s (X12_noPerson m0.m _) ?_
          rw [b1']
          refine Ok.e fnt (Ok.s (X12_noPerson m0.m _) ?_)
          rw [b2']
          refine Ok.s (X12_thrF 1) (Ok.e fnt ?_)
          rw [if_neg c]
          refine Ok.s (X12_thrF 2) (Ok.e fnt (Ok.s (X12_leadsFrom m0.m m0.w hp) (Ok.s (X12_has (by omega)) ?_)))
          rw [bite]
          exact mbV rfl
end Ow
/-! THE TAPE, AND WHO WEARS -/
def sb (b : Nat) : Int32 := if b < 128 then nI b else nI b - nI 256
def TpC (μ : Mem) (c : Nat) (B : Nat → Nat) : Prop := μ 1 1 = nI c ∧ ∀ i, i < c → μ 2 i = nI (B i)
def TpM (μ : Mem) (c : Nat) (B : Nat → Nat) : Prop := μ 264 9 = nI c ∧ ∀ i, i < c → μ 270 i = sb (B i)
theorem np_b : ∀ n, n < 7 → ∀ b, b < 256 → outb (sb b) 0 (nI n - 1) = !decide (b < n) := by decide +kernel
theorem sb_lt : ∀ b, b < 128 → sb b = nI b := fun b h => if_pos h
theorem sb_255 : ∀ b, b < 256 → sb b &&& 255 = nI b := by decide +kernel
def okT (n : Nat) (B : Nat → Nat) (t : Nat) : Bool := decide (B (3 * t) ≤ B (3 * t + 1)) && decide (B (3 * t + 1) < n)
def toldQ (n : Nat) (B : Nat → Nat) : Nat → Bool
  | 0 => true
  | t + 1 => toldQ n B t && okT n B t
theorem toldQ_f {n : Nat} {B : Nat → Nat} {t : Nat} (h : toldQ n B t = false) : ∀ d, toldQ n B (t + d) = false
  | 0 => h
  | d + 1 => by show (toldQ n B (t + d) && _) = false; rw [toldQ_f h d]; rfl
theorem toldQ_t {n : Nat} {B : Nat → Nat} : ∀ {m t : Nat}, toldQ n B m = true → t < m → okT n B t = true
  | 0, _, _, h => absurd h (by omega)
  | m + 1, t, h, ht => by
    have h' : (toldQ n B m && okT n B m) = true := h
    rw [Bool.and_eq_true] at h'
    by_cases e : t = m
    · subst e; exact h'.2
    · exact toldQ_t h'.1 (by omega)
def toldA (n : Nat) (B : Nat → Nat) (c : Nat) : Bool := decide (c ≤ 36) && decide (c % 3 = 0) && toldQ n B (c / 3)
section We
variable {n c : Nat} {f : Int32} {μ : Mem} {L : Ld} {T : Tx} {B : Nat → Nat}
theorem X10_areTold (hn : n ≤ 6) (hc : c ≤ 400) (hB : ∀ i, i < c → μ 2 i = nI (B i)) (hb : ∀ i, B i < 256) : f_X10_areTold μ (nI c) (nI n) = some (toldA n B c) := by
  unfold f_X10_areTold toldA
  by_cases c1 : c ≤ 36
  · refine ie (nI_nlt (a := 36) c1 (by decide)) (bs (rm9_nI (d := 3) rfl (by omega) (by decide) (by decide)) ?_)
    rw [decide_eq_true c1]
    by_cases c2 : c % 3 = 0
    · refine it (by rw [c2]; rfl) ?_
      rw [decide_eq_true c2]
      unfold f_X10_areTold_l16
      have key : Ok (Option.bind (loopN 10000 (fun z : Int32 => f_X10_areTold_b16 μ (nI c) (nI n) z) 0) fun t : (Unit ⊕ Bool) => Sum.elim (fun e => f_X10_areTold_j67 μ) (fun x => some x) t) (fun b => b = toldQ n B (c / 3)) := by
        refine Ok.loop (fun t z => z = nI (3 * t) ∧ toldQ n B t = true) (fun r => (r = Sum.inl () ∧ toldQ n B (c / 3) = true) ∨ (r = Sum.inr false ∧ toldQ n B (c / 3) = false)) (c / 3) (by omega) ⟨rfl, rfl⟩ (fun t z ht hI => ?_) (fun r hr => ?_)
        · obtain ⟨rfl, hI⟩ := hI
          show Ok (f_X10_areTold_b16 μ (nI c) (nI n) (nI (3 * t))) _
          unfold f_X10_areTold_b16
          by_cases hc2 : t = c / 3
          · exact Ok.t (nI_le (by omega) (by omega)) (Ok.d (Or.inl ⟨rfl, hc2 ▸ hI⟩))
          · refine Ok.e (nI_ge (by omega) (by omega)) ?_
            have bad : okT n B t = false → toldQ n B (c / 3) = false := fun q => by
              have h1 : toldQ n B (t + 1) = false := by show (toldQ n B t && okT n B t) = false; rw [q, Bool.and_false]
              have := toldQ_f h1 (c / 3 - (t + 1))
              rwa [show t + 1 + (c / 3 - (t + 1)) = c / 3 by omega] at this
            have r0 : rd μ 2 400 (nI (3 * t)) = some (nI (B (3 * t))) := by rw [rd_nI (by omega) (by decide), hB _ (by omega)]
            have r1 : rd μ 2 400 (nI (3 * t) + 1) = some (nI (B (3 * t + 1))) := by rw [nI_1, rd_nI (by omega) (by decide), hB _ (by omega)]
            have g0 := hb (3 * t)
            have g1 := hb (3 * t + 1)
            refine Ok.s r0 (Ok.s r1 ?_)
            by_cases d1 : B (3 * t) ≤ B (3 * t + 1)
            · refine Ok.e (nI_nlt d1 (by omega)) (Ok.s r1 ?_)
              by_cases d2 : B (3 * t + 1) < n
              · refine Ok.t (nI_lt d2 (by omega)) (Ok.c (by omega) ⟨?_, ?_⟩)
                · rw [show (3 : Int32) = nI 3 from rfl, nI_add, show 3 * (t + 1) = 3 * t + 3 by omega]
                · show (toldQ n B t && okT n B t) = true
                  rw [hI]
                  unfold okT
                  rw [decide_eq_true d1, decide_eq_true d2]; rfl
              · refine Ok.e (nI_nlt (by omega) (by omega)) ?_
                unfold f_X10_areTold_j59_16
                exact Ok.d (Or.inr ⟨rfl, bad (by unfold okT; rw [decide_eq_false d2, Bool.and_false])⟩)
            · refine Ok.t (nI_lt (by omega) (by omega)) ?_
              unfold f_X10_areTold_j59_16
              exact Ok.d (Or.inr ⟨rfl, bad (by unfold okT; rw [decide_eq_false d1, Bool.false_and])⟩)
        · rcases hr with ⟨rfl, e⟩ | ⟨rfl, e⟩
          · exact Ok.r e.symm
          · exact Ok.r e.symm
      obtain ⟨b, e1, e2⟩ := key
      rw [e2] at e1
      rw [show (true && true && toldQ n B (c / 3)) = toldQ n B (c / 3) from rfl]
      exact e1
    · refine ie (fun q => c2 ((nI_eq (b := 0) (by omega) (by decide)).mp q)) ?_
      rw [decide_eq_false c2]; rfl
  · refine it (nI_lt (a := 36) (by omega) (by omega)) ?_
    rw [decide_eq_false c1]; rfl
theorem X12_isTold (h : ML n f (μ 265) L) (hc : c ≤ 400) (he : μ 264 11 = nI c) (hB : ∀ i, i < c → μ 270 i = sb (B i)) (hb : ∀ i, B i < 256) : f_X12_isTold μ = some (toldA n B c) := by
  have hn := h.n6
  unfold f_X12_isTold
  rw [he]
  refine bs (rm9_nI (d := 3) rfl (by omega) (by decide) (by decide)) ?_
  unfold f_X12_isTold_l26
  by_cases c2 : c % 3 = 0 ∧ c ≤ 36
  · rw [if_pos (by rw [c2.1]; rfl), if_neg (show ¬ (36 : Int32) < nI c from nI_nlt (a := 36) c2.2 (by decide))]
    have e9 : toldA n B c = toldQ n B (c / 3) := by unfold toldA; rw [decide_eq_true c2.1, decide_eq_true c2.2]; rfl
    rw [e9]
    have key : Ok (Option.bind (loopN 10000 (fun z : (Bool × Int32) => f_X12_isTold_b26 μ z.1 z.2) (true, 0)) fun t : Bool => f_X12_isTold_j95 μ t) (fun b => b = toldQ n B (c / 3)) := by
      refine Ok.loop (fun t z => z.2 = nI (3 * t) ∧ z.1 = toldQ n B t) (fun r => r = toldQ n B (c / 3)) (c / 3) (by omega) ⟨rfl, rfl⟩ (fun t z ht hI => ?_) (fun r hr => Ok.r hr)
      obtain ⟨b, x⟩ := z
      obtain ⟨e1, e2⟩ := hI
      dsimp only at e1 e2
      subst e1 e2
      show Ok (f_X12_isTold_b26 μ (toldQ n B t) (nI (3 * t))) _
      unfold f_X12_isTold_b26
      rw [he]
      by_cases hc2 : t = c / 3
      · exact Ok.t (nI_le (by omega) (by omega)) (Ok.d (by rw [hc2]))
      · refine Ok.e (nI_ge (by omega) (by omega)) ?_
        cases hq : toldQ n B t with
        | false =>
          refine Ok.e fnt (Ok.d ?_)
          have := toldQ_f hq (c / 3 - t)
          rw [show t + (c / 3 - t) = c / 3 by omega] at this
          exact this.symm
        | true =>
          refine Ok.t rfl ?_
          have r0 : rd μ 270 400 (nI (3 * t)) = some (sb (B (3 * t))) := by rw [rd_nI (by omega) (by decide), hB _ (by omega)]
          have r1 : rd μ 270 400 (nI (3 * t) + 1) = some (sb (B (3 * t + 1))) := by rw [nI_1, rd_nI (by omega) (by decide), hB _ (by omega)]
          have g0 := hb (3 * t)
          have g1 := hb (3 * t + 1)
          have n3 : nI (3 * t) + 3 = nI (3 * (t + 1)) := by rw [show (3 : Int32) = nI 3 from rfl, nI_add, show 3 * (t + 1) = 3 * t + 3 by omega]
          have hnx : toldQ n B (t + 1) = okT n B t := by show (toldQ n B t && okT n B t) = _; rw [hq, Bool.true_and]
          refine Ok.s r0 (Ok.s (X12_noPerson h _) ?_)
          rw [np_b n (by omega) _ g0]
          by_cases d0 : B (3 * t) < n
          · refine Ok.e (by simp [d0]) (Ok.s r1 (Ok.s (X12_noPerson h _) ?_))
            rw [np_b n (by omega) _ g1]
            by_cases d2 : B (3 * t + 1) < n
            · refine Ok.e (by simp [d2]) (Ok.s r0 (Ok.s r1 ?_))
              rw [sb_lt _ (by omega), sb_lt _ (by omega)]
              refine Ok.c (by omega) ⟨n3, ?_⟩
              dsimp only
              rw [hnx]
              unfold okT
              rw [decide_eq_true d2, Bool.and_true]
              by_cases d1 : B (3 * t) ≤ B (3 * t + 1)
              · rw [if_neg (nI_nlt d1 (by omega)), decide_eq_true d1]
              · rw [if_pos (nI_lt (by omega) (by omega)), decide_eq_false d1]
            · refine Ok.t (by simp [d2]) ?_
              unfold f_X12_isTold_j87_26 f_X12_isTold_j88_26
              refine Ok.c (by omega) ⟨n3, ?_⟩
              dsimp only
              rw [hnx]
              unfold okT
              rw [decide_eq_false d2, Bool.and_false]
          · refine Ok.t (by simp [d0]) ?_
            unfold f_X12_isTold_j87_26 f_X12_isTold_j88_26
            refine Ok.c (by omega) ⟨n3, ?_⟩
            dsimp only
            rw [hnx]
            unfold okT
            by_cases d2 : B (3 * t + 1) < n
            · rw [decide_eq_false (show ¬ B (3 * t) ≤ B (3 * t + 1) by omega), Bool.false_and]
            · rw [decide_eq_false d2, Bool.and_false]
    obtain ⟨b, e1, e2⟩ := key
    rw [e2] at e1
    exact e1
  · have e9 : toldA n B c = false := by
      unfold toldA
      by_cases d : c ≤ 36
      · rw [decide_eq_false (show ¬ c % 3 = 0 from fun q => c2 ⟨q, d⟩), Bool.and_false]; rfl
      · rw [decide_eq_false d]; rfl
    rw [e9]
    have ef : (if nI (c % 3) = 0 then ((if 36 < nI c then (false : Bool) else true) : Bool) else false) = false := by
      by_cases d : c % 3 = 0
      · rw [if_pos (by rw [d]; rfl), if_pos (show (36 : Int32) < nI c from nI_lt (a := 36) (by omega) (by omega))]
      · rw [if_neg (show ¬ nI (c % 3) = 0 from fun q => d ((nI_eq (b := 0) (by omega) (by decide)).mp q))]
    rw [ef]
    refine bind_loop (fun _ => (false, 0)) 0 false rfl (fun i hi => absurd hi (by omega)) ?_ (by decide) rfl
    show f_X12_isTold_b26 μ false 0 = _
    unfold f_X12_isTold_b26
    rw [he]
    by_cases d : nI c ≤ 0
    · exact it d rfl
    · exact ie d (ie fnt rfl)
end We
