/-! CARRY: both -/
def plcQ (B : Nat → Nat) : Nat → Bool
  | 0 => true
  | t + 1 => plcQ B t && decide (B t < 20)
theorem plcQ_f {B : Nat → Nat} {t : Nat} (h : plcQ B t = false) : ∀ d, plcQ B (t + d) = false
  | 0 => h
  | d + 1 => by show (plcQ B (t + d) && _) = false; rw [plcQ_f h d]; rfl
theorem plcQ_t {B : Nat → Nat} : ∀ {m i : Nat}, plcQ B m = true → i < m → B i < 20
  | 0, _, _, h => absurd h (by omega)
  | m + 1, i, h, hi => by
    have h' : (plcQ B m && decide (B m < 20)) = true := h
    rw [Bool.and_eq_true] at h'
    by_cases e : i = m
    · subst e; exact of_decide_eq_true h'.2
    · exact plcQ_t h'.1 (by omega)
def carT (n : Nat) (B : Nat → Nat) (c : Nat) : Bool := decide (c = n) && plcQ B c
theorem np_20 : ∀ b, b < 256 → outb (sb b) 0 19 = !decide (b < 20) := by decide +kernel
def ansC (D : Nat → Nat → Nat) (n : Nat) (p1 : Int32) : Int32 := if lstA D n n 0 < 1000000 then (if p1 = -1 then nI (lstA D n n 0) else nI (takS D n (p1.toNatClampNeg + 1)).2) else -1
theorem out_ok {p n : Nat} (h : p < n) (hn : n < 2 ^ 30) : outb (nI p) 0 (nI n - 1) = false := by
  unfold outb
  rw [if_neg (nI_pos (by omega)), show nI n - 1 = nI (n - 1) from pk_sub (b := 1) (by omega), if_pos (nI_le (by omega) (by omega))]
section Ck
variable {n c : Nat} {f : Int32} {μ : Mem} {L : Ld} {T : Tx} {a : Nat} {D : Nat → Nat → Nat} {B : Nat → Nat}
theorem X11_tellsPlaces (h : CL n f μ 3 L) (hc : c ≤ 400) (hb : ∀ i, B i < 256) (hB : ∀ i, i < c → μ 2 i = nI (B i)) : f_X11_tellsPlaces μ (nI c) = some (carT n B c) := by
  have hn := h.n6
  unfold f_X11_tellsPlaces carT
  rw [h.ppl]
  by_cases e : c = n
  · subst e
    refine it rfl ?_
    rw [decide_eq_true rfl, Bool.true_and]
    unfold f_X11_tellsPlaces_l15
    have key : Ok (Option.bind (loopN 10000 (fun z : Int32 => f_X11_tellsPlaces_b15 μ (nI c) z) 0) fun t : (Unit ⊕ Bool) => Sum.elim (fun e => f_X11_tellsPlaces_j42 μ) (fun x => some x) t) (fun b => b = plcQ B c) := by
      refine Ok.loop (fun j z => z = nI j ∧ plcQ B j = true) (fun r => (r = Sum.inl () ∧ plcQ B c = true) ∨ (r = Sum.inr false ∧ plcQ B c = false)) c (by omega) ⟨rfl, rfl⟩ (fun j z hj hI => ?_) (fun r hr => ?_)
      · obtain ⟨rfl, hI⟩ := hI
        show Ok (f_X11_tellsPlaces_b15 μ (nI c) (nI j)) _
        unfold f_X11_tellsPlaces_b15
        by_cases hc2 : j = c
        · subst hc2
          exact Ok.t (nI_le (Nat.le_refl _) (by omega)) (Ok.d (Or.inl ⟨rfl, hI⟩))
        · have hbj := hb j
          have hnx : plcQ B (j + 1) = (plcQ B j && decide (B j < 20)) := rfl
          refine Ok.e (nI_ge (by omega) (by omega)) (Ok.s (a := nI (B j)) (by rw [rd_nI (by omega) (by decide), hB j (by omega)]) ?_)
          by_cases d : B j < 20
          · exact Ok.t (nI_lt (b := 20) d (by decide)) (Ok.c (by omega) ⟨nI_1 _, by rw [hnx, hI, decide_eq_true d]; rfl⟩)
          · refine Ok.e (nI_nlt (b := 20) (by omega) (by omega)) (Ok.d (Or.inr ⟨rfl, ?_⟩))
            have := plcQ_f (B := B) (t := j + 1) (by rw [hnx, decide_eq_false d, Bool.and_false]) (c - (j + 1))
            rwa [show j + 1 + (c - (j + 1)) = c by omega] at this
      · rcases hr with ⟨rfl, e⟩ | ⟨rfl, e⟩
        · exact Ok.r e.symm
        · exact Ok.r e.symm
    obtain ⟨b, e1, e2⟩ := key
    rw [e2] at e1
    exact e1
  · refine ie (fun q => e ((nI_eq (by omega) (by omega)).mp q)) ?_
    rw [decide_eq_false e]; rfl
theorem carC (h : St n f L T μ) (hc : c ≤ 400) (hb : ∀ i, B i < 256) (hB : ∀ i, i < c → μ 2 i = nI (B i)) {p1 : Int32} (hp : p1 = -1 ∨ ∃ p, p < n ∧ p1 = nI p) {E : Mem → Prop} (hE : ∀ ν, Fr scC μ ν → ν 1 = μ 1 → E ν) : Ok (f_X11_carry_j18 μ p1 (nI c)) (XR (if carT n B c = true then 0 else 1) (ansC (cstA T n L B) n p1) E) := by
  have hn := h.n6
  unfold f_X11_carry_j18
  refine Ok.s (X11_tellsPlaces h.c hc hb hB) ?_
  cases ht : carT n B c with
  | false =>
    refine Ok.e fnt ?_
    exact XR.no (by decide) (hE μ Fr.refl rfl)
  | true =>
    refine Ok.t rfl ?_
    rw [if_pos rfl]
    unfold carT at ht
    rw [Bool.and_eq_true] at ht
    obtain rfl : c = n := of_decide_eq_true ht.1
    refine X11_tell h (fun i hi => ⟨hB i hi, by have := plcQ_t ht.2 hi; omega⟩) p1 (fun ν hN hF => ?_)
    have hS := h.sy hF
    have hd : ∀ p k, cstA T c L B p k ≤ 1000000 := fun p k => cst_le
    generalize cstA T c L B = D at hN hd ⊢
    unfold f_X11_carry_j102
    rw [hS.c.ppl]
    refine (X9_weigh hn hN hd).b fun ν2 h2 => ?_
    obtain ⟨g1, g2, g3⟩ := h2
    have hl0 := lst_le (D := D) (n := c) c 0
    have r0 : rd ν2 261 64 0 = some (nI (lstA D c c 0)) := by
      have := g2 0 (Nat.le_refl _) (Nat.pow_pos (by decide))
      rw [pc_0, Nat.sub_zero] at this
      rw [rd_k (k := 0) 0 rfl (by decide) (by decide), this]
    have hN2 : ND ν2 c D := fun p hp k hk => by rw [g3 260 (by decide)]; exact hN p hp k hk
    have hfin : E ν2 := hE ν2 ((hF.mono fun k hk => (by unfold sY sD sA s5 at hk; unfold scC; omega : scC k)).trans (g3.mono fun k hk => by unfold scC; omega)) (by rw [g3 1 (by decide), hF 1 (by unfold sY sD sA s5; omega)])
    unfold f_X11_carry_j139
    rcases hp with rfl | ⟨p, hp, rfl⟩
    · refine Ok.t rfl ?_
      unfold f_X9_leastOfAll f_X9_leastOfAll_j21
      by_cases e : lstA D c c 0 < 1000000
      · refine Ok.s (a := nI (lstA D c c 0)) (bs r0 (it (show nI (lstA D c c 0) < nI 1000000 from nI_lt e (by decide)) (bs r0 rfl))) (XR.yes ?_ hfin)
        unfold ansC
        rw [if_pos e, if_pos rfl]
      · refine Ok.s (a := -1) (bs r0 (ie (show ¬ nI (lstA D c c 0) < nI 1000000 from nI_nlt (by omega) (by omega)) rfl)) (XR.yes ?_ hfin)
        unfold ansC
        rw [if_neg e]
    · refine Ok.e (nI_nm1 (by omega)) ?_
      by_cases e : lstA D c c 0 < 1000000
      · refine Ok.s (X9_partOf hn hN2 g1 g2 hd e hp) (XR.yes ?_ hfin)
        unfold ansC
        rw [if_pos e, if_neg (nI_nm1 (by omega)), nI_clamp (by omega)]
      · refine Ok.s (a := -1) (by unfold f_X9_partOf; exact bs r0 (ie (show ¬ nI (lstA D c c 0) < nI 1000000 from nI_nlt (by omega) (by omega)) rfl)) (XR.yes ?_ hfin)
        unfold ansC
        rw [if_neg e]
/-- the model's way through its table -/
theorem X12_part (hn : n ≤ 6) (hM : NM μ n D) (hl : LQ μ n D 0) (hd : ∀ p k, D p k ≤ 1000000) (h0 : lstA D n n 0 < 1000000) {p : Nat} (hp : p < n) : f_X12_carry_l144 μ (nI p) 0 0 0 = some (nI (takS D n (p + 1)).2, μ) := by
  have hp64 : 2 ^ n ≤ 64 := Nat.pow_le_pow_right (by decide) hn
  unfold f_X12_carry_l144
  have key : Ok (Option.bind (loopN 10000 (fun z : (Int32 × Int32 × Int32) => f_X12_carry_b144 μ (nI p) z.1 z.2.1 z.2.2) (0, 0, 0)) fun t : Int32 => f_X12_carry_j200 μ t) (fun v => v = (nI (takS D n (p + 1)).2, μ)) := by
    refine Ok.loop (fun j z => z.1 = nI (takS D n j).1 ∧ z.2.1 = nI (takS D n j).2 ∧ z.2.2 = nI j) (fun t => t = nI (takS D n (p + 1)).2) (p + 1) (by omega) ⟨rfl, rfl, rfl⟩ (fun j z hj hI => ?_) (fun t ht => by rw [ht]; exact Ok.r rfl)
    obtain ⟨x, y, w⟩ := z
    obtain ⟨e1, e2, e3⟩ := hI
    dsimp only at e1 e2 e3
    subst e1 e2 e3
    show Ok (f_X12_carry_b144 μ (nI p) (nI _) (nI _) (nI j)) _
    unfold f_X12_carry_b144
    by_cases hc : j = p + 1
    · subst hc
      exact Ok.t (nI_lt (by omega) (by omega)) (Ok.d rfl)
    · have hjn : j < n := by omega
      obtain ⟨s1, s2, s3⟩ := takS_ok hn h0 j (by omega)
      obtain ⟨k1, k2, k3⟩ := tak_ok hjn s3
      refine Ok.e (nI_nlt (by omega) (by omega)) ?_
      unfold f_X12_carry_l153
      refine Ok.loop (fun i z => z = nI i ∧ i ≤ takK D n j (takS D n j).1) (fun r => r = nI (takK D n j (takS D n j).1)) (takK D n j (takS D n j).1) (by omega) ⟨rfl, Nat.zero_le _⟩ (fun i z hi hI => ?_) (fun r hr => ?_)
      · obtain ⟨rfl, -⟩ := hI
        show Ok (f_X12_carry_b153 μ (nI p) (nI _) (nI i) (nI j)) _
        generalize ht : (takS D n j).1 = t at s1 s2 s3 k1 k2 k3 hi ⊢
        unfold f_X12_carry_b153 f_X12_carry_j181_153
        have hin : i < n := by omega
        have nx : i < takK D n j t → nI i + 1 = nI (i + 1) ∧ i + 1 ≤ takK D n j t := fun w => ⟨nI_1 _, by omega⟩
        refine Ok.s (X12_has (by omega)) ?_
        rw [bt_tb (by omega)]
        by_cases hb : t.testBit i = true
        · have w : i < takK D n j t := by
            rcases Nat.lt_or_ge i (takK D n j t) with w | w
            · exact w
            · obtain rfl : i = takK D n j t := by omega
              exact absurd hb (takQ_iff.mp k2).1
          exact Ok.t hb (Ok.c w (nx w))
        · refine Ok.e hb (Ok.s (X12_leastBy hn hM hd (fun p h1 h2 t ht => hl p (by omega) h2 t ht) hjn hin (by omega)) (Ok.s (X12_leastOf hn hl (Nat.zero_le _) (by omega) (by omega)) ?_))
          have l2 := hd j i
          have l3 := lst_le (D := D) (n := n) (n - (j + 1)) (t ||| 2 ^ i)
          by_cases e : i = takK D n j t
          · have hq := takQ_iff.mp k2
            rw [← e] at hq
            refine Ok.t ?_ (Ok.d (by rw [e]))
            rw [hq.2, Nat.min_eq_right (by omega)]
          · have w : i < takK D n j t := by omega
            refine Ok.e (fun q => ?_) (Ok.c w (nx w))
            refine k3 i w (takQ_iff.mpr ⟨hb, ?_⟩)
            have := (nI_eq (by omega) (by omega)).mp q
            omega
      · subst hr
        show Ok (f_X12_carry_j187_144 μ (nI p) (nI _) (nI _) (nI j)) _
        unfold f_X12_carry_j187_144
        refine Ok.c (by omega) ⟨?_, rfl, nI_1 _⟩
        dsimp only
        rw [or_pw (by omega)]
        rfl
  obtain ⟨v, e1, e2⟩ := key
  rw [e2] at e1
  exact e1
theorem carM (h : ML n f (μ 265) L) (hw : WF n L) (hT : LM (μ 265) T) (hW : WT T) (hc : c ≤ 400) (hb : ∀ i, B i < 256) (he : μ 264 11 = nI c) (h0 : μ 264 0 = 0) (hB : ∀ i, i < c → μ 270 i = sb (B i)) {p1 : Int32} (hp : p1 = -1 ∨ ∃ p, p < n ∧ p1 = nI p) : Ok (f_X12_carry_l51 μ p1 (if (μ 264 11) = nI n then (true : Bool) else false) 0) (fun q => q.2 264 0 = (if carT n B c = true then 0 else 2) ∧ (carT n B c = true → q.1 = ansC (cstA T n L B) n p1) ∧ Fr scM μ q.2 ∧ ∀ i, i ≠ 0 → q.2 264 i = μ 264 i) := by
  have hn := h.n6
  rw [he]
  have ei : (if nI c = nI n then (true : Bool) else false) = decide (c = n) := by
    by_cases e : c = n
    · rw [if_pos (by rw [e]), decide_eq_true e]
    · rw [if_neg (fun q => e ((nI_eq (by omega) (by omega)).mp q)), decide_eq_false e]
  rw [ei]
  unfold f_X12_carry_l51
  have fin : ∀ t : Bool, t = carT n B c → Ok (f_X12_carry_j87 μ p1 t) (fun q => q.2 264 0 = (if carT n B c = true then 0 else 2) ∧ (carT n B c = true → q.1 = ansC (cstA T n L B) n p1) ∧ Fr scM μ q.2 ∧ ∀ i, i ≠ 0 → q.2 264 i = μ 264 i) := by
    intro t ht
    subst ht
    unfold f_X12_carry_j87
    cases ht : carT n B c with
    | false =>
      refine Ok.s (X12_thrT 2) (Ok.t rfl (Ok.r ⟨(show mset μ 264 0 2 264 0 = 2 from mset_at), fun q => (by cases q), Fr.set (by unfold scM; omega), fun i hi => (show mset μ 264 0 2 264 i = μ 264 i from mset_atn hi)⟩))
    | true =>
      unfold carT at ht
      rw [Bool.and_eq_true] at ht
      obtain rfl : c = n := of_decide_eq_true ht.1
      have hB' : ∀ i, i < c → μ 270 i = nI (B i) ∧ B i ≤ 19 := fun i hi => by
        have := plcQ_t ht.2 hi
        exact ⟨by rw [hB i hi, sb_lt _ (by omega)], by omega⟩
      refine Ok.s (X12_thrF 2) (Ok.e fnt ((X12_lays h hw hT hW hB').b fun ν hν => ?_))
      obtain ⟨g1, g2, g3⟩ := hν
      have hd : ∀ p k, cstA T c L B p k ≤ 1000000 := fun p k => cst_le
      generalize cstA T c L B = D at g1 g2 hd ⊢
      have hl0 := lst_le (D := D) (n := c) c 0
      have r0 : f_X12_leastOf ν 0 0 = some (nI (lstA D c c 0)) := X12_leastOf (p := 0) (t := 0) hn g2 (Nat.le_refl _) (Nat.zero_le _) (by decide)
      have e64 : ν 264 = μ 264 := g3 264 (by unfold sZ; decide)
      have hF : Fr scM μ ν := g3.mono fun k hk => by unfold sZ at hk; unfold scM; omega
      have c0 : ν 264 0 = 0 := by rw [e64]; exact h0
      have ck : ∀ i, i ≠ 0 → ν 264 i = μ 264 i := fun i _ => by rw [e64]
      refine Ok.s r0 ?_
      by_cases e : lstA D c c 0 < 1000000
      · refine Ok.t (show nI (lstA D c c 0) < nI 1000000 from nI_lt e (by decide)) ?_
        rcases hp with rfl | ⟨p, hp, rfl⟩
        · refine Ok.t rfl (Ok.s r0 (Ok.r ⟨c0, fun _ => ?_, hF, ck⟩))
          unfold ansC
          rw [if_pos e, if_pos rfl]
        · refine Ok.e (nI_nm1 (by omega)) (Ok.of (X12_part hn g1 g2 hd e hp) ⟨c0, fun _ => ?_, hF, ck⟩)
          unfold ansC
          rw [if_pos e, if_neg (nI_nm1 (by omega)), nI_clamp (by omega)]
      · refine Ok.e (show ¬ nI (lstA D c c 0) < nI 1000000 from nI_nlt (by omega) (by omega)) (Ok.r ⟨c0, fun _ => ?_, hF, ck⟩)
        unfold ansC
        rw [if_neg e]
  by_cases ec : c = n
  · subst ec
    rw [decide_eq_true rfl]
    have ect : carT c B c = plcQ B c := by unfold carT; rw [decide_eq_true rfl, Bool.true_and]
    refine Ok.loop (fun j z => z.1 = plcQ B j ∧ z.2 = nI j) (fun t => t = carT c B c) c (by omega) ⟨rfl, rfl⟩ (fun j z hj hI => ?_) fin
    obtain ⟨x, y⟩ := z
    obtain ⟨e1, e2⟩ := hI
    dsimp only at e1 e2
    subst e1 e2
    show Ok (f_X12_carry_b51 μ p1 (plcQ B j) (nI j)) _
    unfold f_X12_carry_b51
    rw [he]
    by_cases hc2 : j = c
    · subst hc2
      exact Ok.t (nI_le (Nat.le_refl _) (by omega)) (Ok.d ect.symm)
    · have hnx : plcQ B (j + 1) = (plcQ B j && decide (B j < 20)) := rfl
      refine Ok.e (nI_ge (by omega) (by omega)) ?_
      cases hq : plcQ B j with
      | false =>
        refine Ok.e fnt (Ok.d ?_)
        have := plcQ_f hq (c - j)
        rw [show j + (c - j) = c by omega] at this
        rw [ect, this]
      | true =>
        refine Ok.t rfl (Ok.s (a := sb (B j)) (by rw [rd_nI (by omega) (by decide), hB j (by omega)]) (Ok.s (X12_noPlace _) (Ok.c (by omega) ⟨?_, nI_1 _⟩)))
        dsimp only
        rw [np_20 _ (hb j), hnx, hq, Bool.true_and]
        cases decide (B j < 20) <;> rfl
  · rw [decide_eq_false ec]
    have ect : carT n B c = false := by unfold carT; rw [decide_eq_false ec]; rfl
    refine Ok.loop (fun j z => z.1 = false ∧ z.2 = nI j) (fun t => t = carT n B c) 0 (by decide) ⟨rfl, rfl⟩ (fun j z hj hI => ?_) fin
    obtain ⟨x, y⟩ := z
    obtain ⟨e1, e2⟩ := hI
    dsimp only at e1 e2
    subst e1 e2
    show Ok (f_X12_carry_b51 μ p1 false (nI j)) _
    unfold f_X12_carry_b51
    rw [he]
    by_cases d : nI c ≤ nI j
    · exact Ok.t d (Ok.d ect.symm)
    · exact Ok.e d (Ok.e fnt (Ok.d ect.symm))
theorem q_carry (h : St n f L T μ) (hc : c ≤ 400) (hb : ∀ i, B i < 256) (hC : TpC μ c B) (hM : TpM μ c B) (p1 : Int32) : AgU μ (f_L_carry μ p1) (fun ν => f_X12_carry ν p1) := by
  have hn := h.n6
  have k0 : KU μ (mset μ 1 1 0) := ku0
  have h0 := h.ku k0
  have hP : ∀ (ν : Mem) (x : Int32), KU μ ν → KU μ (mset ν 275 0 x) := fun ν x hk => hk.to (Fr.set (by unfold scC; omega)) (mset_ne (by decide))
  have hE : ∀ ν, Fr scC (mset μ 1 1 0) ν → ν 1 = mset μ 1 1 0 1 → KU μ ν := fun ν h1 h2 => k0.to h1 h2
  have hB1 : ∀ i, i < c → mset μ 1 1 0 2 i = nI (B i) := fun i hi => by rw [mset_ne (by decide)]; exact hC.2 i hi
  have lmk : ∀ {ν : Mem}, KU μ ν → LM (usesM ν 265) T := fun {ν} hk => by rw [uses_o (by decide)]; exact (h.ku hk).lm
  -- the two halves where the argument is right
  have clR : (p1 = -1 ∨ ∃ p, p < n ∧ p1 = nI p) → Ok (f_X11_carry μ p1) (XR (if carT n B c = true then 0 else 1) (ansC (cstA T n L B) n p1) (KU μ)) := fun hp => by
    have main := carC h0 hc hb hB1 hp hE
    unfold f_X11_carry
    refine Ok.s (ku_use hC.1) ?_
    rcases hp with rfl | ⟨p, hp, rfl⟩
    · exact Ok.t rfl main
    · refine Ok.e (nI_nm1 (by omega)) (Ok.s (X11_needPerson h0.c _) ?_)
      rw [if_neg (by rw [out_ok hp (by omega)]; decide)]
      exact elimR' main
  have mdR : (p1 = -1 ∨ ∃ p, p < n ∧ p1 = nI p) → ∀ ν, KU μ ν → Ok (f_X12_carry ν p1) (MR ν (if carT n B c = true then 0 else 2) (ansC (cstA T n L B) n p1) (KMU ν)) := fun hp ν hk => by
    obtain ⟨m1, m2, m3⟩ := half_u h hM hk
    have main := carM m1 h.w (lmk hk) h.wt hc hb m2 uses_0 m3 hp
    have wrap : ∀ q : Int32 × Mem, (q.2 264 0 = (if carT n B c = true then 0 else 2) ∧ (carT n B c = true → q.1 = ansC (cstA T n L B) n p1) ∧ Fr scM (usesM ν) q.2 ∧ ∀ i, i ≠ 0 → q.2 264 i = usesM ν 264 i) → MR ν (if carT n B c = true then 0 else 2) (ansC (cstA T n L B) n p1) (KMU ν) q := fun q hq => by
      obtain ⟨q1, q2, q3, q4⟩ := hq
      refine ⟨q1, fun e => q2 ?_, ?_, ?_⟩
      · cases ht : carT n B c with
        | true => rfl
        | false => rw [ht] at e; exact absurd e (by decide)
      · rw [q3 275 (by unfold scM; omega), uses_o (by decide)]
      · have ku := kmu_uses (ν := ν)
        exact ⟨ku.1.trans q3, fun i hi => (q4 i (by omega)).trans (ku.2.1 i hi), (q4 9 (by decide)).trans ku.2.2⟩
    unfold f_X12_carry
    refine Ok.s X12_uses ?_
    rcases hp with rfl | ⟨p, hp, rfl⟩
    · refine Ok.t rfl ?_
      unfold f_X12_carry_j22 f_X12_carry_j23
      exact Ok.s (X12_thrF 1) (Ok.e fnt (Ok.s (X12_people m1) (main.w wrap)))
    · refine Ok.e (nI_nm1 (by omega)) (Ok.s (X12_noPerson m1 _) ?_)
      rw [out_ok hp (by omega)]
      exact Ok.s (X12_thrF 1) (Ok.e fnt (Ok.s (X12_people m1) (main.w wrap)))
  have both : (p1 = -1 ∨ ∃ p, p < n ∧ p1 = nI p) → AgU μ (f_L_carry μ p1) (fun ν => f_X12_carry ν p1) := fun hp =>
    ⟨if carT n B c = true then 0 else 2, ansC (cstA T n L B) n p1, wrapG2 (k := if carT n B c = true then 0 else 1) (by split <;> omega) (by cases carT n B c <;> rfl) hP (clR hp), mdR hp⟩
  by_cases em : p1 = -1
  · exact both (Or.inl em)
  · by_cases b1 : outb p1 0 (nI n - 1) = true
    · refine ⟨1, 0, wrapG2 (k := 2) (by decide) rfl hP ?_, fun ν hk => ?_⟩
      · unfold f_X11_carry
        refine Ok.s (ku_use hC.1) (Ok.e em (Ok.s (X11_needPerson h0.c _) ?_))
        rw [if_pos b1]
        exact elimL' (XR.no (by decide) k0)
      · obtain ⟨m1, m2, m3⟩ := half_u h hM hk
        unfold f_X12_carry
        refine Ok.s X12_uses (Ok.e em (Ok.s (X12_noPerson m1 _) ?_))
        rw [b1]
        exact Ok.s (X12_thrT 1) (Ok.t rfl (mruI (show mset (usesM ν) 264 0 1 264 0 = 1 from mset_at) (fun q => absurd q (by decide)) (kmu_thr kmu_uses)))
    · have b1' : outb p1 0 (nI n - 1) = false := by simpa using b1
      obtain ⟨p, hp, e⟩ := outb_ix (by omega) b1'
      exact both (Or.inr ⟨p, hp, e⟩)
end Ck
