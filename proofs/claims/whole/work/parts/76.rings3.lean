/-! RINGS AND UNTIE -/
section Rt
variable {n : Nat} {f : Int32} {μ : Mem} {L : Ld} {T : Tx} {a : Nat}
def mS (n : Nat) (L : Ld) (s : Nat) : Nat := spr (pB L) (gray s) (2 * n)
theorem mS_0 : mS n L 0 = 0 := by
  have key : ∀ k, spr (pB L) 0 k = 0 := fun k => by
    induction k with
    | zero => rfl
    | succ k ih =>
      show spr (pB L) 0 k + _ = 0
      rw [ih, Nat.zero_testBit, if_neg (fun w => by cases w.2)]
  exact key _
theorem mS_lt {s : Nat} : mS n L s < 2 ^ (2 * n) := spr_lt _
theorem mS_sub {s : Nat} : subB (pB L) (mS n L s) (2 * n) = true := spr_sub
def sR7 (k : Nat) : Prop := 256 ≤ k ∧ k ≤ 258
/-- the balances, one lace on -/
theorem bal_mv {m m' l q : Nat} (hl : l < 2 * n) (hn : n ≤ 6) (hx : nI m ^^^ (1 <<< (nI l &&& 31)) = nI m') : balS L m' q (2 * n) = balS L m q (2 * n) + (if bt (nI m') l = true then balT L q l else -balT L q l) := by
  have hb : ∀ i, i < 32 → bt (nI m') i = (bt (nI m) i ^^ decide (i = l)) := fun i hi => by
    rw [← hx, b_xor, show bt (1 <<< (nI l &&& 31)) i = decide (i = l) from pw_b (by omega) hi]
  unfold balS
  rw [osum_mv (f := fun l => if bt (nI m) l = true then balT L q l else 0) (l := l) (fun i hi => ?_) hl]
  · congr 1
    have := hb l (by omega)
    rw [decide_eq_true rfl] at this
    show (if bt (nI m') l = true then balT L q l else 0) - (if bt (nI m) l = true then balT L q l else 0) = _
    cases c : bt (nI m) l with
    | true =>
      rw [c] at this
      rw [this, if_neg (show ¬ (true ^^ true) = true by decide), if_pos rfl, if_neg (show ¬ (true ^^ true) = true by decide), Int32.sub_eq_add_neg, Int32.zero_add]
    | false =>
      rw [c] at this
      rw [this, if_pos (show (false ^^ true) = true by decide), if_neg (by decide), if_pos (show (false ^^ true) = true by decide), Int32.sub_eq_add_neg, Int32.neg_zero, Int32.add_zero]
  · show (if bt (nI m') i = true then balT L q i else 0) = (if bt (nI m) i = true then balT L q i else 0)
    rcases Nat.lt_or_ge i 32 with w | w
    · rw [hb i w, decide_eq_false hi, Bool.xor_false]
    · rw [b_big w, b_big w]
theorem balT_0 {l q h : Nat} (hl : l < 12) (hq : q < 6) (hh : h < 6) (ne : h ≠ l / 2) (e7 : L 7 l = nI h) : balT L q l = if q = h then -(L 8 l) else if q = l / 2 then L 8 l else 0 := by
  unfold balT
  rw [e7]
  by_cases c : q = h
  · subst c
    rw [if_pos rfl, if_pos rfl, if_neg (fun w => ne ((nI_eq (by omega) (by omega)).mp w).symm)]
    show L 8 l * (0 - 1) = _
    rw [show (0 : Int32) - 1 = -1 by decide, Int32.mul_neg, Int32.mul_one]
  · rw [if_neg c, if_neg (show ¬ nI h = nI q from fun w => c ((nI_eq (by omega) (by omega)).mp w).symm)]
    by_cases d : q = l / 2
    · rw [if_pos d, if_pos (by rw [d])]
      show L 8 l * (1 - 0) = _
      rw [show (1 : Int32) - 0 = 1 by decide, Int32.mul_one]
    · rw [if_neg d, if_neg (show ¬ nI (l / 2) = nI q from fun w => d ((nI_eq (by omega) (by omega)).mp w).symm)]
      show L 8 l * (0 - 0) = 0
      rw [Int32.sub_self, Int32.mul_zero]
theorem bett_tr {x m b : Nat} (h1 : bett x m) (h2 : bett m b) : bett x b := by unfold bett at h1 h2 ⊢; omega
theorem X7_seek (h : CL n f μ a L) (hw : WF n L) (ha : a ≤ 18) : Ok (f_X7_seek μ a) (fun ν => ν 256 2 = nI (nsum (rgI n L) (2 ^ (2 * n))) ∧ (∃ b, ν 256 3 = nI b ∧ Bst n L b) ∧ Fr sR7 μ ν) := by
  have hn := h.n6
  have hcl := cntN_le (P := pB L) (2 * n)
  have hp12 : 2 ^ (2 * n) ≤ 2 ^ 12 := Nat.pow_le_pow_right (by decide) (by omega)
  have hpc : 2 ^ cntN (pB L) (2 * n) ≤ 2 ^ 12 := Nat.pow_le_pow_right (by decide) (by omega)
  have hpc0 : 0 < 2 ^ cntN (pB L) (2 * n) := Nat.pow_pos (by decide)
  unfold f_X7_seek
  refine (X7_gather h ha).b fun q hq => ?_
  obtain ⟨x, μ1⟩ := q
  obtain ⟨rfl, h57, h58, hF0⟩ := hq
  dsimp only at h57 h58 hF0 ⊢
  unfold f_X7_seek_l21
  refine Ok.loop (fun j z => z.1 = nI (mS n L j) ∧ z.2.1 = nI (j + 1) ∧ Fr sR7 μ z.2.2 ∧ (∀ l, l < 2 * n → pB L l = true → z.2.2 257 (cntN (pB L) l) = nI l) ∧ (∀ q, q < 6 → z.2.2 258 q = balS L (mS n L j) q (2 * n)) ∧ z.2.2 256 2 = nI (nsum (fun s => rgI n L (mS n L s)) (j + 1)) ∧ ∃ b, z.2.2 256 3 = nI b ∧ (b = 0 ∨ (b < 2 ^ (2 * n) ∧ rgB n L b = true)) ∧ ∀ s, s ≤ j → rgB n L (mS n L s) = true → ¬ bett (mS n L s) b) (fun t => t 256 2 = nI (nsum (rgI n L) (2 ^ (2 * n))) ∧ (∃ b, t 256 3 = nI b ∧ Bst n L b) ∧ Fr sR7 μ t) (2 ^ cntN (pB L) (2 * n) - 1) (by omega) ⟨by rw [mS_0]; rfl, rfl, ?_, fun l hl hp => ?_, fun q hq => ?_, ?_, 0, ?_, Or.inl rfl, fun s hs hr => ?_⟩ (fun j z hj hI => ?_) (fun t ht => ?_)
  · exact ((hF0.mono fun k hk => (by unfold sG at hk; unfold sR7; omega : sR7 k)).put (by unfold sR7; omega)).put (by unfold sR7; omega)
  · show mset (mset μ1 256 2 0) 256 3 0 257 (cntN (pB L) l) = nI l
    rw [mset_ne (by decide), mset_ne (by decide)]
    exact h57 l hl hp
  · show mset (mset μ1 256 2 0) 256 3 0 258 q = balS L (mS n L 0) q (2 * n)
    rw [mset_ne (by decide), mset_ne (by decide), h58 q hq, mS_0]
    refine (osum_z fun l hl => ?_).symm
    rw [if_neg (by rw [show nI 0 = 0 from rfl, b_0]; decide)]
  · show mset (mset μ1 256 2 0) 256 3 0 256 2 = nI (0 + rgI n L (mS n L 0))
    rw [mset_atn (by decide), mset_at, mS_0]
    rfl
  · show mset (mset μ1 256 2 0) 256 3 0 256 3 = nI 0
    rw [mset_at]; rfl
  · have : s = 0 := by omega
    subst this
    rw [mS_0] at hr
    exact absurd rfl (rgB_iff.mp hr).1
  · obtain ⟨x, y, ν⟩ := z
    obtain ⟨e1, e2, hF, g57, g58, g2, b, g3, gb, gs⟩ := hI
    dsimp only at e1 e2 hF g57 g58 g2 g3
    subst e1 e2
    show Ok (f_X7_seek_b21 ν a (nI _) (nI _) (nI (j + 1))) _
    have hC : CL n f ν a L := h.fr fun i hi => hF _ (by unfold sR7; omega)
    unfold f_X7_seek_b21
    rw [pwN _ (by omega)]
    by_cases hc : j = 2 ^ cntN (pB L) (2 * n) - 1
    · refine Ok.t (nI_le (by omega) (by omega)) (Ok.d ⟨?_, ⟨b, g3, gb, fun m hm hr => ?_⟩, hF⟩)
      · rw [g2, show j + 1 = 2 ^ cntN (pB L) (2 * n) by omega]
        have := gray_all (P := pB L) (k := 2 * n) (by omega) (rgI n L)
        rw [show (fun s => rgI n L (mS n L s)) = (fun s => rgI n L (spr (pB L) (gray s) (2 * n))) from rfl, this]
        congr 1
        refine nsum_congr fun m hm => ?_
        by_cases c : subB (pB L) m (2 * n) = true
        · rw [if_pos c]
        · rw [if_neg c]
          unfold rgI
          rw [if_neg (fun w => c (rgB_iff.mp w).2.1)]
      · obtain ⟨s, hs, e⟩ := gray_has (P := pB L) (k := 2 * n) (by omega) hm (rgB_iff.mp hr).2.1
        have e' : mS n L s = m := e
        rw [← e']
        exact gs s (by omega) (by rw [e']; exact hr)
    · have hj2 : j + 1 < 2 ^ cntN (pB L) (2 * n) := by omega
      refine Ok.e (nI_ge hj2 (by omega)) ?_
      obtain ⟨z1, z2, z3, -⟩ := zN_ok (μ := ν) (j + 1) (by omega) (by omega)
      obtain ⟨l, hl, hP, hz⟩ := cnt_sur (P := pB L) (k := 2 * n) (pow_lt_inv z3 hj2)
      have hst := spr_step (P := pB L) (k := 2 * n) (s := j) (l := l) (by omega) hj2 hl hP hz
      have hst' : nI (mS n L j) ^^^ (1 <<< (nI l &&& 31)) = nI (mS n L (j + 1)) := hst
      refine Ok.s z1 (Ok.s (a := nI l) (by rw [rd_nI (by omega) (by decide), ← hz, g57 l hl hP]) ?_)
      rw [hst']
      refine Ok.s (X11_hasBit (by omega)) ?_
      have hP' : L 6 l = 1 := of_decide_eq_true hP
      obtain ⟨hh, hhn, hne, e7⟩ : ∃ hh, hh < n ∧ hh ≠ l / 2 ∧ L 7 l = nI hh := by
        rcases hw.lace hl with q | ⟨-, x, q1, q2, q3, -⟩ | q
        · rw [q.1] at hP'; exact absurd hP' (by decide)
        · exact ⟨x, q1, q2, q3⟩
        · rw [q.1] at hP'; exact absurd hP' (by decide)
      have hmv := fun q => bal_mv (L := L) (q := q) hl hn hst'
      have main : ∀ k0 : Int32, k0 = (if bt (nI (mS n L (j + 1))) l = true then L 8 l else -(L 8 l)) → Ok (f_X7_seek_j75_21 ν a (nI (cntN (pB L) (2 * n))) (nI (mS n L (j + 1))) (nI (j + 1)) (nI l) k0) (LoopP (fun j z => z.1 = nI (mS n L j) ∧ z.2.1 = nI (j + 1) ∧ Fr sR7 μ z.2.2 ∧ (∀ l, l < 2 * n → pB L l = true → z.2.2 257 (cntN (pB L) l) = nI l) ∧ (∀ q, q < 6 → z.2.2 258 q = balS L (mS n L j) q (2 * n)) ∧ z.2.2 256 2 = nI (nsum (fun s => rgI n L (mS n L s)) (j + 1)) ∧ ∃ b, z.2.2 256 3 = nI b ∧ (b = 0 ∨ (b < 2 ^ (2 * n) ∧ rgB n L b = true)) ∧ ∀ s, s ≤ j → rgB n L (mS n L s) = true → ¬ bett (mS n L s) b) (fun t => t 256 2 = nI (nsum (rgI n L) (2 ^ (2 * n))) ∧ (∃ b, t 256 3 = nI b ∧ Bst n L b) ∧ Fr sR7 μ t) (2 ^ cntN (pB L) (2 * n) - 1) j) := by
        intro k0 hk0
        unfold f_X7_seek_j75_21
        refine Ok.s (X11_ownerOf (by omega)) (Ok.s (rd_nI (by omega) (by decide)) (Ok.s (wr_nI (by omega) (by decide)) ?_))
        have hC1 : CL n f (mset ν 258 (l / 2) (ν 258 (l / 2) + k0)) a L := hC.fr fun i hi => mset_ne (by omega)
        refine Ok.s (a := nI hh) (by rw [hC1.rdL (k := 7) (by omega) hl, e7]) (Ok.s (rd_nI (by omega) (by decide)) (Ok.s (wr_nI (by omega) (by decide)) ?_))
        rw [mset_atn hne]
        generalize hν2 : mset (mset ν 258 (l / 2) (ν 258 (l / 2) + k0)) 258 hh (ν 258 hh - k0) = ν2
        have o58 : ∀ k, k ≠ 258 → ν2 k = ν k := fun k hk => by rw [← hν2, mset_ne hk, mset_ne hk]
        have b58 : ∀ q, q < 6 → ν2 258 q = balS L (mS n L (j + 1)) q (2 * n) := fun q hq => by
          rw [hmv q, ← g58 q hq, balT_0 (by omega) hq (by omega) hne e7, ← hν2]
          by_cases c : q = hh
          · subst c
            rw [mset_at, if_pos rfl, hk0]
            by_cases d : bt (nI (mS n L (j + 1))) l = true
            · rw [if_pos d, if_pos d, Int32.sub_eq_add_neg]
            · rw [if_neg d, if_neg d, Int32.sub_eq_add_neg]
          · rw [mset_atn c, if_neg c]
            by_cases d : q = l / 2
            · subst d
              rw [mset_at, if_pos rfl, hk0]
            · rw [mset_atn d, if_neg d]
              by_cases e : bt (nI (mS n L (j + 1))) l = true
              · rw [if_pos e, Int32.add_zero]
              · rw [if_neg e, Int32.neg_zero, Int32.add_zero]
        have hF2 : Fr sR7 μ ν2 := fun k hk => by rw [o58 k (fun q => hk (by unfold sR7; omega))]; exact hF k hk
        have hsub : subB (pB L) (mS n L (j + 1)) (2 * n) = true := mS_sub
        have hne0 : mS n L (j + 1) ≠ 0 := spr_ne0 (P := pB L) (k := 2 * n) (by omega) hj2 (by omega)
        have hmlt : mS n L (j + 1) < 2 ^ (2 * n) := mS_lt
        have hsum : nsum (fun s => rgI n L (mS n L s)) (j + 1) ≤ j + 1 := nsum_le (fun i => by unfold rgI; split <;> decide) _
        have hblt : b < 4096 := by
          rcases gb with rfl | ⟨q, -⟩
          · decide
          · omega
        refine Ok.s (X7_isBalanced b58) ?_
        rw [ring6 hw hn hsub]
        unfold f_X7_seek_j121_21
        by_cases c : ringB n L (mS n L (j + 1)) n = true
        · have hr : rgB n L (mS n L (j + 1)) = true := rgB_iff.mpr ⟨hne0, hsub, c⟩
          refine Ok.t c ((X7_take (b := b) (by rw [o58 256 (by decide)]; exact g2) (by rw [o58 256 (by decide)]; exact g3) (by omega) hblt).b fun ν3 h3 => ?_)
          obtain ⟨k2, ⟨b', k3, kb⟩, kF⟩ := h3
          refine Ok.c (by omega) ⟨rfl, nI_1 _, fun k hk => ?_, fun l hl hp => ?_, fun q hq => ?_, ?_, b', k3, ?_, fun s hs hrs => ?_⟩
          · show ν3 k = μ k
            rw [kF k (fun q => hk (by unfold sR7; omega))]; exact hF2 k hk
          · show ν3 257 _ = _
            rw [kF 257 (by decide), o58 257 (by decide)]; exact g57 l hl hp
          · show ν3 258 q = _
            rw [kF 258 (by decide)]; exact b58 q hq
          · show ν3 256 2 = _
            rw [k2]
            show _ = nI (nsum (fun s => rgI n L (mS n L s)) (j + 1) + rgI n L (mS n L (j + 1)))
            unfold rgI
            rw [if_pos hr]
          · rcases kb with ⟨-, rfl⟩ | ⟨-, rfl⟩
            · exact Or.inr ⟨hmlt, hr⟩
            · exact gb
          · by_cases e : s = j + 1
            · subst e
              rcases kb with ⟨-, rfl⟩ | ⟨w, rfl⟩
              · unfold bett; omega
              · exact w
            · have hold := gs s (by omega) hrs
              rcases kb with ⟨w, rfl⟩ | ⟨w, rfl⟩
              · exact fun q => hold (bett_tr q w)
              · exact hold
        · have hr : ¬ rgB n L (mS n L (j + 1)) = true := fun w => c (rgB_iff.mp w).2.2
          refine Ok.e c (Ok.c (by omega) ⟨rfl, nI_1 _, hF2, fun l hl hp => ?_, b58, ?_, b, ?_, gb, fun s hs hrs => ?_⟩)
          · show ν2 257 _ = _
            rw [o58 257 (by decide)]; exact g57 l hl hp
          · show ν2 256 2 = nI (nsum (fun s => rgI n L (mS n L s)) (j + 1) + rgI n L (mS n L (j + 1)))
            rw [o58 256 (by decide), g2]
            unfold rgI
            rw [if_neg hr]
            rfl
          · show ν2 256 3 = _
            rw [o58 256 (by decide)]; exact g3
          · by_cases e : s = j + 1
            · subst e; exact absurd hrs hr
            · exact gs s (by omega) hrs
      by_cases c : bt (nI (mS n L (j + 1))) l = true
      · exact Ok.t c (Ok.s (hC.rdL (k := 8) (by omega) hl) (main _ (if_pos c).symm))
      · exact Ok.e c (Ok.s (hC.rdL (k := 8) (by omega) hl) (main _ (if_neg c).symm))
  · exact Ok.r ht
/-! the model -/
theorem pl_mask (hn : n ≤ 6) : ∃ M, M < 2 ^ (2 * n) ∧ pledS n L = nI M ∧ (∀ m, m < 2 ^ (2 * n) → ((nI m &&& (nI M ^^^ (-1))) = 0 ↔ subB (pB L) m (2 * n) = true)) ∧ ∀ m, m < 2 ^ (2 * n) → subB (pB L) m (2 * n) = true → m ≤ M := by
  have hp12 : 2 ^ (2 * n) ≤ 2 ^ 12 := Nat.pow_le_pow_right (by decide) (by omega)
  obtain ⟨M, hM, e⟩ := ob_nI (P := fun l => decide (L 6 l = 1)) (m := 2 * n) (by omega)
  have bM : ∀ l, l < 32 → bt (nI M) l = (decide (l < 2 * n) && pB L l) := fun l hl => by
    rw [← e, ob_b hl (by omega)]; rfl
  have hi : ∀ m, m < 2 ^ (2 * n) → ∀ l, 2 * n ≤ l → m.testBit l = false := fun m hm l hl => Nat.testBit_lt_two_pow (Nat.lt_of_lt_of_le hm (Nat.pow_le_pow_right (by decide) hl))
  refine ⟨M, hM, e, fun m hm => ⟨fun q => ?_, fun q => ?_⟩, fun m hm hs => ?_⟩
  · refine (subB_iff _).mpr fun l hl hb => ?_
    have h1 : bt (nI m &&& (nI M ^^^ (-1))) l = false := by rw [q]; exact b_0 l
    rw [b_and, b_xor, b_m1 l (by omega), bM l (by omega), bt_tb (by omega), hb, decide_eq_true hl] at h1
    simpa using h1
  · apply b_ext
    intro l hl
    rw [b_0, b_and, b_xor, b_m1 l hl, bM l hl, bt_tb hl]
    by_cases c : l < 2 * n
    · cases hb : m.testBit l with
      | false => rfl
      | true => rw [(subB_iff _).mp q l c hb, decide_eq_true c]; rfl
    · rw [hi m hm l (by omega)]; rfl
  · refine Nat.le_of_testBit fun l hb => ?_
    rcases Nat.lt_or_ge l (2 * n) with c | c
    · have := bM l (by omega)
      rw [bt_tb (by omega), decide_eq_true c, (subB_iff _).mp hs l c hb] at this
      rw [this]; rfl
    · rw [hi m hm l c] at hb; cases hb
theorem nsum_top {q : Nat → Nat} {a b : Nat} (h : a ≤ b) (hz : ∀ i, a ≤ i → i < b → q i = 0) : nsum q b = nsum q a := by
  obtain ⟨d, rfl⟩ : ∃ d, b = a + d := ⟨b - a, by omega⟩
  rw [nsum_add, nsum_0 (fun i hi => hz (a + i) (by omega) (by omega)), Nat.add_zero]
theorem q_rings (h : St n f L T μ) : ∃ v : Int32, Ok (f_X11_rings μ) (fun q => q.1 = v ∧ KC μ q.2) ∧ ∀ ν, KC μ ν → Ok (f_X12_rings ν) (fun q => q.1 = v ∧ KM ν q.2) := by
  have hn := h.n6
  have hp12 : 2 ^ (2 * n) ≤ 2 ^ 12 := Nat.pow_le_pow_right (by decide) (by omega)
  refine ⟨nI (nsum (rgI n L) (2 ^ (2 * n))), ?_, fun ν hk => ?_⟩
  · unfold f_X11_rings
    refine (X7_seek h.c h.w (by decide)).b fun ν hv => Ok.r ⟨hv.1, hv.2.2.mono fun k hk => by unfold sR7 at hk; unfold scC; omega⟩
  · have m0 := h.m0 hk
    obtain ⟨M, hM, eM, hsub, hle⟩ := pl_mask (L := L) hn
    unfold f_X12_rings
    refine Ok.s (X12_pledgedOnes m0.m) ?_
    rw [show obits (fun l => decide (L 6 l = 1)) (2 * n) = nI M from eM]
    unfold f_X12_rings_l14
    refine Ok.loop (fun j z => z.1 = nI (nsum (rgI n L) (j + 1)) ∧ z.2 = nI (j + 1)) (fun t => t = nI (nsum (rgI n L) (2 ^ (2 * n)))) M (by omega) ⟨by show (0 : Int32) = nI (0 + rgI n L 0); unfold rgI rgB; rfl, rfl⟩ (fun j z hj hI => ?_) (fun t ht => ?_)
    · obtain ⟨x, y⟩ := z
      obtain ⟨e1, e2⟩ := hI
      dsimp only at e1 e2
      subst e1 e2
      show Ok (f_X12_rings_b14 (mset ν 264 0 0) (nI M) (nI _) (nI (j + 1))) _
      unfold f_X12_rings_b14
      by_cases hc : j = M
      · subst hc
        refine Ok.t (nI_lt (by omega) (by omega)) (Ok.d ?_)
        rw [nsum_top (a := j + 1) (b := 2 ^ (2 * n)) (by omega) (fun i h1 h2 => ?_)]
        unfold rgI
        rw [if_neg (fun w => by have := hle i h2 (rgB_iff.mp w).2.1; omega)]
      · refine Ok.e (nI_nlt (by omega) (by omega)) ?_
        have hs1 : nsum (rgI n L) (j + 1 + 1) = nsum (rgI n L) (j + 1) + rgI n L (j + 1) := rfl
        unfold f_X12_rings_j40_14 f_X12_rings_j41_14
        by_cases c : subB (pB L) (j + 1) (2 * n) = true
        · refine Ok.t ((hsub _ (by omega)).mpr c) (Ok.s (X12_isRing m0.m _) (Ok.c (by omega) ⟨?_, nI_1 _⟩))
          dsimp only
          rw [hs1, bite]
          unfold rgI
          by_cases d : ringB n L (j + 1) n = true
          · rw [d, if_pos (rgB_iff.mpr ⟨by omega, c, d⟩)]
            exact nI_1 _
          · rw [if_neg (fun w => d (rgB_iff.mp w).2.2), show ringB n L (j + 1) n = false by simpa using d]
            exact Int32.add_zero _
        · refine Ok.e (fun q => c ((hsub _ (by omega)).mp q)) (Ok.c (by omega) ⟨?_, nI_1 _⟩)
          dsimp only
          rw [hs1]
          unfold rgI
          rw [if_neg (fun w => c (rgB_iff.mp w).2.1)]
          exact Int32.add_zero _
    · subst ht
      show Ok (f_X12_rings_j49 (mset ν 264 0 0) _) _
      unfold f_X12_rings_j49
      exact Ok.r ⟨rfl, KM.thr⟩
theorem q_untie (h : St n f L T μ) (p1 : Bool) : ∃ v : Int32, Ok (f_X11_untie μ p1) (fun q => q.1 = v ∧ KC μ q.2) ∧ ∀ ν, KC μ ν → Ok (f_X12_untie ν p1) (fun q => q.1 = v ∧ KM ν q.2) := by
  have hn := h.n6
  have hp12 : 2 ^ (2 * n) ≤ 2 ^ 12 := Nat.pow_le_pow_right (by decide) (by omega)
  obtain ⟨ν1, e1, -, ⟨b, g3, gb⟩, hF1⟩ := X7_seek h.c h.w (a := 3) (by decide)
  have hblt : b < 4096 := by
    rcases gb.1 with rfl | ⟨q, -⟩
    · decide
    · omega
  refine ⟨if p1 = true then bitC (nI b) else nI b, ?_, fun ν hk => ?_⟩
  · unfold f_X11_untie f_X11_untie_j35
    refine Ok.s e1 ?_
    have hK : KC μ ν1 := hF1.mono fun k hk => by unfold sR7 at hk; unfold scC; omega
    cases p1 with
    | true => exact Ok.t rfl (Ok.s J6_bit (Ok.r ⟨by dsimp only; rw [g3]; rfl, hK⟩))
    | false => exact Ok.e fnt (Ok.r ⟨by dsimp only; rw [g3]; rfl, hK⟩)
  · have m0 := h.m0 hk
    obtain ⟨M, hM, eM, hsub, hle⟩ := pl_mask (L := L) hn
    unfold f_X12_untie
    refine Ok.s (X12_pledgedOnes m0.m) ?_
    rw [show obits (fun l => decide (L 6 l = 1)) (2 * n) = nI M from eM]
    unfold f_X12_untie_l15
    refine Ok.loop (fun j z => z.2 = nI (j + 1) ∧ ∃ c, z.1 = nI c ∧ c ≤ j ∧ (c = 0 ∨ (c < 2 ^ (2 * n) ∧ rgB n L c = true)) ∧ ∀ m, m ≤ j → rgB n L m = true → ¬ bett m c) (fun t => t = nI b) M (by omega) ⟨rfl, 0, rfl, Nat.le_refl _, Or.inl rfl, fun m hm hr => ?_⟩ (fun j z hj hI => ?_) (fun t ht => ?_)
    · have : m = 0 := by omega
      subst this
      exact absurd rfl (rgB_iff.mp hr).1
    · obtain ⟨x, y⟩ := z
      obtain ⟨e2, c, e1, hcj, gc, gs⟩ := hI
      dsimp only at e1 e2
      subst e1 e2
      show Ok (f_X12_untie_b15 (mset ν 264 0 0) p1 (nI M) (nI c) (nI (j + 1))) _
      unfold f_X12_untie_b15
      have hclt : c < 4096 := by
        rcases gc with rfl | ⟨q, -⟩
        · decide
        · omega
      by_cases hc : j = M
      · subst hc
        refine Ok.t (nI_lt (by omega) (by omega)) (Ok.d ?_)
        have hB : Bst n L c := ⟨gc, fun m hm hr => gs m (hle m hm (rgB_iff.mp hr).2.1) hr⟩
        rw [hB.uniq hn gb]
      · refine Ok.e (nI_nlt (by omega) (by omega)) ?_
        unfold f_X12_untie_j54_15
        obtain ⟨p1', p2, -⟩ := pc_ok (m := j + 1) (by omega)
        obtain ⟨q1, q2, -⟩ := pc_ok hclt
        have same : (rgB n L (j + 1) = true → ¬ bett (j + 1) c) → Ok (some (Sum.inl (nI c, nI (j + 1) + 1))) (LoopP (τ := Int32) (fun j z => z.2 = nI (j + 1) ∧ ∃ c, z.1 = nI c ∧ c ≤ j ∧ (c = 0 ∨ (c < 2 ^ (2 * n) ∧ rgB n L c = true)) ∧ ∀ m, m ≤ j → rgB n L m = true → ¬ bett m c) (fun t => t = nI b) M j) := fun w => Ok.c (by omega) ⟨nI_1 _, c, rfl, by omega, gc, fun m hm hr => by
          by_cases e : m = j + 1
          · subst e; exact w hr
          · exact gs m (by omega) hr⟩
        by_cases d : subB (pB L) (j + 1) (2 * n) = true
        · refine Ok.t ((hsub _ (by omega)).mpr d) (Ok.s J6_bit (Ok.s J6_bit ?_))
          rw [p1', q1]
          by_cases w : pcN (j + 1) ≤ pcN c
          · exact Ok.t (nI_le w (by omega)) (same fun _ q => by unfold bett at q; omega)
          · refine Ok.e (nI_ge (by omega) (by omega)) (Ok.s (X12_isRing m0.m _) ?_)
            by_cases u : ringB n L (j + 1) n = true
            · rw [if_pos u]
              refine Ok.c (by omega) ⟨nI_1 _, j + 1, rfl, Nat.le_refl _, Or.inr ⟨by omega, rgB_iff.mpr ⟨by omega, d, u⟩⟩, fun m hm hr => ?_⟩
              by_cases e : m = j + 1
              · subst e; unfold bett; omega
              · have := gs m (by omega) hr
                intro q
                unfold bett at this q
                omega
            · rw [if_neg u]
              exact same fun hr => absurd (rgB_iff.mp hr).2.2 u
        · exact Ok.e (fun q => d ((hsub _ (by omega)).mp q)) (same fun hr => absurd (rgB_iff.mp hr).2.1 d)
    · subst ht
      show Ok (f_X12_untie_j60 (mset ν 264 0 0) p1 _) _
      unfold f_X12_untie_j60 f_X12_untie_j72
      cases p1 with
      | true => exact Ok.t rfl (Ok.s J6_bit (Ok.r ⟨rfl, KM.thr⟩))
      | false => exact Ok.e fnt (Ok.r ⟨rfl, KM.thr⟩)
end Rt
