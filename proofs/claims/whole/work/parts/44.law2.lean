/-! THE MODEL'S LAW -/
def mst (s : Nat) : Nat := if s < 1000 then 9 else if s < 1009 then s - 1000 else if s = 1009 then 13 else if s ≤ 1012 then s - 1000 else s - 999
def mnu (s : Nat) : Nat := if s < 1000 then s else 0
theorem mst_num {s : Nat} (h : s < 1000) : mst s = 9 ∧ mnu s = s := by unfold mst mnu; rw [if_pos h, if_pos h]; exact ⟨rfl, rfl⟩
theorem mst_fact {g : Nat} (h : g < 9) : mst (1000 + g) = g ∧ mnu (1000 + g) = 0 := by
  unfold mst mnu; rw [if_neg (by omega), if_pos (by omega), if_neg (by omega)]; exact ⟨by omega, rfl⟩
def LM (w : Nat → Int32) (T : Tx) : Prop := w 2 = nI (T 0 0) ∧ (T 0 0 = 1 → w 370 = nI (T 1 0) ∧ (∀ i, i < T 1 0 → w (371 + 4 * i) = nI (T 2 i) ∧ w (371 + 4 * i + 1) = nI (T 3 i) ∧ w (371 + 4 * i + 2) = nI (T 4 i) ∧ w (371 + 4 * i + 3) = nI (T 5 i)) ∧ ∀ i, i < T 7 0 → w (419 + 2 * i) = nI (mst (T 6 i)) ∧ w (419 + 2 * i + 1) = nI (mnu (T 6 i)))
theorem LM.fr {w w' : Nat → Int32} {T : Tx} (h : LM w T) (h2 : w' 2 = w 2) (hf : ∀ j, 370 ≤ j → w' j = w j) : LM w' T := by
  refine ⟨by rw [h2]; exact h.1, fun ht => ?_⟩
  obtain ⟨a1, a2, a3⟩ := h.2 ht
  refine ⟨by rw [hf _ (by omega)]; exact a1, fun i hi => ?_, fun i hi => ?_⟩
  · rw [hf _ (by omega), hf _ (by omega), hf _ (by omega), hf _ (by omega)]; exact a2 i hi
  · rw [hf _ (by omega), hf _ (by omega)]; exact a3 i hi
theorem ix_4 {i : Nat} : (371 : Int32) + 4 * nI i = nI (371 + 4 * i) := by
  rw [show (371 : Int32) = nI 371 from rfl, show (4 : Int32) = nI 4 from rfl, pk_mul, nI_add]
theorem ix_2 {i : Nat} : (419 : Int32) + 2 * nI i = nI (419 + 2 * i) := by
  rw [show (419 : Int32) = nI 419 from rfl, show (2 : Int32) = nI 2 from rfl, pk_mul, nI_add]
theorem mb11 {x y : Int32} : (if nI (mst 1011) = 10 then ((x + y) : Int32) else (if (if y ≤ x then (false : Bool) else true) = true then (1 : Int32) else 0)) = bopA 1011 x y := rfl
def mbop (t x y : Int32) : Int32 := if t = 10 then ((x + y) : Int32) else (if (if t = 12 then ((if x ≤ y then (false : Bool) else true) : Bool) else (if t = 14 then ((if (x + y) = 2 then (true : Bool) else false) : Bool) else (if (x + y) ≤ 0 then (false : Bool) else true))) = true then (1 : Int32) else 0)
theorem mbop_eq {s : Nat} {x y : Int32} (h1 : 1010 ≤ s) (h2 : s ≤ 1014) (h3 : s ≠ 1011) (h : 1013 ≤ s → (x = 0 ∨ x = 1) ∧ (y = 0 ∨ y = 1)) : mbop (nI (mst s)) x y = bopA s x y := by
  rcases (show s = 1010 ∨ s = 1012 ∨ s = 1013 ∨ s = 1014 by omega) with rfl | rfl | rfl | rfl
  · rfl
  · rfl
  · obtain ⟨hx, hy⟩ := h (by decide)
    rcases hx with rfl | rfl <;> rcases hy with rfl | rfl <;> decide
  · obtain ⟨hx, hy⟩ := h (by decide)
    rcases hx with rfl | rfl <;> rcases hy with rfl | rfl <;> decide
theorem X12_holdsLine {n : Nat} {f : Int32} {μ : Mem} {L : Ld} {T : Tx} {p i : Nat} (h : ML n f (μ 265) L) (hw : WF n L) (hp : p < n) (hT : LM (μ 265) T) (ht : T 0 0 = 1) (hW : WT T) (hi : i < T 1 0) : Ok (f_X12_holdsLine μ (nI i) (nI p)) (fun q => q.1 = holdsA T (factA n L p) i ∧ Fr (fun k => k = 272) μ q.2) := by
  obtain ⟨-, h4, h5⟩ := hT.2 ht
  obtain ⟨w1, w2, w3, w4, w5⟩ := hW
  obtain ⟨g1, g2, g3, g4⟩ := h4 i hi
  obtain ⟨v1, v2, v3, v4, v5⟩ := w5 i hi
  have hb := fact7 (n := n) (p := p) (L := L)
  obtain ⟨tE, htE, htl⟩ : ∃ tE, tyA (T 6) (T 4 i) [] (T 5 i - T 4 i) = some tE ∧ (tE = [] ∨ tE = [true]) := by
    rcases v5 with q | q
    · exact ⟨_, q, Or.inl rfl⟩
    · exact ⟨_, q, Or.inr rfl⟩
  unfold f_X12_holdsLine
  rw [ix_4]
  refine Ok.s (a := nI (T 4 i)) (by rw [show nI (371 + 4 * i) + 2 = nI (371 + 4 * i + 2) from nI_add _ 2, rd_nI (by omega) (by decide), g3]) ?_
  unfold f_X12_holdsLine_l22
  refine Ok.loop (fun j z => z.1 = nI (evA (factA n L p) (T 6) (T 4 i) j).length ∧ z.2.1 = nI (T 4 i + j) ∧ Fr (fun k => k = 272) μ z.2.2 ∧ Stk (z.2.2 272) (evA (factA n L p) (T 6) (T 4 i) j)) (fun t => t.1 = nI (evA (factA n L p) (T 6) (T 4 i) (T 5 i - T 4 i)).length ∧ Fr (fun k => k = 272) μ t.2 ∧ Stk (t.2 272) (evA (factA n L p) (T 6) (T 4 i) (T 5 i - T 4 i))) (T 5 i - T 4 i) (by omega) ⟨rfl, rfl, Fr.refl, trivial⟩ (fun j z hj hI => ?_) (fun t ht => ?_)
  · obtain ⟨d, c, ν⟩ := z
    obtain ⟨e1, e2, hF, hS⟩ := hI
    dsimp only at e1 e2 hF hS
    subst e1 e2
    show Ok (f_X12_holdsLine_b22 ν (nI p) (nI _) (nI (371 + 4 * i)) (nI _)) _
    unfold f_X12_holdsLine_b22
    have f65 : ν 265 = μ 265 := hF _ (by decide)
    refine Ok.s (a := nI (T 5 i)) (by rw [show nI (371 + 4 * i) + 3 = nI (371 + 4 * i + 3) from nI_add _ 3, rd_nI (by omega) (by decide), f65, g4]) ?_
    by_cases hc : j = T 5 i - T 4 i
    · subst hc
      refine Ok.t (nI_le (by omega) (by omega)) ?_
      exact Ok.d ⟨rfl, hF, hS⟩
    · refine Ok.e (nI_ge (by omega) (by omega)) ?_
      rw [ix_2]
      obtain ⟨s1, s2⟩ := h5 (T 4 i + j) (by omega)
      refine Ok.s (a := nI (mst (T 6 (T 4 i + j)))) (by rw [rd_nI (by omega) (by decide), f65, s1]) ?_
      obtain ⟨ts1, q1⟩ := ty_pre htE (T 5 i - T 4 i - (j + 1)) (j + 1) (by omega)
      obtain ⟨ts, q2, q3⟩ := ob (show (tyA (T 6) (T 4 i) [] j).bind (tyA1 (T 6 (T 4 i + j))) = some ts1 from q1)
      have hv := ty_tv hb q2
      have hnext : evA (factA n L p) (T 6) (T 4 i) (j + 1) = evA1 (factA n L p) (T 6 (T 4 i + j)) (evA (factA n L p) (T 6) (T 4 i) j) := rfl
      have rs2 : rd ν 265 2068 (nI (419 + 2 * (T 4 i + j)) + 1) = some (nI (mnu (T 6 (T 4 i + j)))) := by
        rw [nI_1, rd_nI (by omega) (by decide), f65, s2]
      generalize T 6 (T 4 i + j) = s at q3 hnext rs2 ⊢
      generalize evA (factA n L p) (T 6) (T 4 i) j = vs at hv hnext hS ⊢
      have hM : ML n f (ν 265) L := by rw [f65]; exact h
      rcases ty_inv q3 hv with ⟨k1, k2, -⟩ | ⟨rfl, x, r, tr, rfl, hx, -, -⟩ | k
      · obtain ⟨x, hx, hx2⟩ : ∃ x, f_X12_factOf ν (nI (mst s)) (nI (mnu s)) (nI p) = some x ∧ evA1 (factA n L p) s vs = x :: vs := by
          by_cases k3 : s < 1000
          · refine ⟨nI s, ?_, ev_num k3⟩
            rw [(mst_num k3).1, (mst_num k3).2]
            unfold f_X12_factOf
            exact ie (by decide) (ie (by decide) (ie (by decide) (ie (by decide) (ie (by decide) (ie (by decide) (ie (by decide) (ie (by decide) (ie (by decide) rfl))))))))
          · obtain ⟨g, rfl⟩ : ∃ g, s = 1000 + g := ⟨s - 1000, by omega⟩
            refine ⟨factA n L p g, ?_, ev_fact (by omega)⟩
            rw [(mst_fact (by omega)).1]
            exact X12_factOf hM hw hp (by omega) _
        rw [hx2] at hnext
        have hms : mst s ≤ 9 := by
          unfold mst
          split
          · exact Nat.le_refl _
          · omega
        refine Ok.e (nI_nlt (a := 9) hms (by decide)) ?_
        refine Ok.s rs2 ?_
        refine Ok.s hx ?_
        refine Ok.s (wr_nI (by omega) (by decide)) ?_
        unfold f_X12_holdsLine_j257_22
        refine Ok.c (by omega) ?_
        rw [hnext]
        exact ⟨nI_1 _, nI_1 _, hF.put rfl, by show Stk (mset ν 272 _ _ 272) _; rw [mset_eq]; exact ⟨pk_us, hS.upd (Nat.le_refl _)⟩⟩
      · have hl := hv.len
        obtain ⟨hS1, hS2⟩ := hS
        rw [ev_not] at hnext
        have hlt : r.length + 1 ≤ 24 := by
          have := ty_depth q2
          rw [hl] at this
          exact this
        refine Ok.t (by decide) ?_
        refine Ok.t (by decide) ?_
        rw [show nI (x :: r).length - 1 = nI r.length from nI_p1 _]
        refine Ok.s (a := x) (by rw [rd_nI (by omega) (by decide)]; exact congrArg some hS1) ?_
        refine Ok.s (wr_nI (by omega) (by decide)) ?_
        unfold f_X12_holdsLine_j257_22
        refine Ok.c (by omega) ?_
        rw [hnext]
        exact ⟨rfl, nI_1 _, hF.put rfl, by show Stk (mset ν 272 _ _ 272) _; rw [mset_eq]; exact ⟨pk_us, hS2.upd (Nat.le_refl _)⟩⟩
      · have hl := hv.len
        obtain ⟨k1, k2, y, x, r, rfl, k3⟩ : 1010 ≤ s ∧ s ≤ 1014 ∧ ∃ y x r, vs = y :: x :: r ∧ (1013 ≤ s → (x = 0 ∨ x = 1) ∧ (y = 0 ∨ y = 1)) := by
          rcases k with ⟨rfl, y, x, r, tr, rfl, -⟩ | ⟨k, y, x, r, tr, rfl, -⟩ | ⟨k, y, x, r, tr, rfl, kx, ky, -⟩
          · exact ⟨by omega, by omega, y, x, r, rfl, fun q => absurd q (by decide)⟩
          · exact ⟨by omega, by omega, y, x, r, rfl, fun q => absurd q (by omega)⟩
          · exact ⟨by omega, by omega, y, x, r, rfl, fun _ => ⟨kx, ky⟩⟩
        obtain ⟨hS1, hS2, hS3⟩ := hS
        rw [ev_bop k1] at hnext
        have hlt : r.length + 2 ≤ 24 := by
          have := ty_depth q2
          rw [hl] at this
          exact this
        have hms : 10 ≤ mst s ∧ mst s ≤ 15 ∧ mst s ≠ 13 ∧ (mst s = 11 ↔ s = 1011) := by
          rcases (show s = 1010 ∨ s = 1011 ∨ s = 1012 ∨ s = 1013 ∨ s = 1014 by omega) with rfl | rfl | rfl | rfl | rfl <;> decide
        refine Ok.t (nI_lt (a := 9) (by omega) (by omega)) ?_
        refine Ok.e (fun q => hms.2.2.1 ((nI_eq (b := 13) (by omega) (by decide)).mp q)) ?_
        rw [show nI (y :: x :: r).length + (-1) = nI (r.length + 1) from pk_m1 _, nI_p1]
        refine Ok.s (a := x) (by rw [rd_nI (by omega) (by decide)]; exact congrArg some hS2) ?_
        refine Ok.s (a := y) (by rw [rd_nI (by omega) (by decide)]; exact congrArg some hS1) ?_
        by_cases k4 : s = 1011
        · subst k4
          refine Ok.t (by decide) ?_
          rw [mb11]
          refine Ok.s (wr_nI (by omega) (by decide)) ?_
          unfold f_X12_holdsLine_j257_22
          refine Ok.c (by omega) ?_
          rw [hnext]
          exact ⟨rfl, nI_1 _, hF.put rfl, by show Stk (mset ν 272 _ _ 272) _; rw [mset_eq]; exact ⟨pk_us, hS3.upd (Nat.le_refl _)⟩⟩
        · refine Ok.e (fun q => k4 (hms.2.2.2.mp ((nI_eq (b := 11) (by omega) (by decide)).mp q))) ?_
          have hmb := mbop_eq k1 k2 k4 k3
          unfold mbop at hmb
          rw [hmb]
          refine Ok.s (wr_nI (by omega) (by decide)) ?_
          unfold f_X12_holdsLine_j257_22
          refine Ok.c (by omega) ?_
          rw [hnext]
          exact ⟨rfl, nI_1 _, hF.put rfl, by show Stk (mset ν 272 _ _ 272) _; rw [mset_eq]; exact ⟨pk_us, hS3.upd (Nat.le_refl _)⟩⟩
  · obtain ⟨d, ν⟩ := t
    obtain ⟨e1, hF, hS⟩ := ht
    dsimp only at e1 hF hS
    subst e1
    have hv2 := ty_tv hb htE
    have hv := hv2.len
    show Ok (f_X12_holdsLine_j263 ν (nI _)) _
    unfold f_X12_holdsLine_j263 f_X12_holdsLine_j277 f_X12_holdsLine_j282
    unfold holdsA
    generalize evA (factA n L p) (T 6) (T 4 i) (T 5 i - T 4 i) = vs at hv hv2 hS ⊢
    rcases htl with rfl | rfl
    · cases vs with
      | nil => exact Ok.t rfl (Ok.r ⟨rfl, hF⟩)
      | cons v r => cases hv
    · cases vs with
      | nil => cases hv
      | cons v r =>
        cases r with
        | cons _ _ => cases hv
        | nil =>
          refine Ok.e (show ¬ nI 1 = 0 by decide) ?_
          refine Ok.s (a := v) (by rw [show (0 : Int32) = nI 0 from rfl, rd_nI (by decide) (by decide)]; exact congrArg some hS.1) ?_
          refine Ok.r ⟨?_, hF⟩
          show (if v = 1 then (true : Bool) else false) = decide (¬ v = 0)
          rcases hv2.1 rfl with rfl | rfl <;> decide
/-! SUMS -/
def sumG (T : Tx) (n : Nat) (L : Ld) (k p i : Nat) : Int32 := if T 2 i = k ∧ holdsA T (factA n L p) i = true then nI (T 3 i) else 0
def sumA (T : Tx) (n : Nat) (L : Ld) (k p : Nat) : Int32 := osum (sumG T n L k p) (T 1 0)
theorem osum_s {f : Nat → Int32} {j : Nat} : osum f (j + 1) = osum f j + f j := rfl
theorem sumG_t {T : Tx} {n k p i : Nat} {L : Ld} (h1 : T 2 i = k) (h2 : holdsA T (factA n L p) i = true) : sumG T n L k p i = nI (T 3 i) := by unfold sumG; rw [if_pos ⟨h1, h2⟩]
theorem sumG_f {T : Tx} {n k p i : Nat} {L : Ld} (h : ¬ (T 2 i = k ∧ holdsA T (factA n L p) i = true)) : sumG T n L k p i = 0 := by unfold sumG; rw [if_neg h]
def s5 (k : Nat) : Prop := k = 54 ∨ k = 55
theorem X4_sumOf {n : Nat} {f : Int32} {μ : Mem} {a : Nat} {L : Ld} {T : Tx} {k p : Nat} (hC : CL n f μ a L) (hw : WF n L) (ha : a ≤ 18) (hT : LC μ 48 T) (hW : WT T) (hp : p < n) (hk : k ≤ 2) : Ok (f_X4_sumOf μ 48 (nI k) a (nI p)) (fun q => q.1 = sumA T n L k p ∧ Fr s5 μ q.2) := by
  have hT' := hT
  obtain ⟨h1, h2, h3, h4, h5⟩ := hT
  have hl : T 1 0 ≤ 12 := hW.2.2.1
  unfold f_X4_sumOf f_X4_sumOf_l9
  refine Ok.loop (fun j z => z.1 = osum (sumG T n L k p) j ∧ z.2.2.1 = nI j ∧ Fr s5 μ z.2.2.2 ∧ (z.2.1 = true → ∀ g, g < 9 → z.2.2.2 54 g = factA n L p g)) (fun t => t.1 = sumA T n L k p ∧ Fr s5 μ t.2) (T 1 0) (by omega) ⟨rfl, rfl, Fr.refl, fun q => by cases q⟩ (fun j z hj hI => ?_) (fun t ht => ?_)
  · obtain ⟨acc, fl, c, ν⟩ := z
    obtain ⟨e1, e2, hF, hA⟩ := hI
    dsimp only at e1 e2 hF hA
    subst e1 e2
    show Ok (f_X4_sumOf_b9 ν 48 a (nI k) (nI p) _ fl (nI j)) _
    unfold f_X4_sumOf_b9
    have f48 : ν 48 = μ 48 := hF _ (by unfold s5; decide)
    have f49 : ν (48 + 1) = μ (48 + 1) := hF _ (by unfold s5; decide)
    have f50 : ν (48 + 2) = μ (48 + 2) := hF _ (by unfold s5; decide)
    rw [f48, h2]
    by_cases hc : j = T 1 0
    · subst hc
      exact Ok.t (nI_le (Nat.le_refl _) (by omega)) (Ok.d ⟨rfl, hF⟩)
    · have hj2 : j < T 1 0 := by omega
      obtain ⟨g1, g2, g3, g4⟩ := h4 j hj2
      have w2 := hW.2.2.2.2 j hj2
      refine Ok.e (nI_ge hj2 (by omega)) ?_
      refine Ok.s (a := nI (T 2 j)) (by rw [rd_nI (by omega) (by decide), f49, g1]) ?_
      by_cases hkd : T 2 j = k
      · refine Ok.t (by rw [hkd]) ?_
        -- the facts are there
        have rest : ∀ (fl2 : Bool) (ν2 : Mem), Fr s5 μ ν2 → (∀ g, g < 9 → ν2 54 g = factA n L p g) → Ok (f_X4_sumOf_j43_9 ν2 48 a (nI k) (nI p) (osum (sumG T n L k p) j) true (nI j)) (LoopP (fun j z => z.1 = osum (sumG T n L k p) j ∧ z.2.2.1 = nI j ∧ Fr s5 μ z.2.2.2 ∧ (z.2.1 = true → ∀ g, g < 9 → z.2.2.2 54 g = factA n L p g)) (fun t => t.1 = sumA T n L k p ∧ Fr s5 μ t.2) (T 1 0) j) := by
          intro fl2 ν2 hF2 hA2
          unfold f_X4_sumOf_j43_9
          refine Ok.b (X4_holds (hT'.fr fun j hj => hF2 _ (by unfold s5; omega)) hW hj2 hA2 fact7) (fun q hq => ?_)
          obtain ⟨hb, ν3⟩ := q
          obtain ⟨rfl, hF3⟩ := hq
          dsimp only at hF3
          have hF4 : Fr s5 μ ν3 := hF2.trans (hF3.mono fun k hk => Or.inr hk)
          have hA3 : ∀ g, g < 9 → ν3 54 g = factA n L p g := fun g hg => by rw [hF3 54 (by decide)]; exact hA2 g hg
          dsimp only
          by_cases hh : holdsA T (factA n L p) j = true
          · refine Ok.t hh ?_
            refine Ok.s (a := nI (T 3 j)) (by rw [rd_nI (by omega) (by decide), hF4 (48 + 2) (by unfold s5; decide), g2]) ?_
            unfold f_X4_sumOf_j64_9
            exact Ok.c hj2 ⟨by rw [osum_s, sumG_t hkd hh], nI_1 _, hF4, fun _ => hA3⟩
          · refine Ok.e hh ?_
            unfold f_X4_sumOf_j64_9
            exact Ok.c hj2 ⟨by rw [osum_s, sumG_f (fun q => hh q.2), Int32.add_zero], nI_1 _, hF4, fun _ => hA3⟩
        cases fl with
        | true => exact Ok.t rfl (rest true ν hF (hA rfl))
        | false =>
          refine Ok.e (by decide) ?_
          refine Ok.b (X4_ask (hC.fr fun j hj => hF _ (by unfold s5; omega)) hw ha hp) (fun ν2 hq => ?_)
          exact rest false ν2 (hF.trans (hq.1.mono fun k hk => Or.inl hk)) hq.2
      · refine Ok.e (fun q => hkd ((nI_eq (by omega) (by omega)).mp q)) ?_
        unfold f_X4_sumOf_j64_9
        exact Ok.c hj2 ⟨by rw [osum_s, sumG_f (fun q => hkd q.1), Int32.add_zero], nI_1 _, hF, hA⟩
  · exact Ok.r ht
theorem X12_hasLaw {μ : Mem} {T : Tx} (hT : LM (μ 265) T) (hW : WT T) : f_X12_hasLaw μ = some (decide (T 0 0 = 1)) := by
  unfold f_X12_hasLaw
  refine bs (rd_k 2 rfl (by decide) (by decide)) ?_
  rw [hT.1]
  rcases (show T 0 0 = 0 ∨ T 0 0 = 1 by have := hW.1; omega) with e | e <;> rw [e] <;> rfl
theorem X12_sumOf {n : Nat} {f : Int32} {μ : Mem} {L : Ld} {T : Tx} {k p : Nat} (h : ML n f (μ 265) L) (hw : WF n L) (hT : LM (μ 265) T) (ht : T 0 0 = 1) (hW : WT T) (hp : p < n) (hk : k ≤ 2) : Ok (f_X12_sumOf μ (nI k) (nI p)) (fun q => q.1 = sumA T n L k p ∧ Fr (fun k => k = 272) μ q.2) := by
  obtain ⟨h2, h4, h5⟩ := hT.2 ht
  have hl : T 1 0 ≤ 12 := hW.2.2.1
  unfold f_X12_sumOf f_X12_sumOf_l5
  refine Ok.loop (fun j z => z.1 = osum (sumG T n L k p) j ∧ z.2.1 = nI j ∧ Fr (fun k => k = 272) μ z.2.2) (fun t => t.1 = sumA T n L k p ∧ Fr (fun k => k = 272) μ t.2) (T 1 0) (by omega) ⟨rfl, rfl, Fr.refl⟩ (fun j z hj hI => ?_) (fun t ht => ?_)
  · obtain ⟨acc, c, ν⟩ := z
    obtain ⟨e1, e2, hF⟩ := hI
    dsimp only at e1 e2 hF
    subst e1 e2
    show Ok (f_X12_sumOf_b5 ν (nI k) (nI p) _ (nI j)) _
    unfold f_X12_sumOf_b5
    have f65 : ν 265 = μ 265 := hF _ (by decide)
    refine Ok.s (a := nI (T 1 0)) (by rw [rd_k (k := 370) 370 rfl (by decide) (by decide), f65, h2]) ?_
    by_cases hc : j = T 1 0
    · subst hc
      exact Ok.t (nI_le (Nat.le_refl _) (by omega)) (Ok.d ⟨rfl, hF⟩)
    · have hj2 : j < T 1 0 := by omega
      obtain ⟨g1, g2, g3, g4⟩ := h4 j hj2
      have w2 := hW.2.2.2.2 j hj2
      refine Ok.e (nI_ge hj2 (by omega)) ?_
      rw [ix_4]
      refine Ok.s (a := nI (T 2 j)) (by rw [rd_nI (by omega) (by decide), f65, g1]) ?_
      by_cases hkd : T 2 j = k
      · refine Ok.t (by rw [hkd]) ?_
        refine Ok.b (X12_holdsLine (by rw [f65]; exact h) hw hp (by rw [f65]; exact hT) ht hW hj2) (fun q hq => ?_)
        obtain ⟨hb, ν3⟩ := q
        obtain ⟨rfl, hF3⟩ := hq
        dsimp only at hF3
        have hF4 : Fr (fun k => k = 272) μ ν3 := hF.trans hF3
        dsimp only
        by_cases hh : holdsA T (factA n L p) j = true
        · refine Ok.t hh ?_
          refine Ok.s (a := nI (T 3 j)) (by rw [nI_1, rd_nI (by omega) (by decide), hF4 265 (by decide), g2]) ?_
          unfold f_X12_sumOf_j63_5
          exact Ok.c hj2 ⟨by rw [osum_s, sumG_t hkd hh], nI_1 _, hF4⟩
        · refine Ok.e hh ?_
          unfold f_X12_sumOf_j63_5
          exact Ok.c hj2 ⟨by rw [osum_s, sumG_f (fun q => hh q.2), Int32.add_zero], nI_1 _, hF4⟩
      · refine Ok.e (fun q => hkd ((nI_eq (by omega) (by omega)).mp q)) ?_
        unfold f_X12_sumOf_j63_5
        exact Ok.c hj2 ⟨by rw [osum_s, sumG_f (fun q => hkd q.1), Int32.add_zero], nI_1 _, hF⟩
  · exact Ok.r ht
/-! STEPS, RATES, GROWTH -/
def mx (a b : Int32) : Int32 := if a < b then b else a
def mn (a b : Int32) : Int32 := if b < a then b else a
theorem J9_max {μ : Mem} {a b : Int32} : f_J9_max_7cf53 μ a b = some (mx a b) := rfl
theorem J9_min {μ : Mem} {a b : Int32} : f_J9_min_7cf53 μ a b = some (mn a b) := rfl
def walkA (T : Tx) (n : Nat) (L : Ld) (p : Nat) : Int32 := mx 0 (L 2 p - (if T 0 0 = 1 then sumA T n L 0 p else 2 * slack L p))
def rateA (T : Tx) (n : Nat) (L : Ld) (p : Nat) : Int32 := mn 100 (if T 0 0 = 1 then sumA T n L 2 p else 10 * slack L p)
def growA (T : Tx) (n : Nat) (L : Ld) (l : Nat) : Int32 := L 9 l + (if T 0 0 = 1 then sumA T n L 1 (l / 2) else 0)
theorem LC.told {μ : Mem} {b : Nat} {T : Tx} (h : LC μ b T) (hW : WT T) : i2b (μ b 0) = decide (T 0 0 = 1) := by
  rw [h.1]
  rcases (show T 0 0 = 0 ∨ T 0 0 = 1 by have := hW.1; omega) with e | e <;> rw [e] <;> rfl
theorem slack_3 (L : Ld) (p : Nat) : slack L p = 0 ∨ slack L p = 1 ∨ slack L p = 2 := by
  unfold slack off9
  split <;> split <;> decide
section Wk
variable {n : Nat} {f : Int32} {μ : Mem} {a : Nat} {L : Ld} {T : Tx} {p : Nat}
theorem X2_walkOf (hC : CL n f μ a L) (hw : WF n L) (ha : a ≤ 18) (hT : LC μ 48 T) (hW : WT T) (hp : p < n) : Ok (f_X2_walkOf μ a (nI p) 48) (fun q => q.1 = walkA T n L p ∧ Fr s5 μ q.2) := by
  unfold f_X2_walkOf
  rw [hT.told hW]
  by_cases c : T 0 0 = 1
  · refine Ok.t (decide_eq_true c) ?_
    refine Ok.b (X4_sumOf hC hw ha hT hW hp (k := 0) (by decide)) (fun q hq => ?_)
    obtain ⟨v, ν⟩ := q
    obtain ⟨rfl, hF⟩ := hq
    dsimp only at hF ⊢
    unfold f_X2_walkOf_j24
    have hc2 : CL n f ν a L := hC.fr fun j hj => hF _ (by unfold s5; omega)
    refine Ok.s (hc2.rdP (k := 2) (by decide) hp) ?_
    refine Ok.s J9_max ?_
    exact Ok.r ⟨by unfold walkA; rw [if_pos c], hF⟩
  · refine Ok.e (by simp [c]) ?_
    refine Ok.s (X2_slackOf hC hp) ?_
    unfold f_X2_walkOf_j24
    refine Ok.s (hC.rdP (k := 2) (by decide) hp) ?_
    refine Ok.s J9_max ?_
    exact Ok.r ⟨by unfold walkA; rw [if_neg c], Fr.refl⟩
theorem X2_fallOf (hC : CL n f μ a L) (hw : WF n L) (ha : a ≤ 18) (hT : LC μ 48 T) (hW : WT T) (hp : p < n) : Ok (f_X2_fallOf μ a (nI p) 48) (fun q => q.1 = rateA T n L p ∧ Fr s5 μ q.2) := by
  unfold f_X2_fallOf
  rw [hT.told hW]
  by_cases c : T 0 0 = 1
  · refine Ok.t (decide_eq_true c) ?_
    refine Ok.b (X4_sumOf hC hw ha hT hW hp (k := 2) (by decide)) (fun q hq => ?_)
    obtain ⟨v, ν⟩ := q
    obtain ⟨rfl, hF⟩ := hq
    dsimp only at hF ⊢
    refine Ok.s J9_min ?_
    exact Ok.r ⟨by unfold rateA; rw [if_pos c], hF⟩
  · refine Ok.e (by simp [c]) ?_
    refine Ok.s (X2_slackOf hC hp) ?_
    refine Ok.r ⟨?_, Fr.refl⟩
    unfold rateA
    rw [if_neg c]
    show 10 * slack L p = mn 100 (10 * slack L p)
    rcases slack_3 L p with e | e | e <;> rw [e] <;> decide
theorem X2_growthOf {l : Nat} (hC : CL n f μ a L) (hw : WF n L) (ha : a ≤ 18) (hT : LC μ 48 T) (hW : WT T) (hl : l < 2 * n) : Ok (f_X2_growthOf μ a (nI l) 48) (fun q => q.1 = growA T n L l ∧ Fr s5 μ q.2) := by
  have hn := hC.n6
  unfold f_X2_growthOf
  refine Ok.s (hC.rdL (k := 9) (by decide) hl) ?_
  refine Ok.s (X11_ownerOf (by omega)) ?_
  refine Ok.b (X4_sumOf hC hw ha hT hW (p := l / 2) (by omega) (k := 1) (by decide)) (fun q hq => ?_)
  obtain ⟨v, ν⟩ := q
  obtain ⟨rfl, hF⟩ := hq
  refine Ok.r ⟨?_, hF⟩
  unfold growA
  by_cases c : T 0 0 = 1
  · rw [if_pos c]
  · rw [if_neg c]
    unfold sumA
    rw [hW.2.1 (by have := hW.1; omega)]
    rfl
theorem X12_walksBy (h : ML n f (μ 265) L) (hw : WF n L) (hT : LM (μ 265) T) (hW : WT T) (hp : p < n) : Ok (f_X12_walksBy μ (nI p)) (fun q => q.1 = walkA T n L p ∧ Fr (fun k => k = 272) μ q.2) := by
  unfold f_X12_walksBy
  refine Ok.s (X12_of1 h hp) ?_
  refine Ok.s (X12_hasLaw hT hW) ?_
  by_cases c : T 0 0 = 1
  · refine Ok.t (decide_eq_true c) ?_
    refine Ok.b (X12_sumOf h hw hT c hW hp (k := 0) (by decide)) (fun q hq => ?_)
    obtain ⟨v, ν⟩ := q
    obtain ⟨rfl, hF⟩ := hq
    exact Ok.r ⟨by unfold walkA; rw [if_pos c]; rfl, hF⟩
  · refine Ok.e (by simp [c]) ?_
    refine Ok.s (X12_slackOf h hp) ?_
    exact Ok.r ⟨by unfold walkA; rw [if_neg c]; rfl, Fr.refl⟩
theorem X12_fallsBy (h : ML n f (μ 265) L) (hw : WF n L) (hT : LM (μ 265) T) (hW : WT T) (hp : p < n) : Ok (f_X12_fallsBy μ (nI p)) (fun q => q.1 = rateA T n L p ∧ Fr (fun k => k = 272) μ q.2) := by
  unfold f_X12_fallsBy
  refine Ok.s (X12_hasLaw hT hW) ?_
  by_cases c : T 0 0 = 1
  · refine Ok.t (decide_eq_true c) ?_
    refine Ok.b (X12_sumOf h hw hT c hW hp (k := 2) (by decide)) (fun q hq => ?_)
    obtain ⟨v, ν⟩ := q
    obtain ⟨rfl, hF⟩ := hq
    exact Ok.r ⟨by unfold rateA; rw [if_pos c]; rfl, hF⟩
  · refine Ok.e (by simp [c]) ?_
    refine Ok.s (X12_slackOf h hp) ?_
    exact Ok.r ⟨by unfold rateA; rw [if_neg c]; rfl, Fr.refl⟩
theorem X12_growsBy {l : Nat} (h : ML n f (μ 265) L) (hw : WF n L) (hT : LM (μ 265) T) (hW : WT T) (hl : l < 2 * n) : Ok (f_X12_growsBy μ (nI l)) (fun q => q.1 = growA T n L l ∧ Fr (fun k => k = 272) μ q.2) := by
  have hn := h.n6
  unfold f_X12_growsBy
  refine Ok.s (X12_lace3 h hl) ?_
  refine Ok.s (X12_hasLaw hT hW) ?_
  by_cases c : T 0 0 = 1
  · refine Ok.t (decide_eq_true c) ?_
    refine Ok.s (X12_ownerOf (by omega)) ?_
    refine Ok.b (X12_sumOf h hw hT c hW (p := l / 2) (by omega) (k := 1) (by decide)) (fun q hq => ?_)
    obtain ⟨v, ν⟩ := q
    obtain ⟨rfl, hF⟩ := hq
    exact Ok.r ⟨by unfold growA; rw [if_pos c], hF⟩
  · refine Ok.e (by simp [c]) ?_
    exact Ok.r ⟨by unfold growA; rw [if_neg c], Fr.refl⟩
end Wk
theorem osum_nI {f : Nat → Int32} {b : Nat} (h : ∀ i, ∃ x, x ≤ b ∧ f i = nI x) : ∀ m, ∃ x, x ≤ b * m ∧ osum f m = nI x
  | 0 => ⟨0, by omega, rfl⟩
  | m + 1 => by
    obtain ⟨x, hx, e⟩ := osum_nI h m
    obtain ⟨y, hy, e2⟩ := h m
    exact ⟨x + y, by rw [Nat.mul_succ]; omega, by rw [osum_s, e, e2, nI_add]⟩
theorem sumA_nI {T : Tx} {n k p : Nat} {L : Ld} (hW : WT T) : ∃ x, x ≤ 1188 ∧ sumA T n L k p = nI x := by
  have h3 := hW.2.2.1
  have key : ∀ m, m ≤ T 1 0 → ∃ x, x ≤ 99 * m ∧ osum (sumG T n L k p) m = nI x := by
    intro m
    induction m with
    | zero => intro _; exact ⟨0, by omega, rfl⟩
    | succ m ih =>
      intro hm
      obtain ⟨x, hx, e⟩ := ih (by omega)
      have hn := (hW.2.2.2.2 m (by omega)).2.1
      by_cases c : T 2 m = k ∧ holdsA T (factA n L p) m = true
      · exact ⟨x + T 3 m, by omega, by rw [osum_s, e, sumG_t c.1 c.2, nI_add]⟩
      · exact ⟨x, by omega, by rw [osum_s, e, sumG_f c, Int32.add_zero]⟩
  obtain ⟨x, hx, e⟩ := key _ (Nat.le_refl _)
  exact ⟨x, by omega, e⟩
theorem mx0_sub {a b : Nat} (ha : a < 2 ^ 30) (hb : b < 2 ^ 30) : mx 0 (nI a - nI b) = nI (a - b) := by
  unfold mx
  rcases Nat.lt_or_ge b a with h | h
  · rw [pk_sub (by omega), if_pos (show (0 : Int32) < nI (a - b) from nI_lt (a := 0) (by omega) (by omega))]
  · rcases Nat.lt_or_ge a b with h2 | h2
    · have hneg : ¬ (0 : Int32) < nI a - nI b := by
        intro q
        have h3 := Int32.lt_iff_toInt_lt.mp (pk_sneg hb h2)
        have h4 := Int32.lt_iff_toInt_lt.mp q
        omega
      rw [if_neg hneg, show a - b = 0 by omega]
      rfl
    · rw [pk_sub h2, show a - b = 0 by omega]; rfl
theorem mn_nI {a b : Nat} (ha : a < 2 ^ 31) (hb : b < 2 ^ 31) : mn (nI a) (nI b) = nI (min a b) := by
  unfold mn
  rcases Nat.lt_or_ge b a with h | h
  · rw [if_pos (nI_lt h ha), Nat.min_eq_right (by omega)]
  · rw [if_neg (nI_nlt h hb), Nat.min_eq_left h]
theorem walkA_nI {T : Tx} {n p : Nat} {L : Ld} (hW : WT T) (hw : WF n L) (hp : p < n) : ∃ x, x ≤ 9 ∧ walkA T n L p = nI x := by
  obtain ⟨y, hy1, hy2, ey⟩ := (hw.man hp).2.1
  unfold walkA
  rw [ey]
  by_cases c : T 0 0 = 1
  · obtain ⟨x, hx, e⟩ := sumA_nI (T := T) (n := n) (k := 0) (p := p) (L := L) hW
    rw [if_pos c, e, mx0_sub (by omega) (by omega)]
    exact ⟨y - x, by omega, rfl⟩
  · rw [if_neg c]
    rcases slack_3 L p with e | e | e <;> rw [e]
    · rw [show (2 : Int32) * 0 = nI 0 from rfl, mx0_sub (by omega) (by omega)]; exact ⟨y - 0, by omega, rfl⟩
    · rw [show (2 : Int32) * 1 = nI 2 from by decide, mx0_sub (by omega) (by omega)]; exact ⟨y - 2, by omega, rfl⟩
    · rw [show (2 : Int32) * 2 = nI 4 from by decide, mx0_sub (by omega) (by omega)]; exact ⟨y - 4, by omega, rfl⟩
theorem growA_nI {T : Tx} {n l : Nat} {L : Ld} (hW : WT T) (hl : ∃ x, x ≤ 9 ∧ L 9 l = nI x) : ∃ x, x ≤ 1197 ∧ growA T n L l = nI x := by
  obtain ⟨y, hy, ey⟩ := hl
  unfold growA
  rw [ey]
  by_cases c : T 0 0 = 1
  · obtain ⟨x, hx, e⟩ := sumA_nI (T := T) (n := n) (k := 1) (p := l / 2) (L := L) hW
    rw [if_pos c, e, nI_add]
    exact ⟨y + x, by omega, rfl⟩
  · rw [if_neg c, Int32.add_zero]
    exact ⟨y, by omega, rfl⟩
