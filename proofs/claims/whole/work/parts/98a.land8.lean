/-! LAND: the call, once more, with the law's cells kept -/
/-- what both have done when a text has been read: k 0, or thrown as k -/
def LQ8 (μ ν : Mem) (k : Nat) (v wf : Int32) (n' : Nat) (f : Int32) (L' : Ld) (μ' ν' : Mem) : Prop :=
  (ν' 264 0 = TxQ k ∧ CL n' f μ' 3 L' ∧ ML n' f (ν' 265) L' ∧ WF n' L' ∧ ν' 265 2 = ν 265 2 ∧ ∀ j, 370 ≤ j → j < 1219 → ν' 265 j = ν 265 j) ∧ (μ' 1 1 = 0 ∧ μ' 1 4 = wf ∧ ν' 264 9 = 0 ∧ ν' 264 14 = wf) ∧ (if k = 0 then μ' 74 2 = 0 ∧ ν' 264 7 = 0 else μ' 74 2 = μ 74 2 ∧ ν' 264 7 = ν 264 7) ∧ (∀ i, i ≠ 2 → μ' 74 i = μ 74 i) ∧ (∀ b, b ≠ 1 → ¬ (3 ≤ b ∧ b ≤ 32) → ¬ (54 ≤ b ∧ b ≤ 63) → b ≠ 74 → μ' b = μ b) ∧ (∀ b, b ≠ 264 → b ≠ 265 → b ≠ 267 → ν' b = ν b) ∧ ν' 264 6 = ν 264 6
def LR8 (μ ν : Mem) (f : Int32) (r : (Nat × Mem) ⊕ (Int32 × Mem)) (q : Int32 × Mem) : Prop := ∃ (k : Nat) (v wf : Int32) (n' : Nat) (L' : Ld) (μ' : Mem), (k = 0 ∨ k = 1 ∨ k = 5) ∧ r = (if k = 0 then .inr (v, μ') else .inl (k, μ')) ∧ (k = 0 → q.1 = v) ∧ LQ8 μ ν k v wf n' f L' μ' q.2
section Lc8
variable {c : Nat} {B : Nat → Nat} {μ ν : Mem} {n : Nat} {f : Int32} {L : Ld}
theorem S_land8 (hC : CL n f μ 3 L) (hw : WF n L) (hc : c ≤ 400) (hb : ∀ i, B i < 256) (hT : TpC μ c B) (h72 : μ 72 1 = nI 14) (hM : ML n f (ν 265) L) (hN : TpM ν c B) : Sim (f_X11_land μ) (f_X12_land ν) (LR8 μ ν f) := by
  unfold f_X11_land f_X12_land f_X12_land_l2
  -- the model's copy
  obtain ⟨νA, eA, hFA, hvA⟩ := X12_landCopy (ν := ν)
  obtain ⟨tA, eA1, eA2⟩ := ob eA
  cases eA2
  refine Sim.r eA1 ?_
  refine Sim.lo (X2_copyFrom hC dis18) (fun μA hμA => ?_)
  have oA : ∀ k, k < 18 ∨ 32 < k → μA k = μ k := fun k hk => hμA.2 k (by unfold sA; omega)
  have hTA : TpC μA c B := ⟨by rw [oA 1 (by decide)]; exact hT.1, fun i hi => by rw [oA 2 (by decide)]; exact hT.2 i hi⟩
  have oν : ∀ k, k ≠ 267 → νA k = ν k := fun k hk => hFA k hk
  -- the memories that the reading starts from
  generalize hν0 : mset (usesM νA) 264 16 0 = ν0
  have u11 : ν0 264 11 = nI c := by rw [← hν0, mset_atn (by decide), uses_11, oν 264 (by decide)]; exact hN.1
  have u70 : ∀ i, i < c → ν0 270 i = sb (B i) := fun i hi => by rw [← hν0, mset_ne (by decide), uses_o (by decide), oν 270 (by decide)]; exact hN.2 i hi
  obtain ⟨H, eO, hCr⟩ := X8_open hc hb hTA ν0 u11 u70
  generalize hμ0 : mset (mset (mset μA 1 1 0) 1 2 (nI c)) 1 4 (-1) = μ0 at H eO hCr
  have o0 : ∀ k, k ≠ 1 → μ0 k = μA k := fun k hk => by rw [← hμ0, mset_ne hk, mset_ne hk, mset_ne hk]
  have e065 : ν0 265 = ν 265 := by rw [← hν0, mset_ne (by decide), uses_o (by decide), oν 265 (by decide)]
  have e10 : ν0 264 10 = nI 0 := by
    rw [← hν0, mset_atn (by decide)]
    unfold usesM
    exact mset_at
  have hbl : f_X12_blanks ν0 = some (setPB ν0 (sk c B 0) (sk c B 0)) := X12_blanks H Mb.refl e10 (Nat.zero_le _)
  have hR : RT c B μ0 ν0 (mset μ0 1 3 (nI (sk c B 0))) (setPB ν0 (sk c B 0) (sk c B 0)) (sk c B 0) (sk c B 0) := ⟨hCr, Mb.refl.pb, setPB_10, sk_le (Nat.zero_le _), sk_sk hc⟩
  have hL : LRel ν0 n f L (mset μ0 1 3 (nI (sk c B 0))) (setPB ν0 (sk c B 0) (sk c B 0)) := by
    refine ⟨hμA.1.fr fun j hj => by rw [mset_ne (by omega), o0 _ (by omega)], by rw [setPB_o (by decide), e065]; exact hM, hw, ?_⟩
    unfold K65
    rw [setPB_o (by decide)]
    exact ⟨rfl, rfl, fun _ _ => rfl⟩
  have hS := S_all H (by rw [o0 72 (by decide), oA 72 (by decide)]; exact h72) hR rfl hL
  unfold f_X6_readAll_72 f_X12_land_j27 f_X12_readAll
  rw [X12_uses, sb9, hν0, hbl, sb9, eO, sb9]
  obtain ⟨m1, q, k1, k2, k3⟩ := hS
  rw [k1, sb9, k2, sb9]
  obtain ⟨r, v1⟩ := q
  obtain ⟨t, ht12, et⟩ := hw.1
  have eL1 : ν0 265 1 = nI t := by
    rw [e065, ← et]
    exact hM.at0 (i := 1) (by decide)
  -- the class's other cells
  have frC : ∀ {m : Mem}, Cb μ0 m → (∀ b, b ≠ 1 → ¬ (18 ≤ b ∧ b ≤ 32) → ¬ (56 ≤ b ∧ b ≤ 61) → m b = μ b) := fun {m} h b h1 h2 h3 => by
    rw [h.1 b (by unfold cS; omega), o0 b h1, oA b (by omega)]
  have s11 : ∀ {m : Mem}, Cb μ0 m → m 1 1 = 0 := fun {m} h => by
    rw [h.2 1 (by decide) (by decide), ← hμ0, mset_atn (by decide), mset_atn (by decide), mset_at]
  have m0 : ∀ {v : Mem}, Mb ν0 v → v 264 0 = 0 ∧ v 264 9 = 0 ∧ v 264 7 = ν 264 7 ∧ v 264 6 = ν 264 6 ∧ (∀ b, b ≠ 264 → b ≠ 265 → b ≠ 267 → v b = ν b) ∧ ∀ q, q < 1219 → v 267 q = ν 265 q := fun {v} h => by
    refine ⟨?_, ?_, ?_, ?_, fun b h1 h2 h3 => ?_, fun q hq => ?_⟩
    · rw [h.2 0 (by decide) (by decide) (by decide) (by decide), ← hν0, mset_atn (by decide)]; exact uses_0
    · rw [h.2 9 (by decide) (by decide) (by decide) (by decide), ← hν0, mset_atn (by decide)]; exact uses_9
    · rw [h.2 7 (by decide) (by decide) (by decide) (by decide), ← hν0, mset_atn (by decide), uses_i (by decide) (by decide) (by decide) (by decide), oν 264 (by decide)]
    · rw [h.2 6 (by decide) (by decide) (by decide) (by decide), ← hν0, mset_atn (by decide), uses_i (by decide) (by decide) (by decide) (by decide), oν 264 (by decide)]
    · rw [h.1 b h1 h2, ← hν0, mset_ne h1, uses_o h1, oν b h3]
    · rw [h.1 267 (by decide) (by decide), ← hν0, mset_ne (by decide), uses_o (by decide)]; exact hvA q hq
  -- what was before comes back
  have back : ∀ (v : Mem) (k : Nat) (wf : Int32) (m : Mem), (k = 1 ∨ k = 5) → Cb μ0 m → m 1 4 = wf → v 264 0 = TxQ k → v 264 14 = wf → v 264 9 = 0 → v 264 7 = ν 264 7 → v 264 6 = ν 264 6 → (∀ b, b ≠ 264 → b ≠ 265 → b ≠ 267 → v b = ν b) → (∀ q, q < 1219 → v 267 q = ν 265 q) → Sim (some (Sum.inl (k, m))) (f_X12_land_j90 v) (LR8 μ ν f) := by
    intro v k wf m hk hb1 c14 v0 v14 v9 v7 v6 vo v267
    obtain ⟨q, e1, e2, e3'⟩ := X12_landBack (v := v)
    have e3 : ∀ j, j < 1219 → q.2 265 j = ν 265 j := fun j hj => (e3' j hj).trans (v267 j hj)
    refine ⟨_, q, rfl, e1, k, 0, wf, n, L, m, by omega, ?_, fun e => by omega, ?_⟩
    · rw [if_neg (by omega)]
    · have e64 : q.2 264 = v 264 := e2 264 (by decide)
      have k0 : k ≠ 0 := by omega
      refine ⟨⟨by rw [e64]; exact v0, hC.fr fun j hj => frC hb1 _ (by omega) (by omega) (by omega), hM.fr fun j hj => e3 j (by omega), hw, e3 2 (by decide), fun j h1 h2 => e3 j h2⟩, ⟨s11 hb1, c14, by rw [e64]; exact v9, by rw [e64]; exact v14⟩, ?_, fun i _ => by rw [frC hb1 74 (by decide) (by decide) (by decide)], fun b h1 h2 h3 h4 => frC hb1 b h1 (by omega) (by omega), fun b h1 h2 h3 => by rw [e2 b h2]; exact vo b h1 h2 h3, by rw [e64]; exact v6⟩
      rw [if_neg k0]
      exact ⟨by rw [frC hb1 74 (by decide) (by decide) (by decide)], by rw [e64]; exact v7⟩
  rcases k3 with ⟨kk, n2, L2, a2, p2, e1, k14, r2, hL2⟩ | ⟨e1, w, hW, q1, q2, q3⟩
  · dsimp only at e1 r2 hL2
    subst e1
    obtain ⟨z1, z2, z3, z4, z5, z6⟩ := m0 r2.2.1
    have eT : L2 0 1 = nI t := by
      have h1 : v1 265 1 = L2 0 1 := hL2.2.1.at0 (i := 1) (by decide)
      rw [← h1, hL2.2.2.2.1, eL1]
    refine Sim.l (X8_right r2.1) (Sim.lt rfl ?_)
    rw [if_pos (nI_pos' (show kk < 2 ^ 31 by omega)), if_pos (nI_pos' (show kk < 2 ^ 31 by omega))]
    have e31 : m1 3 1 = nI t := by
      rw [frC r2.1.1 3 (by decide) (by decide) (by decide), ← et]
      exact hC.at0 (i := 1) (by decide)
    rw [e31]
    refine Sim.r (X12_thrF 1) (Sim.re fnt ?_)
    dsimp only
    refine Sim.r (b := nI t) ?_ ?_
    · rw [rd_k (k := 1) 1 rfl (by decide) (by decide), mset_ne (by decide), hL2.2.2.2.1, eL1]
    by_cases e12 : t = 12
    · subst e12
      refine Sim.le (by decide) ?_
      rw [if_pos (by decide)]
      refine Sim.r (X12_thrT 2) (Sim.rt rfl ?_)
      dsimp only
      refine back _ 5 (-1) m1 (Or.inr rfl) r2.1.1 r2.1.2.2.2.1 (by rw [mset_at]; rfl) ?_ ?_ ?_ ?_ (fun b h1 h2 h3 => ?_) (fun q hq => ?_)
      · rw [mset_atn (by decide), mset_at]
      · rw [mset_atn (by decide), mset_atn (by decide)]; exact z2
      · rw [mset_atn (by decide), mset_atn (by decide)]; exact z3
      · rw [mset_atn (by decide), mset_atn (by decide)]; exact z4
      · rw [mset_ne h1, mset_ne h1]; exact z5 b h1 h2 h3
      · rw [mset_ne (by decide), mset_ne (by decide)]; exact z6 q hq
    · refine Sim.lt (nI_lt (b := 12) (by omega) (by decide)) ?_
      rw [if_neg (show ¬ nI t = 12 from fun q => e12 ((nI_eq (b := 12) (by omega) (by decide)).mp q))]
      refine Sim.r (X12_thrF 2) (Sim.re fnt ?_)
      dsimp only
      refine Sim.r (b := nI t) ?_ (Sim.r (wr_k 1 rfl (by decide) (by decide)) ?_)
      · rw [rd_k (k := 1) 1 rfl (by decide) (by decide), mset_ne (by decide), hL2.2.2.2.1, eL1]
      rw [nI_1]
      refine Sim.lo (X2_copyFrom hL2.1 (show dis 3 18 by unfold dis; omega)) (fun m3 h3 => ?_)
      unfold f_X0_forget
      have e31' : m3 3 1 = nI t := by rw [← eT]; exact h3.1.at0 (i := 1) (by decide)
      rw [e31', nI_1, sb9]
      have hC4 : CL n2 f (mset (mset m3 3 1 (nI (t + 1))) 74 2 0) 3 (upd2 L2 0 1 (nI (t + 1))) := (h3.1.set (k := 0) (i := 1) (v := nI (t + 1)) (by decide) (by omega)).fr fun j hj => mset_ne (by omega)
      have e4 : mset (mset m3 3 1 (nI (t + 1))) 74 2 0 3 1 = nI (t + 1) := by rw [mset_ne (by decide), mset_at]
      rw [e4]
      have o3 : ∀ b, b < 3 ∨ 17 < b → b ≠ 74 → mset (mset m3 3 1 (nI (t + 1))) 74 2 0 b = m1 b := fun b h1 h2 => by rw [mset_ne h2, mset_ne (by omega), h3.2 b (by unfold sA; omega)]
      have e10' : mset (mset (mset v1 264 14 (-1)) 265 1 (nI (t + 1))) 264 7 0 265 1 = nI (t + 1) := by rw [mset_ne (by decide), mset_at]
      refine Sim.r (b := nI (t + 1)) (by rw [rd_k (k := 1) 1 rfl (by decide) (by decide), e10']) (Sim.d ?_)
      have hM4 : ML n2 f (mset (mset (mset v1 264 14 (-1)) 265 1 (nI (t + 1))) 264 7 0 265) (upd2 L2 0 1 (nI (t + 1))) := by
        rw [mset_ne (by decide)]
        have : ML n2 f (mset v1 264 14 (-1) 265) L2 := by rw [mset_ne (by decide)]; exact hL2.2.1
        exact this.put (k := 0) (i := 1) (dm0 (by decide)) (by decide) (by decide) rfl
      refine ⟨0, nI (t + 1), -1, n2, upd2 L2 0 1 (nI (t + 1)), _, Or.inl rfl, rfl, fun _ => rfl, ⟨?_, hC4, hM4, hL2.2.2.1.txt (x := t + 1) (by omega) rfl, ?_, fun j h1 h2 => ?_⟩, ⟨?_, ?_, ?_, ?_⟩, ?_, fun i hi => ?_, fun b h1 h2 h3' h4 => ?_, fun b h1 h2 h3' => ?_, ?_⟩
      · show mset (mset (mset v1 264 14 (-1)) 265 1 (nI (t + 1))) 264 7 0 264 0 = 0
        rw [mset_atn (by decide), mset_ne (by decide), mset_atn (by decide)]; exact z1
      · show mset (mset (mset v1 264 14 (-1)) 265 1 (nI (t + 1))) 264 7 0 265 2 = _
        rw [mset_ne (by decide), mset_atn (by decide), mset_ne (by decide), hL2.2.2.2.2.1, e065]
      · show mset (mset (mset v1 264 14 (-1)) 265 1 (nI (t + 1))) 264 7 0 265 j = _
        rw [mset_ne (by decide), mset_atn (by omega), mset_ne (by decide), hL2.2.2.2.2.2 j h1, e065]
      · rw [o3 1 (by decide) (by decide)]; exact s11 r2.1.1
      · rw [o3 1 (by decide) (by decide)]; exact r2.1.2.2.2.1
      · show mset (mset (mset v1 264 14 (-1)) 265 1 (nI (t + 1))) 264 7 0 264 9 = 0
        rw [mset_atn (by decide), mset_ne (by decide), mset_atn (by decide)]; exact z2
      · show mset (mset (mset v1 264 14 (-1)) 265 1 (nI (t + 1))) 264 7 0 264 14 = -1
        rw [mset_atn (by decide), mset_ne (by decide), mset_at]
      · rw [if_pos rfl]
        exact ⟨mset_at, (show mset (mset (mset v1 264 14 (-1)) 265 1 (nI (t + 1))) 264 7 0 264 7 = 0 from mset_at)⟩
      · rw [mset_atn hi, mset_ne (by decide), h3.2 74 (by unfold sA; omega), frC r2.1.1 74 (by decide) (by decide) (by decide)]
      · rw [o3 b (by omega) h4]
        exact frC r2.1.1 b h1 (by omega) (by omega)
      · show mset (mset (mset v1 264 14 (-1)) 265 1 (nI (t + 1))) 264 7 0 b = _
        rw [mset_ne h1, mset_ne h2, mset_ne h1]; exact z5 b h1 h2 h3'
      · show mset (mset (mset v1 264 14 (-1)) 265 1 (nI (t + 1))) 264 7 0 264 6 = _
        rw [mset_atn (by decide), mset_ne (by decide), mset_atn (by decide)]; exact z4
  · dsimp only at e1 q1 q2 q3
    subst e1
    obtain ⟨z1, z2, z3, z4, z5, z6⟩ := m0 q1
    refine Sim.l (X8_rightW H hW) (Sim.le fnt ?_)
    rw [if_neg (show ¬ (0 : Int32) ≤ -1 by decide), if_neg (show ¬ (0 : Int32) ≤ -1 by decide)]
    refine Sim.r (X12_thrT 1) (Sim.rt rfl ?_)
    dsimp only
    refine back _ 1 (nI w) m1 (Or.inl rfl) hW.1 hW.2.2.1 (by rw [mset_at]; rfl) ?_ ?_ ?_ ?_ (fun b h1 h2 h3 => ?_) (fun q hq => ?_)
    · rw [mset_atn (by decide), mset_at]; exact q2
    · rw [mset_atn (by decide), mset_atn (by decide)]; exact z2
    · rw [mset_atn (by decide), mset_atn (by decide)]; exact z3
    · rw [mset_atn (by decide), mset_atn (by decide)]; exact z4
    · rw [mset_ne h1, mset_ne h1]; exact z5 b h1 h2 h3
    · rw [mset_ne (by decide), mset_ne (by decide)]; exact z6 q hq
end Lc8
