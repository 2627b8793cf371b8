/-! COPIES -/
theorem cp_ok {μ : Mem} {s d n : Nat} {k : Int32} (hk : k = nI n) (hn : n ≤ 400) : Ok (cpM μ s n 0 d n 0 k) (fun μ' => (∀ j, j < n → μ' d j = μ s j) ∧ ∀ b, b ≠ d → μ' b = μ b) := by
  subst hk
  have z : (0 : Int32).toNatClampNeg = 0 := by decide
  have c : (nI n).toNatClampNeg = n := nI_clamp (by omega)
  unfold cpM
  rw [z, c]
  refine Ok.e ?_ (Ok.r ⟨fun j hj => ?_, fun b hb => ?_⟩)
  · rintro (q | q | q | q | q)
    · exact absurd q (by decide)
    · exact absurd q (by decide)
    · exact nI_pos (by omega) q
    · omega
    · omega
  · dsimp only
    rw [if_pos rfl, pk_cpy_in (by omega) (by omega)]
    congr 1
    omega
  · dsimp only
    rw [if_neg hb]
def lnL (c : Nat) : Nat := if c ≤ 5 then 6 else if c ≤ 11 then 12 else if c = 12 then 20 else if c = 13 then 3 else 60
def CpD (μ ν : Mem) (a0 a1 k : Nat) : Prop := Fr (sA a0) μ ν ∧ ∀ c, c ≤ k → ∀ j, j < lnL c → (c = 13 → 1 ≤ j) → ν (a0 + c) j = μ (a1 + c) j
def dis (a0 a1 : Nat) : Prop := a0 + 14 < a1 ∨ a1 + 14 < a0
theorem CpD.step {μ ν : Mem} {a0 a1 k len : Nat} {kk : Int32} (h : CpD μ ν a0 a1 k) (hd : dis a0 a1) (hk : k + 1 ≤ 14) (hl : lnL (k + 1) = len) (e : kk = nI len) : Ok (cpM ν (a1 + (k + 1)) len 0 (a0 + (k + 1)) len 0 kk) (fun ν' => CpD μ ν' a0 a1 (k + 1)) := by
  unfold dis at hd
  refine (cp_ok e (by rw [← hl]; unfold lnL; split <;> (try split) <;> (try split) <;> (try split) <;> decide)).w fun ν' hv => ⟨fun b hb => ?_, fun c hc j hj h13 => ?_⟩
  · rw [hv.2 b (fun q => hb (by rw [q]; unfold sA; omega))]
    exact h.1 b hb
  · by_cases e2 : c = k + 1
    · subst e2
      rw [hv.1 j (by rw [← hl]; exact hj)]
      rw [h.1 (a1 + (k + 1)) (by unfold sA; omega)]
    · rw [hv.2 _ (by omega)]
      exact h.2 c (by omega) j hj h13
theorem CL.copy {n : Nat} {f : Int32} {μ ν : Mem} {a0 a1 : Nat} {L : Ld} (h : CL n f μ a1 L) (hD : CpD μ ν a0 a1 14) : CL n f ν a0 L := by
  have hn := h.n6
  have hz := h.siz
  have hz2 := h.sz.2.2.2
  obtain ⟨h1, h2, h3, x, hx, ex⟩ := h
  have e1 : ν (a0 + 13) 1 = nI x := by rw [hD.2 13 (by decide) 1 (by decide) (fun _ => Nat.le_refl _), ex]
  refine ⟨fun k i hk => ?_, h2, ?_, x, hx, e1⟩
  · have h5 := h1 k i hk
    unfold craw at h5 ⊢
    by_cases hk12 : k ≤ 12
    · rw [if_pos hk12] at h5 ⊢
      rw [hD.2 k (by omega) i ?_ (by omega), h5]
      unfold lnL
      unfold dm at hk
      split
      · omega
      · split
        · omega
        · split <;> omega
    · rw [if_neg hk12] at h5 ⊢
      by_cases hk13 : k = 13
      · rw [if_pos hk13] at h5 ⊢
        rw [hD.2 13 (by decide) 2 (by decide) (by decide), h5]
      · rw [if_neg hk13] at h5 ⊢
        rw [e1, hD.2 14 (by decide) _ ?_ (fun q => absurd q (by decide)), ← ex, h5]
        show crow _ _ < 60
        unfold crow
        omega
  · rw [← h3]
    exact hD.2 0 (by decide) 5 (by decide) (by decide)
theorem X1_copyFrom {μ ν : Mem} {a0 a1 : Nat} (h : CpD μ ν a0 a1 12) (hd : dis a0 a1) : Ok (f_X1_copyFrom ν (a0 + 13) (a1 + 13)) (fun ν' => CpD μ ν' a0 a1 14) := by
  have hd' := hd
  unfold dis at hd'
  have e10 : a1 + 13 ≠ a0 + 13 := by omega
  unfold f_X1_copyFrom
  rw [mset_ne e10]
  have h13 : CpD μ (mset (mset ν (a0 + 13) 1 (ν (a1 + 13) 1)) (a0 + 13) 2 (ν (a1 + 13) 2)) a0 a1 13 := by
    refine ⟨(h.1.put (by unfold sA; omega)).put (by unfold sA; omega), fun c hc j hj hj1 => ?_⟩
    by_cases e : c = 13
    · subst e
      have hj3 : j = 1 ∨ j = 2 := by
        have : j < 3 := hj
        have := hj1 rfl
        omega
      rcases hj3 with rfl | rfl
      · rw [mset_atn (by decide), mset_at, h.1 (a1 + 13) (by unfold sA; omega)]
      · rw [mset_at, h.1 (a1 + 13) (by unfold sA; omega)]
    · rw [mset_ne (by omega), mset_ne (by omega)]
      exact h.2 c (by omega) j hj hj1
  exact (h13.step hd (by decide) (len := 60) rfl rfl).b fun ν' hv => Ok.r hv
theorem X2_copyFrom {n : Nat} {f : Int32} {μ : Mem} {a0 a1 : Nat} {L : Ld} (h : CL n f μ a1 L) (hd : dis a0 a1) : Ok (f_X2_copyFrom μ a0 a1) (fun ν => CL n f ν a0 L ∧ Fr (sA a0) μ ν) := by
  have hd' := hd
  unfold dis at hd'
  have e10 : a1 ≠ a0 := by omega
  unfold f_X2_copyFrom
  simp only [mset_ne e10]
  have h0 : CpD μ (mset (mset (mset (mset (mset (mset μ a0 0 (μ a1 0)) a0 1 (μ a1 1)) a0 2 (μ a1 2)) a0 3 (μ a1 3)) a0 4 (μ a1 4)) a0 5 (μ a1 5)) a0 a1 0 := by
    have sa : sA a0 a0 := by unfold sA; omega
    refine ⟨(((((Fr.set sa).put sa).put sa).put sa).put sa).put sa, fun c hc j hj _ => ?_⟩
    obtain rfl : c = 0 := by omega
    rw [show a0 + 0 = a0 from rfl, show a1 + 0 = a1 from rfl]
    rcases (show j = 0 ∨ j = 1 ∨ j = 2 ∨ j = 3 ∨ j = 4 ∨ j = 5 by have : j < 6 := hj; omega) with rfl | rfl | rfl | rfl | rfl | rfl
    · rw [mset_atn (by decide), mset_atn (by decide), mset_atn (by decide), mset_atn (by decide), mset_atn (by decide), mset_at]
    · rw [mset_atn (by decide), mset_atn (by decide), mset_atn (by decide), mset_atn (by decide), mset_at]
    · rw [mset_atn (by decide), mset_atn (by decide), mset_atn (by decide), mset_at]
    · rw [mset_atn (by decide), mset_atn (by decide), mset_at]
    · rw [mset_atn (by decide), mset_at]
    · rw [mset_at]
  refine (h0.step hd (by decide) (len := 6) rfl rfl).b fun ν1 h1 => ?_
  refine (h1.step hd (by decide) (len := 6) rfl rfl).b fun ν2 h2 => ?_
  refine (h2.step hd (by decide) (len := 6) rfl rfl).b fun ν3 h3 => ?_
  refine (h3.step hd (by decide) (len := 6) rfl rfl).b fun ν4 h4 => ?_
  refine (h4.step hd (by decide) (len := 6) rfl rfl).b fun ν5 h5 => ?_
  refine (h5.step hd (by decide) (len := 12) rfl rfl).b fun ν6 h6 => ?_
  refine (h6.step hd (by decide) (len := 12) rfl rfl).b fun ν7 h7 => ?_
  refine (h7.step hd (by decide) (len := 12) rfl rfl).b fun ν8 h8 => ?_
  refine (h8.step hd (by decide) (len := 12) rfl rfl).b fun ν9 h9 => ?_
  refine (h9.step hd (by decide) (len := 12) rfl rfl).b fun ν10 h10 => ?_
  refine (h10.step hd (by decide) (len := 12) rfl rfl).b fun ν11 h11 => ?_
  refine (h11.step hd (by decide) (len := 20) rfl rfl).b fun ν12 h12 => ?_
  refine (X1_copyFrom h12 hd).b fun ν13 h13 => ?_
  exact Ok.r ⟨h.copy h13, h13.1⟩
/-- the law's text -/
def sW (a k : Nat) : Prop := a ≤ k ∧ k ≤ a + 5
theorem X4_copyFrom {μ : Mem} {a0 a1 : Nat} {T : Tx} (h : LC μ a1 T) (hW : WT T) (hd : a0 + 5 < a1 ∨ a1 + 5 < a0) : Ok (f_X4_copyFrom μ a0 a1) (fun ν => LC ν a0 T ∧ Fr (sW a0) μ ν) := by
  have e10 : a1 ≠ a0 := by omega
  obtain ⟨h1, h2, h3, h4, h5⟩ := h
  unfold f_X4_copyFrom
  simp only [mset_ne e10]
  have et : b2i (i2b (μ a1 0)) = nI (T 0 0) := by
    rw [h1]
    rcases (show T 0 0 = 0 ∨ T 0 0 = 1 by have := hW.1; omega) with e | e <;> rw [e] <;> rfl
  rw [et, h2, h3]
  have sa : ∀ j, j ≤ 5 → sW a0 (a0 + j) := fun j hj => by unfold sW; omega
  generalize hν : mset (mset (mset μ a0 0 (nI (T 0 0))) a0 1 (nI (T 1 0))) a0 2 (nI (T 7 0)) = ν
  have f0 : Fr (sW a0) μ ν := by rw [← hν]; exact ((Fr.set (sa 0 (by decide))).put (sa 0 (by decide))).put (sa 0 (by decide))
  have v0 : ν a0 0 = nI (T 0 0) := by rw [← hν, mset_atn (by decide), mset_atn (by decide), mset_at]
  have v1 : ν a0 1 = nI (T 1 0) := by rw [← hν, mset_atn (by decide), mset_at]
  have v2 : ν a0 2 = nI (T 7 0) := by rw [← hν, mset_at]
  refine (cp_ok (n := 12) rfl (by decide)).b fun ν1 g1 => ?_
  refine (cp_ok (n := 12) rfl (by decide)).b fun ν2 g2 => ?_
  refine (cp_ok (n := 12) rfl (by decide)).b fun ν3 g3 => ?_
  refine (cp_ok (n := 12) rfl (by decide)).b fun ν4 g4 => ?_
  refine (cp_ok (n := 400) rfl (by decide)).b fun ν5 g5 => ?_
  have f1 : Fr (sW a0) μ ν1 := f0.trans fun b hb => g1.2 b (fun q => hb (q ▸ sa 1 (by decide)))
  have f2 : Fr (sW a0) μ ν2 := f1.trans fun b hb => g2.2 b (fun q => hb (q ▸ sa 2 (by decide)))
  have f3 : Fr (sW a0) μ ν3 := f2.trans fun b hb => g3.2 b (fun q => hb (q ▸ sa 3 (by decide)))
  have f4 : Fr (sW a0) μ ν4 := f3.trans fun b hb => g4.2 b (fun q => hb (q ▸ sa 4 (by decide)))
  have f5 : Fr (sW a0) μ ν5 := f4.trans fun b hb => g5.2 b (fun q => hb (q ▸ sa 5 (by decide)))
  have no : ∀ j, j ≤ 5 → ¬ sW a0 (a1 + j) := fun j hj => by unfold sW; omega
  have l12 : T 1 0 ≤ 12 := hW.2.2.1
  have l400 : T 7 0 ≤ 400 := hW.2.2.2.1
  have r0 : ν5 a0 = ν a0 := by rw [g5.2 _ (by omega), g4.2 _ (by omega), g3.2 _ (by omega), g2.2 _ (by omega), g1.2 _ (by omega)]
  refine Ok.r ⟨⟨by rw [r0]; exact v0, by rw [r0]; exact v1, by rw [r0]; exact v2, fun i hi => ?_, fun i hi => ?_⟩, f5⟩
  · obtain ⟨k1, k2, k3, k4⟩ := h4 i hi
    refine ⟨?_, ?_, ?_, ?_⟩
    · rw [g5.2 _ (by omega), g4.2 _ (by omega), g3.2 _ (by omega), g2.2 _ (by omega), g1.1 _ (by omega), f0 _ (no 1 (by decide)), k1]
    · rw [g5.2 _ (by omega), g4.2 _ (by omega), g3.2 _ (by omega), g2.1 _ (by omega), f1 _ (no 2 (by decide)), k2]
    · rw [g5.2 _ (by omega), g4.2 _ (by omega), g3.1 _ (by omega), f2 _ (no 3 (by decide)), k3]
    · rw [g5.2 _ (by omega), g4.1 _ (by omega), f3 _ (no 4 (by decide)), k4]
  · rw [g5.1 _ (by omega), f4 _ (no 5 (by decide)), h5 i hi]
/-! the model's -/
theorem copy_loop {ρ : Type} {μ : Mem} {g : Int32 × Mem → Option ((Int32 × Mem) ⊕ Mem)} {f : Mem → Option ρ} {Q : ρ → Prop} (N so d0 s d : Nat) (hN : N < 10000) (hg : ∀ i ν, i < N → Fr (fun k => k = d) μ ν → g (nI i, ν) = some (.inl (nI (i + 1), mset ν d (d0 + i) (ν s (so + i))))) (he : ∀ ν, Fr (fun k => k = d) μ ν → g (nI N, ν) = some (.inr ν)) (hsd : s ≠ d ∨ d0 ≤ so) (k : ∀ ν, Fr (fun k => k = d) μ ν → (∀ q, ν d q = if d0 ≤ q ∧ q < d0 + N then μ s (so + (q - d0)) else μ d q) → Ok (f ν) Q) {z0 : Int32} (hz : z0 = nI 0) : Ok (Option.bind (loopN 10000 g (z0, μ)) f) Q := by
  subst hz
  refine Ok.loop (fun j z => z.1 = nI j ∧ Fr (fun k => k = d) μ z.2 ∧ ∀ q, z.2 d q = if d0 ≤ q ∧ q < d0 + j then μ s (so + (q - d0)) else μ d q) (fun ν => Fr (fun k => k = d) μ ν ∧ ∀ q, ν d q = if d0 ≤ q ∧ q < d0 + N then μ s (so + (q - d0)) else μ d q) N hN ⟨rfl, Fr.refl, fun q => by rw [if_neg (by omega)]⟩ (fun j z hj hI => ?_) (fun ν hν => k ν hν.1 hν.2)
  obtain ⟨c, ν⟩ := z
  obtain ⟨e1, hF, hv⟩ := hI
  dsimp only at e1 hF hv
  subst e1
  by_cases hc : j = N
  · subst hc
    exact ⟨_, he ν hF, hF, hv⟩
  · refine ⟨_, hg j ν (by omega) hF, by omega, rfl, hF.put rfl, fun q => ?_⟩
    dsimp only
    by_cases e2 : q = d0 + j
    · subst e2
      rw [mset_at, if_pos (by omega), show d0 + j - d0 = j by omega]
      rcases hsd with h9 | h9
      · rw [hF s h9]
      · by_cases h8 : s = d
        · subst h8
          rw [hv, if_neg (by omega)]
        · rw [hF s h8]
    · rw [mset_atn e2, hv]
      by_cases h9 : d0 ≤ q ∧ q < d0 + j
      · rw [if_pos h9, if_pos (by omega)]
      · rw [if_neg h9, if_neg (by omega)]
def s68 (k : Nat) : Prop := k = 268
theorem X12_keepsAll {μ : Mem} : Ok (f_X12_keepsAll μ) (fun ν => Fr (fun k => k = 268) μ ν ∧ ∀ q, q < 370 → ν 268 q = μ 265 q) := by
  unfold f_X12_keepsAll f_X12_keepsAll_l2
  refine copy_loop 370 0 0 265 268 (by decide) (fun i ν hi hF => ?_) (fun ν hF => ?_) (Or.inl (by decide)) (fun ν hF hv => ?_) rfl
  · show f_X12_keepsAll_b2 ν (nI i) = _
    unfold f_X12_keepsAll_b2
    refine ie (nI_ge (b := 370) hi (by decide)) (bs (rd_nI (by omega) (by decide)) (bs (wr_nI (by omega) (by decide)) ?_))
    rw [nI_1, Nat.zero_add]
  · exact it (show (370 : Int32) ≤ nI 370 by decide) rfl
  · refine Ok.r ⟨hF, fun q hq => ?_⟩
    rw [hv, if_pos (by omega)]
    congr 1
    omega
theorem X12_bringsBack {μ : Mem} : Ok (f_X12_bringsBack μ) (fun ν => Fr (fun k => k = 265) μ ν ∧ (∀ q, q < 370 → ν 265 q = μ 268 q) ∧ ∀ q, 370 ≤ q → ν 265 q = μ 265 q) := by
  unfold f_X12_bringsBack f_X12_bringsBack_l2
  refine copy_loop 370 0 0 268 265 (by decide) (fun i ν hi hF => ?_) (fun ν hF => ?_) (Or.inl (by decide)) (fun ν hF hv => ?_) rfl
  · show f_X12_bringsBack_b2 ν (nI i) = _
    unfold f_X12_bringsBack_b2
    refine ie (nI_ge (b := 370) hi (by decide)) (bs (rd_nI (by omega) (by decide)) (bs (wr_nI (by omega) (by decide)) ?_))
    rw [nI_1, Nat.zero_add]
  · exact it (show (370 : Int32) ≤ nI 370 by decide) rfl
  · refine Ok.r ⟨hF, fun q hq => ?_, fun q hq => ?_⟩
    · rw [hv, if_pos (by omega)]
      congr 1
      omega
    · rw [hv, if_neg (by omega)]
/-- kept, changed, brought back -/
theorem back_eq {S : Nat → Prop} {μ μ1 μ2 μ3 : Mem} (h1 : Fr (fun k => k = 268) μ μ1 ∧ ∀ q, q < 370 → μ1 268 q = μ 265 q) (h2 : Ms S μ1 μ2) (hS : ¬ S 268) (h3 : Fr (fun k => k = 265) μ2 μ3 ∧ (∀ q, q < 370 → μ3 265 q = μ2 268 q) ∧ ∀ q, 370 ≤ q → μ3 265 q = μ2 265 q) : μ3 265 = μ 265 := by
  funext q
  rcases Nat.lt_or_ge q 370 with h | h
  · rw [h3.2.1 q h, h2.1 268 hS, h1.2 q h]
  · rw [h3.2.2 q h, h2.2.2 q h, h1.1 265 (by decide)]
