/-! ACTS THAT ARE REMEMBERED: r of them, the last first -/
abbrev Rec9 : Type := Nat × Int32 × Ld
def pushR (a : Rec9) (R : Nat → Rec9) : Nat → Rec9
  | 0 => a
  | j + 1 => R j
def RC (μ : Mem) (r : Nat) (R : Nat → Rec9) : Prop := r ≤ 12 ∧ μ 74 2 = nI r ∧ ∃ x, x < 12 ∧ μ 74 1 = nI x ∧ ∀ j, j < r → CL (R j).1 (R j).2.1 μ (76 + 15 * ((x + 11 - j) % 12)) (R j).2.2
def rowM (μ : Mem) (q : Nat) : Nat → Int32 := fun i => μ 269 (370 * q + i)
def RM (μ : Mem) (t r : Nat) (R : Nat → Rec9) : Prop := r ≤ 12 ∧ μ 264 7 = nI r ∧ ∀ j, j < r → ML (R j).1 (R j).2.1 (rowM μ (r - 1 - j)) (R j).2.2 ∧ rowM μ (r - 1 - j) 2 = nI t
def sR (k : Nat) : Prop := k = 74 ∨ (76 ≤ k ∧ k ≤ 255)
theorem RC.fr {μ ν : Mem} {r : Nat} {R : Nat → Rec9} (h : RC μ r R) (hF : ∀ k, 74 ≤ k → k ≤ 255 → ν k = μ k) : RC ν r R := by
  obtain ⟨h1, h2, x, hx, h3, h4⟩ := h
  have e : ν 74 = μ 74 := hF 74 (by decide) (by decide)
  exact ⟨h1, by rw [e]; exact h2, x, hx, by rw [e]; exact h3, fun j hj => (h4 j hj).fr fun i hi => hF _ (by omega) (by omega)⟩
theorem RM.fr {μ ν : Mem} {t r : Nat} {R : Nat → Rec9} (h : RM μ t r R) (h7 : ν 264 7 = μ 264 7) (h9 : ν 269 = μ 269) : RM ν t r R := by
  obtain ⟨h1, h2, h3⟩ := h
  refine ⟨h1, by rw [h7]; exact h2, fun j hj => ?_⟩
  have e : rowM ν (r - 1 - j) = rowM μ (r - 1 - j) := by unfold rowM; rw [h9]
  rw [e]
  exact h3 j hj
theorem ldA_nI {x : Nat} (hx : x < 12) : ldA (nI x) = some (76 + 15 * x) := by
  unfold ldA
  rw [if_neg (nI_in hx (by decide)), nI_clamp (by omega)]
section Ri
variable {n : Nat} {f : Int32} {μ : Mem} {L : Ld} {T : Tx} {a r t : Nat} {R : Nat → Rec9}
theorem X0_remember (hR : RC μ r R) (hC : CL n f μ 3 L) : Ok (f_X0_remember μ 3) (fun ν => RC ν (min 12 (r + 1)) (pushR (n, f, L) R) ∧ Fr sR μ ν) := by
  obtain ⟨h1, h2, x, hx, h3, h4⟩ := hR
  unfold f_X0_remember
  rw [h3]
  refine Ok.s (ldA_nI hx) ?_
  refine (X2_copyFrom hC (show dis (76 + 15 * x) 3 by unfold dis; omega)).b fun ν hv => ?_
  have e74 : ν 74 = μ 74 := hv.2 74 (by unfold sA; omega)
  rw [e74, h3, nI_1]
  refine Ok.s (rm9_nI (d := 12) rfl (by omega) (by decide) (by decide)) ?_
  rw [mset_atn (show 2 ≠ 1 by decide), e74, h2, nI_1]
  refine Ok.s J9_min ?_
  rw [show mn (nI (r + 1)) 12 = nI (min (r + 1) 12) from mn_nI (by omega) (by decide), Nat.min_comm]
  have hF : Fr sR μ (mset (mset ν 74 1 (nI ((x + 1) % 12))) 74 2 (nI (min 12 (r + 1)))) := ((hv.2.mono fun k hk => (by unfold sA at hk; unfold sR; omega : sR k)).put (Or.inl rfl)).put (Or.inl rfl)
  refine Ok.r ⟨⟨by omega, mset_at, (x + 1) % 12, by omega, by rw [mset_atn (show 1 ≠ 2 by decide), mset_at], fun j hj => ?_⟩, hF⟩
  cases j with
  | zero =>
    rw [show ((x + 1) % 12 + 11 - 0) % 12 = x by omega]
    exact hv.1.fr fun i hi => by rw [mset_ne (by omega), mset_ne (by omega)]
  | succ j =>
    rw [show ((x + 1) % 12 + 11 - (j + 1)) % 12 = (x + 11 - j) % 12 by omega]
    refine (h4 j (by omega)).fr fun i hi => ?_
    rw [mset_ne (by omega), mset_ne (by omega)]
    exact hv.2 _ (by unfold sA; omega)
def sT (k : Nat) : Prop := k = 264 ∨ k = 269
theorem X12_remembers (hR : RM μ t r R) (hM : ML n f (μ 265) L) (h2 : μ 265 2 = nI t) : Ok (f_X12_remembers μ) (fun ν => RM ν t (min 12 (r + 1)) (pushR (n, f, L) R) ∧ Fr sT μ ν ∧ ∀ i, i ≠ 7 → ν 264 i = μ 264 i) := by
  obtain ⟨h1, h7, h3⟩ := hR
  -- the last row
  have fin : ∀ ν : Mem, ν 264 7 = nI (min 12 (r + 1)) → ν 265 = μ 265 → Fr sT μ ν → (∀ i, i ≠ 7 → ν 264 i = μ 264 i) → (∀ j, j + 1 < min 12 (r + 1) → ∀ q, q < 370 → rowM ν (min 12 (r + 1) - 1 - (j + 1)) q = rowM μ (r - 1 - j) q) → Ok (f_X12_remembers_j53 ν) (fun ν => RM ν t (min 12 (r + 1)) (pushR (n, f, L) R) ∧ Fr sT μ ν ∧ ∀ i, i ≠ 7 → ν 264 i = μ 264 i) := by
    intro ν e7 e65 hF h64 hrow
    unfold f_X12_remembers_j53 f_X12_remembers_l55
    refine copy_loop 370 0 (370 * (min 12 (r + 1) - 1)) 265 269 (by decide) (fun i ν2 hi hF2 => ?_) (fun ν2 hF2 => ?_) (Or.inl (by decide)) (fun ν2 hF2 hv => ?_) rfl
    · show f_X12_remembers_b55 ν2 (nI i) = _
      unfold f_X12_remembers_b55
      refine ie (nI_ge (b := 370) hi (by decide)) (bs (rd_nI (by omega) (by decide)) ?_)
      rw [hF2 264 (by decide), e7, show (370 : Int32) = nI 370 from rfl, show (1 : Int32) = nI 1 from rfl, pk_sub (by omega), pk_mul, nI_add]
      refine bs (wr_nI (by omega) (by decide)) ?_
      rw [nI_add, Nat.zero_add]
    · exact it (show (370 : Int32) ≤ nI 370 by decide) rfl
    · unfold f_X12_remembers_j91
      have e64 : ν2 264 = ν 264 := hF2 264 (by decide)
      refine Ok.r ⟨⟨by omega, by rw [e64]; exact e7, fun j hj => ?_⟩, hF.trans (hF2.mono fun k hk => Or.inr hk), fun i hi => by rw [e64]; exact h64 i hi⟩
      cases j with
      | zero =>
        have erow : ∀ q, q < 370 → rowM ν2 (min 12 (r + 1) - 1 - 0) q = μ 265 q := fun q hq => by
          unfold rowM
          rw [hv, if_pos (by omega), e65]
          congr 1
          omega
        exact ⟨hM.fr erow, by rw [erow 2 (by decide)]; exact h2⟩
      | succ j =>
        have e9 : ∀ q, q < 370 → rowM ν2 (min 12 (r + 1) - 1 - (j + 1)) q = rowM μ (r - 1 - j) q := fun q hq => by
          rw [← hrow j (by omega) q hq]
          unfold rowM
          rw [hv, if_neg (by omega)]
        obtain ⟨g1, g2⟩ := h3 j (by omega)
        exact ⟨g1.fr e9, by rw [e9 2 (by decide)]; exact g2⟩
  unfold f_X12_remembers
  rw [h7]
  by_cases c : r = 12
  · subst c
    refine Ok.t (by decide) ?_
    unfold f_X12_remembers_l11
    refine copy_loop 4070 370 0 269 269 (by decide) (fun i ν2 hi hF2 => ?_) (fun ν2 hF2 => ?_) (Or.inr (by decide)) (fun ν2 hF2 hv => ?_) rfl
    · show f_X12_remembers_b11 ν2 (nI i) = _
      unfold f_X12_remembers_b11
      refine ie (nI_ge (b := 4070) hi (by decide)) ?_
      rw [show (370 : Int32) = nI 370 from rfl, nI_add, Nat.add_comm]
      refine bs (rd_nI (by omega) (by decide)) (bs (wr_nI (by omega) (by decide)) ?_)
      rw [nI_1, Nat.zero_add]
    · exact it (show (4070 : Int32) ≤ nI 4070 by decide) rfl
    · unfold f_X12_remembers_j40
      have e64 : ν2 264 = μ 264 := hF2 264 (by decide)
      refine fin ν2 (by rw [e64]; exact h7) (hF2 265 (by decide)) (hF2.mono fun k hk => Or.inr hk) (fun i _ => by rw [e64]) (fun j hj q hq => ?_)
      unfold rowM
      rw [hv, if_pos (by omega)]
      congr 1
      omega
  · refine Ok.e (fun q => c ((nI_eq (b := 12) (by omega) (by decide)).mp q)) ?_
    rw [nI_1]
    refine fin _ (by rw [mset_at, show min 12 (r + 1) = r + 1 by omega]) (mset_ne (by decide)) (Fr.set (Or.inl rfl)) (fun i hi => mset_atn hi) (fun j hj q hq => ?_)
    unfold rowM
    rw [mset_ne (by decide), show min 12 (r + 1) - 1 - (j + 1) = r - 1 - j by omega]
theorem X0_takeBack0 (hR : RC μ 0 R) : f_X0_takeBack μ 3 = some (false, μ) := by
  unfold f_X0_takeBack
  rw [hR.2.1]
  exact it rfl rfl
theorem X0_takeBack (hR : RC μ (r + 1) R) : Ok (f_X0_takeBack μ 3) (fun q => q.1 = true ∧ RC q.2 r (fun j => R (j + 1)) ∧ CL (R 0).1 (R 0).2.1 q.2 3 (R 0).2.2 ∧ Fr (fun k => sA 3 k ∨ k = 74) μ q.2) := by
  obtain ⟨h1, h2, x, hx, h3, h4⟩ := hR
  unfold f_X0_takeBack
  rw [h2]
  refine Ok.e (nI_ne0 (by omega) (by omega)) ?_
  rw [nI_p1, mset_atn (show 1 ≠ 2 by decide), h3, show (12 : Int32) = nI 12 from rfl, nI_add, show x + 12 = (x + 11) + 1 by omega, nI_p1]
  refine Ok.s (rm9_nI (d := 12) rfl (by omega) (by decide) (by decide)) ?_
  rw [mset_at]
  refine Ok.s (ldA_nI (by omega)) ?_
  have h0 := h4 0 (by omega)
  rw [show (x + 11 - 0) % 12 = (x + 11) % 12 by omega] at h0
  have h0' : CL (R 0).1 (R 0).2.1 (mset (mset μ 74 2 (nI r)) 74 1 (nI ((x + 11) % 12))) (76 + 15 * ((x + 11) % 12)) (R 0).2.2 := h0.fr fun i hi => by rw [mset_ne (by omega), mset_ne (by omega)]
  refine (X2_copyFrom h0' (show dis 3 (76 + 15 * ((x + 11) % 12)) by unfold dis; omega)).b fun ν hv => ?_
  have e74 : ν 74 = mset (mset μ 74 2 (nI r)) 74 1 (nI ((x + 11) % 12)) 74 := hv.2 74 (by unfold sA; omega)
  refine ⟨_, rfl, ?_⟩
  dsimp only
  refine ⟨rfl, ⟨by omega, by rw [e74, mset_atn (by decide), mset_at], (x + 11) % 12, by omega, by rw [e74, mset_at], fun j hj => ?_⟩, hv.1, ?_⟩
  · have := h4 (j + 1) (by omega)
    rw [show ((x + 11) % 12 + 11 - j) % 12 = (x + 11 - (j + 1)) % 12 by omega]
    refine this.fr fun i hi => ?_
    rw [hv.2 _ (by unfold sA; omega), mset_ne (by omega), mset_ne (by omega)]
  · exact (((Fr.set (S := fun k => sA 3 k ∨ k = 74) (Or.inr rfl)).put (Or.inr rfl))).trans (hv.2.mono fun k hk => Or.inl hk)
theorem X12_undo0 (hR : RM μ t 0 R) : f_X12_undo μ = some (false, mset μ 264 0 0) := by
  unfold f_X12_undo
  rw [mset_atn (show 7 ≠ 0 by decide), hR.2.1]
  exact it rfl rfl
theorem X12_undo (hR : RM μ t (r + 1) R) (h2 : μ 265 2 = nI t) : Ok (f_X12_undo μ) (fun q => q.1 = true ∧ RM q.2 t r (fun j => R (j + 1)) ∧ ML (R 0).1 (R 0).2.1 (q.2 265) (R 0).2.2 ∧ Ms (fun k => k = 264 ∨ k = 265) μ q.2 ∧ ∀ i, i ≠ 7 → i ≠ 0 → q.2 264 i = μ 264 i) := by
  obtain ⟨h1, h7, h3⟩ := hR
  unfold f_X12_undo
  rw [mset_atn (show 7 ≠ 0 by decide), h7]
  refine Ok.e (nI_ne0 (by omega) (by omega)) ?_
  rw [nI_p1]
  generalize hμ : mset (mset μ 264 0 0) 264 7 (nI r) = ν
  have e7 : ν 264 7 = nI r := by rw [← hμ, mset_at]
  have eo : ∀ k, k ≠ 264 → ν k = μ k := fun k hk => by rw [← hμ, mset_ne hk, mset_ne hk]
  have e64 : ∀ i, i ≠ 7 → i ≠ 0 → ν 264 i = μ 264 i := fun i h h' => by rw [← hμ, mset_atn h, mset_atn h']
  unfold f_X12_undo_l26
  refine copy_loop 370 (370 * r) 0 269 265 (by decide) (fun i ν2 hi hF2 => ?_) (fun ν2 hF2 => ?_) (Or.inl (by decide)) (fun ν2 hF2 hv => ?_) rfl
  · show f_X12_undo_b26 ν2 (nI i) = _
    unfold f_X12_undo_b26
    refine ie (nI_ge (b := 370) hi (by decide)) ?_
    rw [hF2 264 (by decide), e7, show (370 : Int32) = nI 370 from rfl, pk_mul, nI_add]
    refine bs (rd_nI (by omega) (by decide)) (bs (wr_nI (by omega) (by decide)) ?_)
    rw [nI_1, Nat.zero_add]
  · exact it (show (370 : Int32) ≤ nI 370 by decide) rfl
  · unfold f_X12_undo_j60
    have erow : ∀ q, q < 370 → ν2 265 q = rowM μ r q := fun q hq => by
      unfold rowM
      rw [hv, if_pos (by omega), eo 269 (by decide)]
      congr 1
    obtain ⟨g1, g2⟩ := h3 0 (by omega)
    rw [show r + 1 - 1 - 0 = r by omega] at g1 g2
    have e642 : ν2 264 = ν 264 := hF2 264 (by decide)
    refine ⟨_, rfl, ?_⟩
    dsimp only
    refine ⟨rfl, ⟨by omega, by rw [e642]; exact e7, fun j hj => ?_⟩, g1.fr erow, ⟨fun k hk => ?_, ?_, fun j hj => ?_⟩, fun i h h' => by rw [e642]; exact e64 i h h'⟩
    · have := h3 (j + 1) (by omega)
      rw [show r + 1 - 1 - (j + 1) = r - 1 - j by omega] at this
      have er : rowM ν2 (r - 1 - j) = rowM μ (r - 1 - j) := by unfold rowM; rw [hF2 269 (by decide), eo 269 (by decide)]
      show ML _ _ (rowM ν2 (r - 1 - j)) _ ∧ rowM ν2 (r - 1 - j) 2 = _
      rw [er]
      exact this
    · show ν2 k = μ k
      rw [hF2 k (fun q => hk (Or.inr q)), eo k (fun q => hk (Or.inl q))]
    · rw [erow 2 (by decide), g2, h2]
    · show ν2 265 j = μ 265 j
      rw [hv, if_neg (by omega), eo 265 (by decide)]
end Ri
