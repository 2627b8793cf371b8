/-! THE IMAGE, BACK, SEED, COUNTS -/
section Im
variable {n : Nat} {f : Int32} {μ : Mem} {L : Ld} {T : Tx} {a r : Nat} {R : Nat → Rec9} {b : Bool}
def ImC (μ : Mem) (b : Bool) (n : Nat) (f : Int32) (L : Ld) (T : Tx) : Prop := μ 0 13 = b2i b ∧ (b = true → CL n f μ 33 L ∧ LC μ 64 T)
def ImM (μ : Mem) (b : Bool) (n : Nat) (f : Int32) (L : Ld) (T : Tx) : Prop := μ 264 6 = b2i b ∧ (b = true → ML n f (μ 266) L ∧ LM (μ 266) T)
theorem LM.frB {w w' : Nat → Int32} (h : LM w T) (hW : WT T) (h2 : w' 2 = w 2) (hf : ∀ j, 370 ≤ j → j < 1219 → w' j = w j) : LM w' T := by
  have l12 := hW.2.2.1
  have l400 := hW.2.2.2.1
  refine ⟨by rw [h2]; exact h.1, fun ht => ?_⟩
  obtain ⟨a1, a2, a3⟩ := h.2 ht
  refine ⟨by rw [hf _ (by omega) (by omega)]; exact a1, fun i hi => ?_, fun i hi => ?_⟩
  · rw [hf _ (by omega) (by omega), hf _ (by omega) (by omega), hf _ (by omega) (by omega), hf _ (by omega) (by omega)]; exact a2 i hi
  · rw [hf _ (by omega) (by omega), hf _ (by omega) (by omega)]; exact a3 i hi
def sI (k : Nat) : Prop := k = 0 ∨ sA 33 k ∨ sW 64 k
theorem X11_image (hC : CL n f μ 3 L) (hT : LC μ 48 T) (hW : WT T) : Ok (f_X11_image μ) (fun ν => ImC ν true n f L T ∧ Fr sI μ ν) := by
  unfold f_X11_image
  refine (X2_copyFrom hC (show dis 33 3 by unfold dis; omega)).b fun ν h1 => ?_
  have hT1 : LC ν 48 T := hT.fr fun j hj => h1.2 _ (by unfold sA; omega)
  refine (X4_copyFrom hT1 hW (a0 := 64) (by omega)).b fun ν2 h2 => ?_
  refine Ok.r ⟨⟨mset_at, fun _ => ⟨?_, ?_⟩⟩, ?_⟩
  · refine (h1.1.fr fun j hj => ?_ : CL n f (mset ν2 0 13 (b2i true)) 33 L)
    rw [mset_ne (by omega), h2.2 _ (by unfold sW; omega)]
  · exact (h2.1.fr fun j hj => mset_ne (by omega) : LC (mset ν2 0 13 (b2i true)) 64 T)
  · exact ((h1.2.mono fun k hk => (Or.inr (Or.inl hk) : sI k)).trans (h2.2.mono fun k hk => Or.inr (Or.inr hk))).put (Or.inl rfl)
def sJ (k : Nat) : Prop := k = 264 ∨ k = 266
theorem X12_image (hM : ML n f (μ 265) L) (hT : LM (μ 265) T) (hW : WT T) : Ok (f_X12_image μ) (fun ν => ImM ν true n f L T ∧ Fr sJ μ ν ∧ ∀ i, i ≠ 0 → i ≠ 6 → ν 264 i = μ 264 i) := by
  unfold f_X12_image f_X12_image_l7
  refine copy_loop 1219 0 0 265 266 (by decide) (fun i ν hi hF => ?_) (fun ν hF => ?_) (Or.inl (by decide)) (fun ν hF hv => ?_) rfl
  · show f_X12_image_b7 ν (nI i) = _
    unfold f_X12_image_b7
    refine ie (nI_ge (b := 1219) hi (by decide)) (bs (rd_nI (by omega) (by decide)) (bs (wr_nI (by omega) (by decide)) ?_))
    rw [nI_1, Nat.zero_add]
  · exact it (show (1219 : Int32) ≤ nI 1219 by decide) rfl
  · have e66 : ∀ q, q < 1219 → ν 266 q = μ 265 q := fun q hq => by
      rw [hv, if_pos (by omega), mset_ne (by decide)]
      congr 1
      omega
    have e64 : ν 264 = mset μ 264 0 0 264 := hF 264 (by decide)
    unfold f_X12_image_j32
    refine ⟨_, rfl, ⟨mset_at, fun _ => ⟨?_, ?_⟩⟩, ?_, fun i h0 h6 => ?_⟩
    · rw [mset_ne (by decide)]
      exact hM.fr fun q hq => e66 q (by omega)
    · rw [mset_ne (by decide)]
      exact hT.frB hW (e66 2 (by decide)) (fun q _ hq => e66 q hq)
    · exact ((Fr.set (S := sJ) (Or.inl rfl)).trans (hF.mono fun k hk => Or.inr hk)).put (Or.inl rfl)
    · rw [mset_atn h6, e64, mset_atn h0]
def sB (k : Nat) : Prop := sA 3 k ∨ sW 48 k ∨ k = 74
theorem X11_back0 (hI : ImC μ false n f L T) : f_X11_back μ = some (false, μ) := by
  unfold f_X11_back
  rw [hI.1]
  exact ie (by decide) rfl
theorem X11_back (hI : ImC μ true n f L T) (hW : WT T) (hR : RC μ r R) : Ok (f_X11_back μ) (fun q => q.1 = true ∧ CL n f q.2 3 L ∧ LC q.2 48 T ∧ RC q.2 0 R ∧ Fr sB μ q.2) := by
  obtain ⟨hC, hT⟩ := hI.2 rfl
  unfold f_X11_back
  rw [hI.1]
  refine Ok.t (by decide) ?_
  refine (X2_copyFrom hC (show dis 3 33 by unfold dis; omega)).b fun ν h1 => ?_
  have hT1 : LC ν 64 T := hT.fr fun j hj => h1.2 _ (by unfold sA; omega)
  refine (X4_copyFrom hT1 hW (a0 := 48) (by omega)).b fun ν2 h2 => ?_
  unfold f_X0_forget
  refine Ok.s rfl ?_
  obtain ⟨q1, q2, x, hx, q3, q4⟩ := hR
  have e74 : ν2 74 = μ 74 := by rw [h2.2 _ (by unfold sW; omega), h1.2 _ (by unfold sA; omega)]
  refine ⟨_, rfl, rfl, ?_, ?_, ⟨by omega, (show mset ν2 74 2 0 74 2 = nI 0 from mset_at), x, hx, ?_, fun j hj => absurd hj (by omega)⟩, ?_⟩
  · refine (h1.1.fr fun j hj => ?_ : CL n f (mset ν2 74 2 0) 3 L)
    rw [mset_ne (by omega), h2.2 _ (by unfold sW; omega)]
  · exact (h2.1.fr fun j hj => mset_ne (by omega) : LC (mset ν2 74 2 0) 48 T)
  · show mset ν2 74 2 0 74 1 = _
    rw [mset_atn (by decide), e74]; exact q3
  · exact ((h1.2.mono fun k hk => (Or.inl hk : sB k)).trans (h2.2.mono fun k hk => Or.inr (Or.inl hk))).put (Or.inr (Or.inr rfl))
theorem X12_back0 (hI : ImM μ false n f L T) : f_X12_back μ = some (false, mset μ 264 0 0) := by
  unfold f_X12_back
  rw [mset_atn (show 6 ≠ 0 by decide), hI.1]
  exact ie (by decide) rfl
def sL (k : Nat) : Prop := k = 264 ∨ k = 265
theorem X12_back (hI : ImM μ true n f L T) (hW : WT T) : Ok (f_X12_back μ) (fun q => q.1 = true ∧ ML n f (q.2 265) L ∧ LM (q.2 265) T ∧ q.2 264 7 = 0 ∧ Fr sL μ q.2 ∧ ∀ i, i ≠ 0 → i ≠ 7 → q.2 264 i = μ 264 i) := by
  obtain ⟨hM, hT⟩ := hI.2 rfl
  unfold f_X12_back
  rw [mset_atn (show 6 ≠ 0 by decide), hI.1]
  refine Ok.t (by decide) ?_
  unfold f_X12_back_l16
  refine copy_loop 1219 0 0 266 265 (by decide) (fun i ν hi hF => ?_) (fun ν hF => ?_) (Or.inl (by decide)) (fun ν hF hv => ?_) rfl
  · show f_X12_back_b16 ν (nI i) = _
    unfold f_X12_back_b16
    refine ie (nI_ge (b := 1219) hi (by decide)) (bs (rd_nI (by omega) (by decide)) (bs (wr_nI (by omega) (by decide)) ?_))
    rw [nI_1, Nat.zero_add]
  · exact it (show (1219 : Int32) ≤ nI 1219 by decide) rfl
  · have e65 : ∀ q, q < 1219 → ν 265 q = μ 266 q := fun q hq => by
      rw [hv, if_pos (by omega), mset_ne (by decide)]
      congr 1
      omega
    have e64 : ν 264 = mset μ 264 0 0 264 := hF 264 (by decide)
    unfold f_X12_back_j41
    refine ⟨_, rfl, rfl, ?_, ?_, (show mset ν 264 7 0 264 7 = 0 from mset_at), ?_, fun i h0 h7 => ?_⟩
    · show ML n f (mset ν 264 7 0 265) L
      rw [mset_ne (by decide)]
      exact hM.fr fun q hq => e65 q (by omega)
    · show LM (mset ν 264 7 0 265) T
      rw [mset_ne (by decide)]
      exact hT.frB hW (e65 2 (by decide)) (fun q _ hq => e65 q hq)
    · exact ((Fr.set (S := sL) (Or.inl rfl)).trans (hF.mono fun k hk => Or.inr hk)).put (Or.inl rfl)
    · show mset ν 264 7 0 264 i = _
      rw [mset_atn h7, e64, mset_atn h0]
theorem X11_seed (hC : CL n f μ 3 L) (v : Int32) : Ok (f_X11_seed μ v) (fun q => q.1 = L 0 4 ∧ CL n f q.2 3 (upd2 L 0 4 v) ∧ Fr (fun k => k = 3) μ q.2) := by
  unfold f_X11_seed
  rw [hC.at0 (i := 4) (by decide)]
  exact Ok.r ⟨rfl, hC.set (k := 0) (by decide) (by omega), Fr.set (S := fun k => k = 3) rfl⟩
theorem X12_seed (hM : ML n f (μ 265) L) (v : Int32) : Ok (f_X12_seed μ v) (fun q => q.1 = L 0 4 ∧ ML n f (q.2 265) (upd2 L 0 4 v) ∧ Ms sL μ q.2 ∧ ∀ i, i ≠ 0 → q.2 264 i = μ 264 i) := by
  unfold f_X12_seed
  have h0 : ML n f (mset μ 264 0 0 265) L := by rw [mset_ne (by decide)]; exact hM
  refine Ok.s (h0.rd0 4 7 rfl rfl (by decide)) ?_
  refine Ok.s (wr_k 7 rfl (by decide) (by decide)) ?_
  refine ⟨_, rfl, rfl, h0.put (k := 0) (dm0 (by decide)) (by decide) (by decide) rfl, ?_, fun i hi => ?_⟩
  · have g : Ms sL μ (mset μ 264 0 0) := ⟨Fr.set (Or.inl rfl), by rw [mset_ne (by decide)], fun j _ => by rw [mset_ne (by decide)]⟩
    exact g.put (Or.inr rfl) (by decide) (by decide)
  · show mset (mset μ 264 0 0) 265 7 v 264 i = _
    rw [mset_ne (by decide), mset_atn hi]
/-! counts -/
theorem X12_purses (h : ML n f (μ 265) L) : f_X12_pursesOfAll μ = some (osum (L 1) n) := by
  have hn := h.n6
  unfold f_X12_pursesOfAll f_X12_pursesOfAll_l4
  refine bind_loop (fun i => (osum (L 1) i, nI i)) n _ rfl (fun i hi => ?_) ?_ (by omega) rfl
  · show f_X12_pursesOfAll_b4 μ _ (nI i) = _
    unfold f_X12_pursesOfAll_b4
    refine bs (X12_people h) (ie (nI_ge hi (by omega)) (bs (X12_of0 h hi) ?_))
    rw [nI_1]; rfl
  · show f_X12_pursesOfAll_b4 μ _ (nI n) = _
    unfold f_X12_pursesOfAll_b4
    exact bs (X12_people h) (it (nI_le (Nat.le_refl _) (by omega)) rfl)
theorem q_count (h : St n f L T μ) (hA : μ 74 2 = μ 264 7) (p1 : Int32) : AgN μ (f_X11_count μ p1) (f_X12_count μ p1) := by
  have hn := h.n6
  have m0 := h.m0 KC.refl
  by_cases b1 : outb p1 0 10 = true
  · have no : ∀ j, j ≤ 10 → ¬ p1 = nI j := fun j hj q => by
      have := (by decide : ∀ j, j < 11 → outb (nI j) 0 10 = false) j (by omega)
      rw [← q, b1] at this
      cases this
    refine ⟨-1, ?_, ?_⟩
    · unfold f_X11_count
      exact ie (no 0 (by decide)) (ie (no 1 (by decide)) (ie (no 2 (by decide)) (ie (no 3 (by decide)) (ie (no 4 (by decide)) (ie (no 5 (by decide)) (ie (no 6 (by decide)) (ie (no 7 (by decide)) (ie (no 8 (by decide)) (ie (no 9 (by decide)) (ie (no 10 (by decide)) rfl))))))))))
    · unfold f_X12_count
      refine Ok.e (no 2 (by decide)) (Ok.e (no 3 (by decide)) (Ok.e (no 4 (by decide)) (Ok.e (no 5 (by decide)) (Ok.e (no 6 (by decide)) (Ok.e (no 7 (by decide)) (Ok.e (no 8 (by decide)) (Ok.e (no 9 (by decide)) (Ok.e (no 10 (by decide)) ?_))))))))
      unfold f_X12_count_j115
      refine Ok.s X12_in ?_
      have b4 : outb p1 0 4 = true := by
        cases e : outb p1 0 4 with
        | true => rfl
        | false =>
          obtain ⟨j, hj, q⟩ := outb_rng (b := 4) rfl (by decide) e
          exact absurd q (no j (by omega))
      rw [b4]
      exact Ok.e fnt (Ok.r ⟨rfl, KM.thr⟩)
  · have b1' : outb p1 0 10 = false := by simpa using b1
    obtain ⟨j, hj, rfl⟩ := outb_rng (b := 10) rfl (by decide) b1'
    have low : ∀ i jj, i < 5 → sidx i = jj → jj ≤ 4 → jj ≠ 2 → Ok (f_X12_count_j115 (mset μ 264 0 0) (nI jj)) (fun q => q.1 = L 0 i ∧ KM μ q.2) := fun i jj hi hs hj h2 => by
      unfold f_X12_count_j115
      refine Ok.s X12_in ?_
      rw [show outb (nI jj) 0 4 = false from (by decide : ∀ q, q < 5 → outb (nI q) 0 4 = false) jj (by omega)]
      exact Ok.t rfl (Ok.s (m0.m.rd0 i jj rfl hs hi) (Ok.r ⟨rfl, KM.thr⟩))
    rcases (show j = 0 ∨ j = 1 ∨ j = 2 ∨ j = 3 ∨ j = 4 ∨ j = 5 ∨ j = 6 ∨ j = 7 ∨ j = 8 ∨ j = 9 ∨ j = 10 by omega) with rfl | rfl | rfl | rfl | rfl | rfl | rfl | rfl | rfl | rfl | rfl
    · refine ⟨L 0 0, ?_, ?_⟩
      · unfold f_X11_count
        exact it rfl (congrArg some (h.c.at0 (i := 0) (by decide)))
      · unfold f_X12_count
        exact Ok.e (by decide) (Ok.e (by decide) (Ok.e (by decide) (Ok.e (by decide) (Ok.e (by decide) (Ok.e (by decide) (Ok.e (by decide) (Ok.e (by decide) (Ok.e (by decide) (low 0 0 (by decide) rfl (by decide) (by decide))))))))))
    · refine ⟨L 0 1, ?_, ?_⟩
      · unfold f_X11_count
        exact ie (by decide) (it rfl (congrArg some (h.c.at0 (i := 1) (by decide))))
      · unfold f_X12_count
        exact Ok.e (by decide) (Ok.e (by decide) (Ok.e (by decide) (Ok.e (by decide) (Ok.e (by decide) (Ok.e (by decide) (Ok.e (by decide) (Ok.e (by decide) (Ok.e (by decide) (low 1 1 (by decide) rfl (by decide) (by decide))))))))))
    · refine ⟨if T 0 0 = 1 then nI (T 1 0) else -1, ?_, ?_⟩
      · unfold f_X11_count
        refine ie (by decide) (ie (by decide) (it rfl ?_))
        rw [h.lc.told h.wt, h.lc.2.1]
        congr 1
        by_cases c : T 0 0 = 1 <;> simp [c]
      · unfold f_X12_count
        refine Ok.t rfl (Ok.s (X12_hasLaw m0.lm m0.wt) ?_)
        by_cases c : T 0 0 = 1
        · refine Ok.t (decide_eq_true c) (Ok.s (a := nI (T 1 0)) (by rw [rd_k (k := 370) 370 rfl (by decide) (by decide)]; exact congrArg some (m0.lm.2 c).1) ?_)
          exact Ok.r ⟨(if_pos c).symm, KM.thr⟩
        · exact Ok.e (by simp [c]) (Ok.r ⟨(if_neg c).symm, KM.thr⟩)
    · refine ⟨L 0 2, ?_, ?_⟩
      · unfold f_X11_count
        exact ie (by decide) (ie (by decide) (ie (by decide) (it rfl (congrArg some (h.c.at0 (i := 2) (by decide))))))
      · unfold f_X12_count
        exact Ok.e (by decide) (Ok.t rfl (low 2 3 (by decide) rfl (by decide) (by decide)))
    · refine ⟨L 0 3, ?_, ?_⟩
      · unfold f_X11_count
        exact ie (by decide) (ie (by decide) (ie (by decide) (ie (by decide) (it rfl (congrArg some (h.c.at0 (i := 3) (by decide)))))))
      · unfold f_X12_count
        exact Ok.e (by decide) (Ok.e (by decide) (Ok.t rfl (low 3 4 (by decide) rfl (by decide) (by decide))))
    · refine ⟨pledS n L, ?_, ?_⟩
      · unfold f_X11_count
        exact ie (by decide) (ie (by decide) (ie (by decide) (ie (by decide) (ie (by decide) (it rfl (bs (X2_lacesThatAre h.c 1) rfl))))))
      · unfold f_X12_count
        exact Ok.e (by decide) (Ok.e (by decide) (Ok.e (by decide) (Ok.t rfl (Ok.s (X12_pledgedOnes m0.m) (Ok.r ⟨rfl, KM.thr⟩)))))
    · refine ⟨amt n L (pledS n L), ?_, ?_⟩
      · unfold f_X11_count
        exact ie (by decide) (ie (by decide) (ie (by decide) (ie (by decide) (ie (by decide) (ie (by decide) (it rfl (bs (X2_lacesThatAre h.c 1) (bs (X2_amountOf h.c _) rfl))))))))
      · unfold f_X12_count
        exact Ok.e (by decide) (Ok.e (by decide) (Ok.e (by decide) (Ok.e (by decide) (Ok.t rfl (Ok.s (X12_pledgedOnes m0.m) (Ok.s (X12_amountOf m0.m _) (Ok.r ⟨rfl, KM.thr⟩)))))))
    · refine ⟨osum (L 1) n, ?_, ?_⟩
      · unfold f_X11_count
        exact ie (by decide) (ie (by decide) (ie (by decide) (ie (by decide) (ie (by decide) (ie (by decide) (ie (by decide) (it rfl (bs (X2_allPurses h.c) rfl))))))))
      · unfold f_X12_count
        exact Ok.e (by decide) (Ok.e (by decide) (Ok.e (by decide) (Ok.e (by decide) (Ok.e (by decide) (Ok.t rfl (Ok.s (X12_purses m0.m) (Ok.r ⟨rfl, KM.thr⟩)))))))
    · refine ⟨f, ?_, ?_⟩
      · unfold f_X11_count
        exact ie (by decide) (ie (by decide) (ie (by decide) (ie (by decide) (ie (by decide) (ie (by decide) (ie (by decide) (ie (by decide) (it rfl (congrArg some h.c.2.2.1)))))))))
      · unfold f_X12_count
        refine Ok.e (by decide) (Ok.e (by decide) (Ok.e (by decide) (Ok.e (by decide) (Ok.e (by decide) (Ok.e (by decide) (Ok.t rfl ?_))))))
        exact Ok.s (a := f) (by rw [rd_k (k := 5) 5 rfl (by decide) (by decide)]; exact congrArg some m0.m.2.2) (Ok.r ⟨rfl, KM.thr⟩)
    · refine ⟨nI (zz L), ?_, ?_⟩
      · unfold f_X11_count
        exact ie (by decide) (ie (by decide) (ie (by decide) (ie (by decide) (ie (by decide) (ie (by decide) (ie (by decide) (ie (by decide) (ie (by decide) (it rfl (congrArg some h.c.siz16))))))))))
      · unfold f_X12_count
        refine Ok.e (by decide) (Ok.e (by decide) (Ok.e (by decide) (Ok.e (by decide) (Ok.e (by decide) (Ok.e (by decide) (Ok.e (by decide) (Ok.t rfl ?_)))))))
        exact Ok.s (a := nI (zz L)) (by rw [rd_k (k := 6) 6 rfl (by decide) (by decide)]; exact congrArg some m0.m.siz) (Ok.r ⟨rfl, KM.thr⟩)
    · refine ⟨μ 264 7, ?_, ?_⟩
      · unfold f_X11_count
        exact ie (by decide) (ie (by decide) (ie (by decide) (ie (by decide) (ie (by decide) (ie (by decide) (ie (by decide) (ie (by decide) (ie (by decide) (ie (by decide) (it rfl (congrArg some hA)))))))))))
      · unfold f_X12_count
        refine Ok.e (by decide) (Ok.e (by decide) (Ok.e (by decide) (Ok.e (by decide) (Ok.e (by decide) (Ok.e (by decide) (Ok.e (by decide) (Ok.e (by decide) (Ok.t rfl ?_))))))))
        exact Ok.r ⟨(show mset μ 264 0 0 264 7 = μ 264 7 from mset_atn (by decide)), KM.thr⟩
end Im
