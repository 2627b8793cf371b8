/-! THE TAPE: feed, end, fault -/
def lowN (y : Int32) : Nat := y.toBitVec.toNat % 256
theorem low_and (y : Int32) : y &&& 255 = nI (lowN y) := pk_and y 8 rfl
theorem low_lt (y : Int32) : lowN y < 256 := Nat.mod_lt _ (by decide)
theorem low_eq {x y : Int32} (h : ∀ i, i < 8 → bt x i = bt y i) : lowN x = lowN y := by
  have e : nI (lowN x) = nI (lowN y) := by
    rw [← low_and, ← low_and]
    apply b_ext
    intro i _
    rw [b_and, b_and, b_255]
    by_cases c : i < 8
    · rw [h i c]
    · rw [decide_eq_false c, Bool.and_false, Bool.and_false]
  have h1 := low_lt x
  have h2 := low_lt y
  exact (nI_eq (by omega) (by omega)).mp e
theorem low_i8 {x y : Int32} (h : ∀ i, i < 8 → bt x i = bt y i) : x.toInt8 = y.toInt8 := by
  apply Int8.toBitVec_inj.mp
  rw [Int32.toBitVec_toInt8, Int32.toBitVec_toInt8]
  apply BitVec.eq_of_getLsbD_eq
  intro i hi
  rw [BitVec.getLsbD_signExtend, BitVec.getLsbD_signExtend]
  have := h i hi
  unfold bt at this
  rw [this]
  simp only [show i < 32 by omega, if_true]
theorem sb_i8 : ∀ j, j < 256 → (((nI j).toInt8).toInt32.toInt8).toInt32 = sb j := by decide +kernel
theorem low_sb (y : Int32) : ((y.toInt8).toInt32.toInt8).toInt32 = sb (lowN y) := by
  have e : y.toInt8 = (nI (lowN y)).toInt8 := low_i8 fun i hi => by rw [← low_and, b_and, b_255, decide_eq_true hi, Bool.and_true]
  rw [e]
  exact sb_i8 _ (low_lt y)
theorem low_sh {x : Int32} {s : Nat} (hs : s ≤ 24) : lowN (x >>> (nI s &&& 31)) = lowN ((Int32.toUInt32 x >>> (Int32.toUInt32 (nI s) &&& Int32.toUInt32 31)).toInt32) := low_eq fun i hi => by
  rw [b_sshr s (by omega) x (by omega), b_ushr s (by omega) x i, if_pos (by omega)]
def by4 (x : Int32) (k : Nat) : Nat := lowN ((Int32.toUInt32 x >>> (Int32.toUInt32 (nI (24 - 8 * k)) &&& Int32.toUInt32 31)).toInt32)
theorem by4_lt {x : Int32} {k : Nat} : by4 x k < 256 := low_lt _
def put4 (B : Nat → Nat) (c : Nat) (x : Int32) : Nat → Nat := fun i => if i < c then B i else by4 x (i - c)
theorem put4_lt {B : Nat → Nat} {c : Nat} {x : Int32} (h : ∀ i, B i < 256) : ∀ i, put4 B c x i < 256 := fun i => by
  unfold put4
  split
  · exact h i
  · exact by4_lt
def sF (k : Nat) : Prop := k = 1 ∨ k = 2
section Tp
variable {μ : Mem} {c : Nat} {B : Nat → Nat}
theorem X8_add (h : TpC μ c B) (hc : c + 4 ≤ 400) (x : Int32) : Ok (f_X8_add μ x) (fun ν => TpC ν (c + 4) (put4 B c x) ∧ Fr sF μ ν ∧ ∀ i, i ≠ 1 → ν 1 i = μ 1 i) := by
  unfold f_X8_add f_X8_add_l3
  refine Ok.loop (fun j z => (z.1 = (if j < 4 then nI (24 - 8 * j) else -8)) ∧ z.2 1 1 = nI (c + j) ∧ (∀ i, i < c + j → z.2 2 i = nI (put4 B c x i)) ∧ Fr sF μ z.2 ∧ ∀ i, i ≠ 1 → z.2 1 i = μ 1 i) (fun ν => TpC ν (c + 4) (put4 B c x) ∧ Fr sF μ ν ∧ ∀ i, i ≠ 1 → ν 1 i = μ 1 i) 4 (by decide) ⟨rfl, h.1, fun i hi => ?_, Fr.refl, fun i _ => rfl⟩ (fun j z hj hI => ?_) (fun ν hν => Ok.r hν)
  · show μ 2 i = nI (put4 B c x i)
    unfold put4
    rw [if_pos (by omega)]
    exact h.2 i (by omega)
  · obtain ⟨s, ν⟩ := z
    obtain ⟨e1, e2, hb, hF, h1⟩ := hI
    dsimp only at e1 e2 hb hF h1
    subst e1
    show Ok (f_X8_add_b3 ν x _) _
    unfold f_X8_add_b3
    by_cases hc2 : j = 4
    · subst hc2
      rw [if_neg (show ¬ 4 < 4 by decide)]
      exact Ok.t (show (-8 : Int32) < 0 by decide) (Ok.d ⟨⟨e2, hb⟩, hF, h1⟩)
    · rw [if_pos (show j < 4 by omega), e2]
      refine Ok.e (nI_pos (by omega)) (Ok.e (nI_ge (b := 400) (by omega) (by decide)) (Ok.s (wr_nI (by omega) (by decide)) ?_))
      have o1 : ∀ i, mset ν 2 (c + j) ((Int32.toUInt32 x >>> (Int32.toUInt32 (nI (24 - 8 * j)) &&& Int32.toUInt32 31)).toInt32 &&& 255) 1 i = ν 1 i := fun i => by rw [mset_ne (by decide)]
      rw [o1, e2, nI_1]
      refine Ok.c (by omega) ⟨?_, ?_, fun i hi => ?_, (hF.put (Or.inr rfl)).put (Or.inl rfl), fun i hi => ?_⟩
      · show nI (24 - 8 * j) + (-8) = _
        rcases (show j = 0 ∨ j = 1 ∨ j = 2 ∨ j = 3 by omega) with rfl | rfl | rfl | rfl <;> decide
      · dsimp only
        rw [mset_at]
        rfl
      · show mset (mset ν 2 (c + j) ((Int32.toUInt32 x >>> (Int32.toUInt32 (nI (24 - 8 * j)) &&& Int32.toUInt32 31)).toInt32 &&& 255)) 1 1 (nI (c + j + 1)) 2 i = nI (put4 B c x i)
        rw [mset_ne (by decide)]
        by_cases e : i = c + j
        · subst e
          rw [mset_at, low_and]
          unfold put4 by4
          rw [if_neg (by omega), show c + j - c = j by omega]
        · rw [mset_atn e]
          exact hb i (by omega)
      · show mset (mset ν 2 (c + j) ((Int32.toUInt32 x >>> (Int32.toUInt32 (nI (24 - 8 * j)) &&& Int32.toUInt32 31)).toInt32 &&& 255)) 1 1 (nI (c + j + 1)) 1 i = μ 1 i
        rw [mset_atn hi, o1]
        exact h1 i hi
def pick5 (p1 p2 p3 p4 p5 : Int32) (k : Nat) : Int32 := if k = 0 then p1 else if k = 1 then p2 else if k = 2 then p3 else if k = 3 then p4 else p5
def put5 (B : Nat → Nat) (c : Nat) (p1 p2 p3 p4 p5 : Int32) : Nat → Nat := put4 (put4 (put4 (put4 (put4 B c p1) (c + 4) p2) (c + 4 + 4) p3) (c + 4 + 4 + 4) p4) (c + 4 + 4 + 4 + 4) p5
theorem put5_old {p1 p2 p3 p4 p5 : Int32} {i : Nat} (h : i < c) : put5 B c p1 p2 p3 p4 p5 i = B i := by
  unfold put5 put4
  rw [if_pos (by omega), if_pos (by omega), if_pos (by omega), if_pos (by omega), if_pos h]
theorem put5_new {p1 p2 p3 p4 p5 : Int32} {k : Nat} (h : k < 20) : put5 B c p1 p2 p3 p4 p5 (c + k) = by4 (pick5 p1 p2 p3 p4 p5 (k / 4)) (k % 4) := by
  unfold put5 put4 pick5
  rcases (show k / 4 = 0 ∨ k / 4 = 1 ∨ k / 4 = 2 ∨ k / 4 = 3 ∨ k / 4 = 4 by omega) with e | e | e | e | e
  · rw [if_pos (by omega), if_pos (by omega), if_pos (by omega), if_pos (by omega), if_neg (by omega), e, show c + k - c = k % 4 by omega]; rfl
  · rw [if_pos (by omega), if_pos (by omega), if_pos (by omega), if_neg (by omega), e, show c + k - (c + 4) = k % 4 by omega]; rfl
  · rw [if_pos (by omega), if_pos (by omega), if_neg (by omega), e, show c + k - (c + 4 + 4) = k % 4 by omega]; rfl
  · rw [if_pos (by omega), if_neg (by omega), e, show c + k - (c + 4 + 4 + 4) = k % 4 by omega]; rfl
  · rw [if_neg (by omega), e, show c + k - (c + 4 + 4 + 4 + 4) = k % 4 by omega]; rfl
def sFm (k : Nat) : Prop := k = 264 ∨ k = 270 ∨ k = 271
/-- both tapes, fed or cut -/
def AgT (μ : Mem) (c' : Nat) (B' : Nat → Nat) (o : Prop) (m : Mem → Prop) : Prop := c' ≤ 400 ∧ (∀ i, B' i < 256) ∧ o ∧ ∀ ν, Fr sF μ ν → m ν
def PC (μ : Mem) (c : Nat) (B : Nat → Nat) (ν : Mem) : Prop := TpC ν c B ∧ Fr sF μ ν ∧ ∀ i, i ≠ 1 → ν 1 i = μ 1 i
def PM (ν : Mem) (c : Nat) (B : Nat → Nat) (ν' : Mem) : Prop := TpM ν' c B ∧ Fr sFm ν ν' ∧ ∀ i, i ≠ 0 → i ≠ 9 → ν' 264 i = ν 264 i
theorem q_feed (hc : c ≤ 400) (hb : ∀ i, B i < 256) (hC : TpC μ c B) (hM : TpM μ c B) (p1 p2 p3 p4 p5 : Int32) : ∃ (v : Int32) (c' : Nat) (B' : Nat → Nat), AgT μ c' B' (Ok (f_X11_feed μ p1 p2 p3 p4 p5) (fun q => q.1 = v ∧ PC μ c' B' q.2)) (fun ν => Ok (f_X12_feed ν p1 p2 p3 p4 p5) (fun q => q.1 = v ∧ PM ν c' B' q.2)) := by
  have n20 : nI c + 20 = nI (c + 20) := nI_add c 20
  by_cases hl : c + 20 ≤ 400
  · refine ⟨nI (c + 20), c + 20, put5 B c p1 p2 p3 p4 p5, hl, put4_lt (put4_lt (put4_lt (put4_lt (put4_lt hb)))), ?_, fun ν hk => ?_⟩
    · unfold f_X11_feed
      rw [hC.1, n20]
      refine Ok.t (nI_le (b := 400) hl (by decide)) ?_
      refine (X8_add hC (by omega) p1).b fun ν1 h1 => ?_
      refine (X8_add h1.1 (by omega) p2).b fun ν2 h2 => ?_
      refine (X8_add h2.1 (by omega) p3).b fun ν3 h3 => ?_
      refine (X8_add h3.1 (by omega) p4).b fun ν4 h4 => ?_
      refine (X8_add h4.1 (by omega) p5).b fun ν5 h5 => ?_
      refine Ok.r ⟨h5.1.1, h5.1, ((((h1.2.1.trans h2.2.1).trans h3.2.1).trans h4.2.1).trans h5.2.1), fun i hi => ?_⟩
      exact (h5.2.2 i hi).trans ((h4.2.2 i hi).trans ((h3.2.2 i hi).trans ((h2.2.2 i hi).trans (h1.2.2 i hi))))
    · have hM' : TpM ν c B := ⟨by rw [hk 264 (by unfold sF; omega)]; exact hM.1, fun i hi => by rw [hk 270 (by unfold sF; omega)]; exact hM.2 i hi⟩
      show Ok (f_X12_feed ν p1 p2 p3 p4 p5) _
      unfold f_X12_feed
      rw [mset_atn (show 9 ≠ 0 by decide), hM'.1, n20]
      refine Ok.t (nI_le (b := 400) hl (by decide)) ?_
      refine Ok.s (wr_k 0 rfl (by decide) (by decide)) (Ok.s (wr_k 1 rfl (by decide) (by decide)) (Ok.s (wr_k 2 rfl (by decide) (by decide)) (Ok.s (wr_k 3 rfl (by decide) (by decide)) (Ok.s (wr_k 4 rfl (by decide) (by decide)) ?_))))
      generalize hν1 : mset (mset (mset (mset (mset (mset ν 264 0 0) 271 0 p1) 271 1 p2) 271 2 p3) 271 3 p4) 271 4 p5 = ν1
      have f5 : ∀ k, k < 5 → ν1 271 k = pick5 p1 p2 p3 p4 p5 k := fun k hk => by
        rw [← hν1]
        rcases (show k = 0 ∨ k = 1 ∨ k = 2 ∨ k = 3 ∨ k = 4 by omega) with rfl | rfl | rfl | rfl | rfl
        · rw [mset_atn (by decide), mset_atn (by decide), mset_atn (by decide), mset_atn (by decide), mset_at]; rfl
        · rw [mset_atn (by decide), mset_atn (by decide), mset_atn (by decide), mset_at]; rfl
        · rw [mset_atn (by decide), mset_atn (by decide), mset_at]; rfl
        · rw [mset_atn (by decide), mset_at]; rfl
        · rw [mset_at]; rfl
      have o1 : ∀ k, k ≠ 271 → ν1 k = mset ν 264 0 0 k := fun k hk => by rw [← hν1, mset_ne hk, mset_ne hk, mset_ne hk, mset_ne hk, mset_ne hk]
      have t1 : ν1 264 9 = nI c := by rw [o1 264 (by decide), mset_atn (by decide)]; exact hM'.1
      unfold f_X12_feed_l60
      refine Ok.loop (fun j z => z.1 = nI j ∧ Fr (fun k => k = 270) ν1 z.2 ∧ (∀ i, i < c + j → z.2 270 i = sb (put5 B c p1 p2 p3 p4 p5 i))) (fun t => Fr (fun k => k = 270) ν1 t ∧ (∀ i, i < c + 20 → t 270 i = sb (put5 B c p1 p2 p3 p4 p5 i))) 20 (by decide) ⟨rfl, Fr.refl, fun i hi => ?_⟩ (fun j z hj hI => ?_) (fun t ht => ?_)
      · show ν1 270 i = _
        rw [o1 270 (by decide), mset_ne (by decide), hM'.2 i (by omega), put5_old (by omega)]
      · obtain ⟨x, ν2⟩ := z
        obtain ⟨e1, hF, hB⟩ := hI
        dsimp only at e1 hF hB
        subst e1
        show Ok (f_X12_feed_b60 ν2 (nI j)) _
        unfold f_X12_feed_b60
        by_cases hc2 : j = 20
        · subst hc2
          exact Ok.t (by decide) (Ok.d ⟨hF, hB⟩)
        · refine Ok.e (nI_ge (b := 20) (by omega) (by decide)) ?_
          refine Ok.s (a := nI (j / 4)) (by unfold dv; rw [if_neg (by decide), show (4 : Int32) = nI 4 from rfl, pk_div (by omega) (by decide) (by decide)]) ?_
          refine Ok.s (a := pick5 p1 p2 p3 p4 p5 (j / 4)) (by rw [rd_nI (by omega) (by decide), hF 271 (by decide), f5 _ (by omega)]) ?_
          refine Ok.s (rm9_nI (d := 4) rfl (by omega) (by decide) (by decide)) ?_
          rw [show (24 : Int32) - 8 * nI (j % 4) = nI (24 - 8 * (j % 4)) by rw [show (8 : Int32) = nI 8 from rfl, pk_mul, show (24 : Int32) = nI 24 from rfl, pk_sub (by omega)], low_sb, low_sh (by omega), hF 264 (by decide), t1, nI_add]
          refine Ok.s (wr_nI (by omega) (by decide)) (Ok.c (by omega) ⟨nI_1 _, hF.put rfl, fun i hi => ?_⟩)
          show mset ν2 270 (c + j) (sb (by4 (pick5 p1 p2 p3 p4 p5 (j / 4)) (j % 4))) 270 i = _
          by_cases e : i = c + j
          · subst e
            rw [mset_at, put5_new (by omega)]
          · rw [mset_atn e]; exact hB i (by omega)
      · obtain ⟨hF, hB⟩ := ht
        unfold f_X12_feed_j106
        rw [hF 264 (by decide), t1, n20]
        have g1 : mset t 264 9 (nI (c + 20)) 264 9 = nI (c + 20) := mset_at
        have g2 : TpM (mset t 264 9 (nI (c + 20))) (c + 20) (put5 B c p1 p2 p3 p4 p5) := ⟨g1, fun i hi => by rw [mset_ne (show 270 ≠ 264 by decide)]; exact hB i hi⟩
        refine Ok.r ⟨g1, g2, fun k hk => ?_, fun i h0 h9 => ?_⟩
        · dsimp only
          rw [mset_ne (fun q => hk (Or.inl q)), hF k (fun q => hk (Or.inr (Or.inl q))), o1 k (fun q => hk (Or.inr (Or.inr q))), mset_ne (fun q => hk (Or.inl q))]
        · dsimp only
          rw [mset_atn h9, hF 264 (by decide), o1 264 (by decide), mset_atn h0]
  · refine ⟨-1, c, B, hc, hb, ?_, fun ν hk => ?_⟩
    · unfold f_X11_feed
      rw [hC.1, n20]
      exact Ok.e (nI_ge (a := 400) (by omega) (by omega)) (Ok.r ⟨rfl, hC, Fr.refl, fun _ _ => rfl⟩)
    · show Ok (f_X12_feed ν p1 p2 p3 p4 p5) _
      unfold f_X12_feed
      rw [mset_atn (show 9 ≠ 0 by decide), hk 264 (by unfold sF; omega), hM.1, n20]
      have g : PM ν c B (mset ν 264 0 0) := ⟨⟨by rw [mset_atn (by decide), hk 264 (by unfold sF; omega)]; exact hM.1, fun i hi => by rw [mset_ne (by decide), hk 270 (by unfold sF; omega)]; exact hM.2 i hi⟩, Fr.set (Or.inl rfl), fun i h0 _ => mset_atn h0⟩
      exact Ok.e (nI_ge (a := 400) (by omega) (by omega)) (Ok.r ⟨rfl, g⟩)
theorem q_end (hc : c ≤ 400) (hb : ∀ i, B i < 256) (hC : TpC μ c B) (hM : TpM μ c B) (p1 : Int32) : ∃ (v : Bool) (c' : Nat) (B' : Nat → Nat), AgT μ c' B' (Ok (f_X11_end μ p1) (fun q => q.1 = v ∧ PC μ c' B' q.2)) (fun ν => Ok (f_X12_end ν p1) (fun q => q.1 = v ∧ PM ν c' B' q.2)) := by
  have mo : ∀ ν, Fr sF μ ν → PM ν c B (mset ν 264 0 0) := fun ν hk => ⟨⟨by rw [mset_atn (by decide), hk 264 (by unfold sF; omega)]; exact hM.1, fun i hi => by rw [mset_ne (by decide), hk 270 (by unfold sF; omega)]; exact hM.2 i hi⟩, Fr.set (Or.inl rfl), fun i h0 _ => mset_atn h0⟩
  by_cases n0 : p1 < 0
  · refine ⟨false, c, B, hc, hb, ?_, fun ν hk => ?_⟩
    · unfold f_X11_end f_X11_end_j15
      exact Ok.t n0 (Ok.r ⟨rfl, hC, Fr.refl, fun _ _ => rfl⟩)
    · show Ok (f_X12_end ν _) _
      unfold f_X12_end f_X12_end_j17
      exact Ok.t n0 (Ok.r ⟨rfl, mo ν hk⟩)
  · by_cases n1 : p1 ≤ nI c
    · obtain ⟨j, hj, rfl⟩ := nI_of2 (nI_toInt (show c < 2 ^ 31 by omega)) n0 n1
      refine ⟨true, j, B, by omega, hb, ?_, fun ν hk => ?_⟩
      · unfold f_X11_end
        rw [hC.1]
        have g : PC μ j B (mset μ 1 1 (nI j)) := ⟨⟨mset_at, fun i hi => by rw [mset_ne (show 2 ≠ 1 by decide)]; exact hC.2 i (by omega)⟩, Fr.set (Or.inl rfl), fun i hi => mset_atn hi⟩
        exact Ok.e n0 (Ok.t n1 (Ok.r ⟨rfl, g⟩))
      · show Ok (f_X12_end ν _) _
        unfold f_X12_end
        rw [mset_atn (show 9 ≠ 0 by decide), hk 264 (by unfold sF; omega), hM.1]
        have g : PM ν j B (mset (mset ν 264 0 0) 264 9 (nI j)) := ⟨⟨mset_at, fun i hi => by rw [mset_ne (show 270 ≠ 264 by decide), mset_ne (show 270 ≠ 264 by decide), hk 270 (by unfold sF; omega)]; exact hM.2 i (by omega)⟩, (Fr.set (Or.inl rfl)).put (Or.inl rfl), fun i h0 h9 => by rw [mset_atn h9, mset_atn h0]⟩
        exact Ok.e n0 (Ok.t n1 (Ok.r ⟨rfl, g⟩))
    · refine ⟨false, c, B, hc, hb, ?_, fun ν hk => ?_⟩
      · unfold f_X11_end f_X11_end_j15
        rw [hC.1]
        exact Ok.e n0 (Ok.e n1 (Ok.r ⟨rfl, hC, Fr.refl, fun _ _ => rfl⟩))
      · show Ok (f_X12_end ν _) _
        unfold f_X12_end f_X12_end_j17
        rw [mset_atn (show 9 ≠ 0 by decide), hk 264 (by unfold sF; omega), hM.1]
        exact Ok.e n0 (Ok.e n1 (Ok.r ⟨rfl, mo ν hk⟩))
end Tp
