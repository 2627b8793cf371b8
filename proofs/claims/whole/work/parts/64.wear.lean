/-! WHO WEARS -/
def fitV (m a b : Nat) : Int32 := bitC ((nI m >>> (nI a &&& 31)) &&& ((1 <<< (((nI b - nI a) + 1) &&& 31)) - 1))
theorem fit_eq : ∀ m, m < 64 → ∀ b, b < 6 → ∀ a, a < 6 → a ≤ b → bitC (nI m &&& ((1 <<< ((nI b + 1) &&& 31)) - (1 <<< (nI a &&& 31)))) = fitV m a b := by decide +kernel
def okF (B : Nat → Nat) (m t : Nat) : Bool := decide (fitV m (B (3 * t)) (B (3 * t + 1)) = nI (B (3 * t + 2)))
def fitQ (B : Nat → Nat) (m : Nat) : Nat → Bool
  | 0 => true
  | t + 1 => fitQ B m t && okF B m t
theorem fitQ_f {B : Nat → Nat} {m t : Nat} (h : fitQ B m t = false) : ∀ d, fitQ B m (t + d) = false
  | 0 => h
  | d + 1 => by show (fitQ B m (t + d) && _) = false; rw [fitQ_f h d]; rfl
theorem nI_3 (t : Nat) : nI (3 * t) + 3 = nI (3 * (t + 1)) := by rw [show (3 : Int32) = nI 3 from rfl, nI_add, show 3 * (t + 1) = 3 * t + 3 by omega]
def andA (Q : Nat → Bool) (n : Nat) : Nat → Int32
  | 0 => nI (2 ^ n - 1)
  | m + 1 => if Q m = true then andA Q n m &&& nI m else andA Q n m
theorem andA_0 {Q : Nat → Bool} {n : Nat} : ∀ {m : Nat}, cntN Q m = 0 → andA Q n m = nI (2 ^ n - 1)
  | 0, _ => rfl
  | m + 1, h => by
    have h' : cntN Q m + (if Q m = true then 1 else 0) = 0 := h
    by_cases c : Q m = true
    · rw [if_pos c] at h'; omega
    · show (if Q m = true then _ else andA Q n m) = _
      rw [if_neg c, andA_0 (by omega)]
theorem all_and : ∀ n, n < 7 → ∀ m, m < 64 → m < 2 ^ n → nI (2 ^ n - 1) &&& nI m = nI m := by decide +kernel
section We2
variable {n c : Nat} {f : Int32} {μ : Mem} {L : Ld} {T : Tx} {B : Nat → Nat}
theorem X10_fits (hc : c ≤ 36) (h3 : c % 3 = 0) (hB : ∀ i, i < c → μ 2 i = nI (B i)) (m : Nat) : f_X10_fits μ (nI m) (nI c) = some (fitQ B m (c / 3)) := by
  unfold f_X10_fits f_X10_fits_l2
  have key : Ok (Option.bind (loopN 10000 (fun z : Int32 => f_X10_fits_b2 μ (nI m) (nI c) z) 0) fun t : (Unit ⊕ Bool) => Sum.elim (fun e => f_X10_fits_j79 μ) (fun x => some x) t) (fun b => b = fitQ B m (c / 3)) := by
    refine Ok.loop (fun t z => z = nI (3 * t) ∧ fitQ B m t = true) (fun r => (r = Sum.inl () ∧ fitQ B m (c / 3) = true) ∨ (r = Sum.inr false ∧ fitQ B m (c / 3) = false)) (c / 3) (by omega) ⟨rfl, rfl⟩ (fun t z ht hI => ?_) (fun r hr => ?_)
    · obtain ⟨rfl, hI⟩ := hI
      show Ok (f_X10_fits_b2 μ (nI m) (nI c) (nI (3 * t))) _
      unfold f_X10_fits_b2
      by_cases hc2 : t = c / 3
      · exact Ok.t (nI_le (by omega) (by omega)) (Ok.d (Or.inl ⟨rfl, hc2 ▸ hI⟩))
      · refine Ok.e (nI_ge (by omega) (by omega)) ?_
        have r0 : rd μ 2 400 (nI (3 * t)) = some (nI (B (3 * t))) := by rw [rd_nI (by omega) (by decide), hB _ (by omega)]
        have r1 : rd μ 2 400 (nI (3 * t) + 1) = some (nI (B (3 * t + 1))) := by rw [nI_1, rd_nI (by omega) (by decide), hB _ (by omega)]
        have r2 : rd μ 2 400 (nI (3 * t) + 2) = some (nI (B (3 * t + 2))) := by rw [show nI (3 * t) + 2 = nI (3 * t + 2) from nI_add _ 2, rd_nI (by omega) (by decide), hB _ (by omega)]
        refine Ok.s r1 (Ok.s r0 (Ok.s r0 (Ok.s J6_bit (Ok.s r2 ?_))))
        by_cases d : fitV m (B (3 * t)) (B (3 * t + 1)) = nI (B (3 * t + 2))
        · refine Ok.t d (Ok.c (by omega) ⟨nI_3 t, ?_⟩)
          show (fitQ B m t && okF B m t) = true
          rw [hI]
          exact decide_eq_true d
        · refine Ok.e d (Ok.d (Or.inr ⟨rfl, ?_⟩))
          have h1 : fitQ B m (t + 1) = false := by show (fitQ B m t && okF B m t) = false; rw [show okF B m t = false from decide_eq_false d, Bool.and_false]
          have := fitQ_f h1 (c / 3 - (t + 1))
          rwa [show t + 1 + (c / 3 - (t + 1)) = c / 3 by omega] at this
    · rcases hr with ⟨rfl, e⟩ | ⟨rfl, e⟩
      · exact Ok.r e.symm
      · exact Ok.r e.symm
  obtain ⟨b, e1, e2⟩ := key
  rw [e2] at e1
  exact e1
theorem X12_fits (hn : n ≤ 6) (hc : c ≤ 36) (h3 : c % 3 = 0) (ht : toldQ n B (c / 3) = true) (he : μ 264 11 = nI c) (hB : ∀ i, i < c → μ 270 i = sb (B i)) (hb : ∀ i, B i < 256) {m : Nat} (hm : m < 64) : f_X12_fits μ (nI m) = some (fitQ B m (c / 3)) := by
  unfold f_X12_fits f_X12_fits_l4
  refine bind_loop (fun t => (fitQ B m t, nI (3 * t))) (c / 3) (fitQ B m (c / 3)) rfl (fun t ht2 => ?_) ?_ (by omega) rfl
  · show f_X12_fits_b4 μ (nI m) (fitQ B m t) (nI (3 * t)) = _
    have hok := toldQ_t ht ht2
    unfold okT at hok
    rw [Bool.and_eq_true] at hok
    have d1 := of_decide_eq_true hok.1
    have d2 := of_decide_eq_true hok.2
    have r0 : rd μ 270 400 (nI (3 * t)) = some (nI (B (3 * t))) := by rw [rd_nI (by omega) (by decide), hB _ (by omega), sb_lt _ (by omega)]
    have r1 : rd μ 270 400 (nI (3 * t) + 1) = some (nI (B (3 * t + 1))) := by rw [nI_1, rd_nI (by omega) (by decide), hB _ (by omega), sb_lt _ (by omega)]
    have r2 : rd μ 270 400 (nI (3 * t) + 2) = some (sb (B (3 * t + 2))) := by rw [show nI (3 * t) + 2 = nI (3 * t + 2) from nI_add _ 2, rd_nI (by omega) (by decide), hB _ (by omega)]
    have hnx : fitQ B m (t + 1) = (fitQ B m t && okF B m t) := rfl
    unfold f_X12_fits_b4
    rw [he]
    refine ie (nI_ge (by omega) (by omega)) (bs r1 (bs r0 ?_))
    cases hq : fitQ B m t with
    | false =>
      refine ie fnt ?_
      unfold f_X12_fits_j65_4 f_X12_fits_j66_4
      rw [hnx, hq, nI_3]; rfl
    | true =>
      refine it rfl (bs J6_bit (bs r2 ?_))
      rw [sb_255 _ (hb _), fit_eq m hm _ (by omega) _ (by omega) d1, hnx, hq, nI_3]
      unfold okF
      by_cases d : fitV m (B (3 * t)) (B (3 * t + 1)) = nI (B (3 * t + 2))
      · rw [if_pos d, decide_eq_true d]; rfl
      · rw [if_neg d, decide_eq_false d]; rfl
  · show f_X12_fits_b4 μ (nI m) _ (nI (3 * (c / 3))) = _
    unfold f_X12_fits_b4
    rw [he]
    exact it (nI_le (by omega) (by omega)) rfl
def sX (k : Nat) : Prop := k = 262 ∨ k = 263
theorem X10_take {ν : Mem} {d : Nat → Nat} {k m : Nat} (hn : n ≤ 6) (h2 : ν 262 2 = nI n) (h3 : ν 262 3 = nI k) (hd : ∀ i, i < n → ν 263 i = nI (d i)) : Ok (f_X10_take ν (nI m)) (fun ν' => ν' 262 2 = nI n ∧ ν' 262 3 = nI (k + 1) ∧ ν' 262 4 = (if nI k = 0 then nI m else ν 262 4 &&& nI m) ∧ (∀ i, i < n → ν' 263 i = nI (d i + (if bt (nI m) i = true then 1 else 0))) ∧ Fr sX ν ν') := by
  unfold f_X10_take
  rw [mset_atn (show 3 ≠ 4 by decide), h3, nI_1]
  generalize hν1 : mset (mset ν 262 4 (if nI k = 0 then nI m else ν 262 4 &&& nI m)) 262 3 (nI (k + 1)) = ν1
  have e2 : ν1 262 2 = nI n := by rw [← hν1, mset_atn (by decide), mset_atn (by decide)]; exact h2
  have e3 : ν1 262 3 = nI (k + 1) := by rw [← hν1, mset_at]
  have e4 : ν1 262 4 = (if nI k = 0 then nI m else ν 262 4 &&& nI m) := by rw [← hν1, mset_atn (by decide), mset_at]
  have e63 : ν1 263 = ν 263 := by rw [← hν1, mset_ne (by decide), mset_ne (by decide)]
  have hF1 : Fr sX ν ν1 := by rw [← hν1]; exact (Fr.set (S := sX) (Or.inl rfl)).put (Or.inl rfl)
  unfold f_X10_take_l33
  refine Ok.loop (fun j z => z.1 = nI j ∧ Fr (fun k => k = 263) ν1 z.2 ∧ ∀ i, i < n → z.2 263 i = nI (d i + (if i < j ∧ bt (nI m) i = true then 1 else 0))) (fun ν2 => Fr (fun k => k = 263) ν1 ν2 ∧ ∀ i, i < n → ν2 263 i = nI (d i + (if bt (nI m) i = true then 1 else 0))) n (by omega) ⟨rfl, Fr.refl, fun i hi => by dsimp only; rw [e63, hd i hi, if_neg (by omega)]; rfl⟩ (fun j z hj hI => ?_) (fun ν2 hv => ?_)
  · obtain ⟨x, ν2⟩ := z
    obtain ⟨e1, hF, hv⟩ := hI
    dsimp only at e1 hF hv
    subst e1
    show Ok (f_X10_take_b33 ν2 (nI m) (nI j)) _
    unfold f_X10_take_b33
    rw [hF 262 (by decide), e2]
    by_cases hc : j = n
    · subst hc
      refine Ok.t (nI_le (Nat.le_refl _) (by omega)) (Ok.d ⟨hF, fun i hi => ?_⟩)
      rw [hv i hi]
      by_cases q : bt (nI m) i = true
      · rw [if_pos ⟨hi, q⟩, if_pos q]
      · rw [if_neg (fun w => q w.2), if_neg q]
    · have hj2 : j < n := by omega
      refine Ok.e (nI_ge hj2 (by omega)) (Ok.s (X11_hasBit (by omega)) ?_)
      unfold f_X10_take_j59_33
      by_cases q : bt (nI m) j = true
      · refine Ok.t q (Ok.s (rd_nI (by omega) (by decide)) (Ok.s (wr_nI (by omega) (by decide)) ?_))
        refine Ok.c hj2 ⟨nI_1 _, hF.put rfl, fun i hi => ?_⟩
        dsimp only
        by_cases e : i = j
        · subst e
          rw [mset_at, hv i hi, if_neg (by omega), if_pos ⟨by omega, q⟩, nI_1]
        · rw [mset_atn e, hv i hi]
          by_cases w : i < j ∧ bt (nI m) i = true
          · rw [if_pos w, if_pos ⟨by omega, w.2⟩]
          · rw [if_neg w, if_neg (fun w2 => w ⟨by omega, w2.2⟩)]
      · refine Ok.e q (Ok.c hj2 ⟨nI_1 _, hF, fun i hi => ?_⟩)
        dsimp only
        rw [hv i hi]
        by_cases w : i < j ∧ bt (nI m) i = true
        · rw [if_pos w, if_pos ⟨by omega, w.2⟩]
        · rw [if_neg w, if_neg (fun w2 => w ⟨by
            rcases Nat.lt_or_ge i j with q3 | q3
            · exact q3
            · obtain rfl : i = j := by omega
              exact absurd w2.2 q, w2.2⟩)]
  · unfold f_X10_take_j65
    refine Ok.r ⟨by rw [hv.1 262 (by decide)]; exact e2, by rw [hv.1 262 (by decide)]; exact e3, by rw [hv.1 262 (by decide)]; exact e4, hv.2, hF1.trans (hv.1.mono fun k hk => Or.inr hk)⟩
def bitQ (Q : Nat → Bool) (i m : Nat) : Bool := Q m && bt (nI m) i
theorem X10_seek (hn : n ≤ 6) (hc : c ≤ 36) (h3 : c % 3 = 0) (hB : ∀ i, i < c → μ 2 i = nI (B i)) : Ok (f_X10_seek μ (nI c) (nI n)) (fun ν => ν 262 2 = nI n ∧ ν 262 3 = nI (cntN (fun m => fitQ B m (c / 3)) (2 ^ n)) ∧ ν 262 4 = (if cntN (fun m => fitQ B m (c / 3)) (2 ^ n) = 0 then 0 else andA (fun m => fitQ B m (c / 3)) n (2 ^ n)) ∧ (∀ i, i < n → ν 263 i = nI (cntN (bitQ (fun m => fitQ B m (c / 3)) i) (2 ^ n))) ∧ Fr sX μ ν) := by
  have hp : 2 ^ n ≤ 64 := Nat.pow_le_pow_right (by decide) hn
  have sh : ((1 : Int32) <<< (nI n &&& 31)) = nI (2 ^ n) := pw_nI (by omega)
  generalize hQ : (fun m => fitQ B m (c / 3)) = Q
  have hQm : ∀ m, fitQ B m (c / 3) = Q m := fun m => by rw [← hQ]
  unfold f_X10_seek
  generalize hν0 : mset (mset (mset μ 262 2 (nI n)) 262 3 0) 262 4 0 = ν0
  have a2 : ν0 262 2 = nI n := by rw [← hν0, mset_atn (by decide), mset_atn (by decide), mset_at]
  have a3 : ν0 262 3 = 0 := by rw [← hν0, mset_atn (by decide), mset_at]
  have a4 : ν0 262 4 = 0 := by rw [← hν0, mset_at]
  have aF : Fr sX μ ν0 := by rw [← hν0]; exact ((Fr.set (S := sX) (Or.inl rfl)).put (Or.inl rfl)).put (Or.inl rfl)
  unfold f_X10_seek_l17
  refine Ok.loop (fun j z => z.1 = nI j ∧ Fr (fun k => k = 263) ν0 z.2 ∧ ∀ i, i < j → z.2 263 i = 0) (fun ν => Fr (fun k => k = 263) ν0 ν ∧ ∀ i, i < n → ν 263 i = 0) n (by omega) ⟨rfl, Fr.refl, fun i hi => absurd hi (by omega)⟩ (fun j z hj hI => ?_) (fun ν1 h1 => ?_)
  · obtain ⟨x, ν⟩ := z
    obtain ⟨e1, hF, hv⟩ := hI
    dsimp only at e1 hF hv
    subst e1
    show Ok (f_X10_seek_b17 ν (nI c) (nI j)) _
    unfold f_X10_seek_b17
    rw [hF 262 (by decide), a2]
    by_cases hc2 : j = n
    · subst hc2
      exact Ok.t (nI_le (Nat.le_refl _) (by omega)) (Ok.d ⟨hF, hv⟩)
    · refine Ok.e (nI_ge (by omega) (by omega)) (Ok.s (wr_nI (by omega) (by decide)) ?_)
      refine Ok.c (by omega) ⟨nI_1 _, hF.put rfl, fun i hi => ?_⟩
      dsimp only
      by_cases e : i = j
      · subst e; exact mset_at
      · rw [mset_atn e]; exact hv i (by omega)
  · unfold f_X10_seek_j38 f_X10_seek_l40
    have b62 : ν1 262 = ν0 262 := h1.1 262 (by decide)
    refine Ok.loop (fun m z => z.1 = nI m ∧ z.2 262 2 = nI n ∧ z.2 262 3 = nI (cntN Q m) ∧ z.2 262 4 = (if cntN Q m = 0 then 0 else andA Q n m) ∧ (∀ i, i < n → z.2 263 i = nI (cntN (bitQ Q i) m)) ∧ Fr sX μ z.2) (fun ν => ν 262 2 = nI n ∧ ν 262 3 = nI (cntN Q (2 ^ n)) ∧ ν 262 4 = (if cntN Q (2 ^ n) = 0 then 0 else andA Q n (2 ^ n)) ∧ (∀ i, i < n → ν 263 i = nI (cntN (bitQ Q i) (2 ^ n))) ∧ Fr sX μ ν) (2 ^ n) (by omega) ⟨rfl, by dsimp only; rw [b62]; exact a2, by dsimp only; rw [b62]; exact a3, by dsimp only; rw [b62]; exact a4, fun i hi => h1.2 i hi, aF.trans (h1.1.mono fun k hk => Or.inr hk)⟩ (fun m z hm hI => ?_) (fun ν hν => Ok.r hν)
    obtain ⟨x, ν⟩ := z
    obtain ⟨e1, g2, g3, g4, g5, hF⟩ := hI
    dsimp only at e1 g2 g3 g4 g5 hF
    subst e1
    show Ok (f_X10_seek_b40 ν (nI c) (nI m)) _
    unfold f_X10_seek_b40
    rw [g2, sh]
    by_cases hc2 : m = 2 ^ n
    · subst hc2
      exact Ok.t (nI_le (Nat.le_refl _) (by omega)) (Ok.d ⟨g2, g3, g4, g5, hF⟩)
    · have hm2 : m < 2 ^ n := by omega
      have hcn := cntN_le (P := Q) m
      refine Ok.e (nI_ge hm2 (by omega)) (Ok.s (X10_fits hc h3 (fun i hi => by rw [hF 2 (by unfold sX; decide)]; exact hB i hi) m) ?_)
      rw [hQm]
      unfold f_X10_seek_j64_40
      by_cases q : Q m = true
      · refine Ok.t q ((X10_take (m := m) hn g2 g3 g5).b fun ν2 hv => ?_)
        refine Ok.c hm2 ⟨nI_1 _, hv.1, by rw [cnt_t q]; exact hv.2.1, ?_, fun i hi => ?_, hF.trans hv.2.2.2.2⟩
        · dsimp only
          rw [hv.2.2.1, cnt_t q, if_neg (show ¬ cntN Q m + 1 = 0 by omega), g4]
          show _ = (if Q m = true then andA Q n m &&& nI m else andA Q n m)
          rw [if_pos q]
          by_cases z0 : cntN Q m = 0
          · rw [if_pos (by rw [z0]; rfl), andA_0 z0, all_and n (by omega) m (by omega) hm2]
          · rw [if_neg (nI_ne0 (by omega) (by omega)), if_neg z0]
        · dsimp only
          rw [hv.2.2.2.1 i hi]
          by_cases w : bt (nI m) i = true
          · rw [if_pos w, cnt_t (by unfold bitQ; rw [q, w]; rfl)]
          · rw [if_neg w, cnt_f (by unfold bitQ; rw [q]; simp [w])]; rfl
      · refine Ok.e q (Ok.c hm2 ⟨nI_1 _, g2, by rw [cnt_f q]; exact g3, ?_, fun i hi => ?_, hF⟩)
        · dsimp only
          rw [g4, cnt_f q]
          show _ = if cntN Q m = 0 then 0 else (if Q m = true then andA Q n m &&& nI m else andA Q n m)
          rw [if_neg q]
        · dsimp only
          rw [g5 i hi, cnt_f (by unfold bitQ; simp [q])]
end We2
