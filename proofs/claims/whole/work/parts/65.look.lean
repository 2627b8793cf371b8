/-! WEAR AND LOOK -/
def KU (μ ν : Mem) : Prop := Fr (fun k => scC k ∨ k = 1) μ ν ∧ ν 1 1 = 0 ∧ ∀ i, i ≠ 1 → ν 1 i = μ 1 i
def KMU (ν ν' : Mem) : Prop := Fr scM ν ν' ∧ (∀ i, i = 6 ∨ i = 7 ∨ i = 14 → ν' 264 i = ν 264 i) ∧ ν' 264 9 = 0
def AgU (μ : Mem) (o : Option (Int32 × Mem)) (m : Mem → Option (Int32 × Mem)) : Prop := ∃ (c v : Int32), Ok o (CR c v (KU μ)) ∧ ∀ ν, KU μ ν → Ok (m ν) (MR ν c v (KMU ν))
def usesM (ν : Mem) : Mem := mset (mset (mset (mset ν 264 0 0) 264 11 (ν 264 9)) 264 9 0) 264 10 0
theorem X12_uses {ν : Mem} : f_X12_uses ν = some (usesM ν) := by
  unfold f_X12_uses usesM
  rw [mset_atn (show 9 ≠ 0 by decide)]
theorem uses_o {ν : Mem} {k : Nat} (h : k ≠ 264) : usesM ν k = ν k := by unfold usesM; rw [mset_ne h, mset_ne h, mset_ne h, mset_ne h]
theorem uses_0 {ν : Mem} : usesM ν 264 0 = 0 := by unfold usesM; rw [mset_atn (by decide), mset_atn (by decide), mset_atn (by decide), mset_at]
theorem uses_9 {ν : Mem} : usesM ν 264 9 = 0 := by unfold usesM; rw [mset_atn (by decide), mset_at]
theorem uses_11 {ν : Mem} : usesM ν 264 11 = ν 264 9 := by unfold usesM; rw [mset_atn (by decide), mset_atn (by decide), mset_at]
theorem uses_i {ν : Mem} {i : Nat} (h0 : i ≠ 0) (h9 : i ≠ 9) (h10 : i ≠ 10) (h11 : i ≠ 11) : usesM ν 264 i = ν 264 i := by unfold usesM; rw [mset_atn h10, mset_atn h9, mset_atn h11, mset_atn h0]
theorem kmu_uses {ν : Mem} : KMU ν (usesM ν) := ⟨fun k hk => uses_o (fun q => hk (by unfold scM; omega)), fun i hi => uses_i (by omega) (by omega) (by omega) (by omega), uses_9⟩
theorem kmu_thr {ν ν' : Mem} {v : Int32} (h : KMU ν ν') : KMU ν (mset ν' 264 0 v) := ⟨h.1.put (by unfold scM; omega), fun i hi => by rw [mset_atn (by omega)]; exact h.2.1 i hi, by rw [mset_atn (by decide)]; exact h.2.2⟩
section Lo
variable {n c : Nat} {f : Int32} {μ : Mem} {L : Ld} {T : Tx} {B : Nat → Nat}
theorem ku_use (h1 : μ 1 1 = nI c) : f_X8_useUp μ = some (nI c, mset μ 1 1 0) := by unfold f_X8_useUp; rw [h1]
theorem ku0 : KU μ (mset μ 1 1 0) := ⟨Fr.set (Or.inr rfl), mset_at, fun i hi => mset_atn hi⟩
theorem KU.to {ν ν' : Mem} (h : KU μ ν) (hF : Fr scC ν ν') (h1 : ν' 1 = ν 1) : KU μ ν' := ⟨h.1.trans (hF.mono fun k hk => Or.inl hk), by rw [h1]; exact h.2.1, fun i hi => by rw [h1]; exact h.2.2 i hi⟩
theorem St.ku (h : St n f L T μ) {ν : Mem} (k : KU μ ν) : St n f L T ν := by
  obtain ⟨h1, h2, h3, h4, h5, h6⟩ := h
  have e : ν 265 = μ 265 := k.1 265 (by unfold scC; omega)
  exact ⟨h1.fr fun j hj => k.1 _ (by unfold scC; omega), by rw [e]; exact h2, h3, h4.fr fun j hj => k.1 _ (by unfold scC; omega), by rw [e]; exact h5, h6⟩
theorem toldA_t (h : toldA n B c = true) : c ≤ 36 ∧ c % 3 = 0 ∧ toldQ n B (c / 3) = true := by
  unfold toldA at h
  rw [Bool.and_eq_true, Bool.and_eq_true] at h
  exact ⟨of_decide_eq_true h.1.1, of_decide_eq_true h.1.2, h.2⟩
/-- the model's half, used up -/
theorem half_u (h : St n f L T μ) (hM : TpM μ c B) {ν : Mem} (hk : KU μ ν) : ML n f (usesM ν 265) L ∧ usesM ν 264 11 = nI c ∧ ∀ i, i < c → usesM ν 270 i = sb (B i) := by
  refine ⟨by rw [uses_o (by decide)]; exact (h.ku hk).m, ?_, fun i hi => ?_⟩
  · rw [uses_11, hk.1 264 (by unfold scC; omega)]; exact hM.1
  · rw [uses_o (by decide), hk.1 270 (by unfold scC; omega)]; exact hM.2 i hi
theorem mruI {ν ν' : Mem} {c v w : Int32} (h1 : ν' 264 0 = c) (h2 : c = 0 → w = v) (h4 : KMU ν ν') : Ok (some (w, ν')) (MR ν c v (KMU ν)) := mrG h1 h2 (h4.1 275 (by unfold scM; omega)) h4
theorem X11_wearers (h : CL n f μ 3 L) (hc : c ≤ 400) (hb : ∀ i, B i < 256) (hB : ∀ i, i < c → μ 2 i = nI (B i)) : Ok (f_X11_needWearers μ (nI c)) (fun r => match r with
    | .inl e => toldA n B c = false ∧ e = (1, μ)
    | .inr ν => toldA n B c = true ∧ ν 262 2 = nI n ∧ ν 262 3 = nI (cntN (fun m => fitQ B m (c / 3)) (2 ^ n)) ∧ ν 262 4 = (if cntN (fun m => fitQ B m (c / 3)) (2 ^ n) = 0 then 0 else andA (fun m => fitQ B m (c / 3)) n (2 ^ n)) ∧ (∀ i, i < n → ν 263 i = nI (cntN (bitQ (fun m => fitQ B m (c / 3)) i) (2 ^ n))) ∧ Fr sX μ ν) := by
  have hn := h.n6
  unfold f_X11_needWearers
  rw [h.ppl]
  refine Ok.s (X10_areTold hn hc hB hb) ?_
  cases ht : toldA n B c with
  | false => exact Ok.e fnt (Ok.r ⟨rfl, rfl⟩)
  | true =>
    obtain ⟨g1, g2, g3⟩ := toldA_t ht
    exact Ok.t rfl ((X10_seek hn g1 g2 hB).b fun ν hv => Ok.r ⟨rfl, hv⟩)
theorem everyb (h : ML n f (μ 265) L) : f_X12_everybody μ = some (nI (2 ^ n - 1)) := by
  unfold f_X12_everybody
  rw [X12_people h, sb9, all_nI n (by have := h.n6; omega)]
theorem q_wear (h : St n f L T μ) (hc : c ≤ 400) (hb : ∀ i, B i < 256) (hC : TpC μ c B) (hM : TpM μ c B) (p1 : Bool) : AgU μ (f_L_wear μ p1) (fun ν => f_X12_wear ν p1) := by
  have hn := h.n6
  have hp : 2 ^ n ≤ 64 := Nat.pow_le_pow_right (by decide) hn
  have hp0 : 0 < 2 ^ n := Nat.pow_pos (by decide)
  have k0 : KU μ (mset μ 1 1 0) := ku0
  have hw := X11_wearers (c := c) (h.ku k0).c hc hb (fun i hi => by rw [mset_ne (by decide)]; exact hC.2 i hi)
  have hP : ∀ (ν : Mem) (x : Int32), KU μ ν → KU μ (mset ν 275 0 x) := fun ν x hk => hk.to (Fr.set (by unfold scC; omega)) (mset_ne (by decide))
  cases ht : toldA n B c with
  | false =>
    refine ⟨1, 0, wrapG1 (k := 1) (by decide) rfl hP ?_, fun ν hk => ?_⟩
    · unfold f_X11_wear
      refine Ok.s (ku_use hC.1) (hw.b fun r hr => ?_)
      cases r with
      | inl e =>
        obtain ⟨-, rfl⟩ := hr
        exact elimL' (XR.no (by decide) k0)
      | inr ν => rw [ht] at hr; cases hr.1
    · obtain ⟨m1, m2, m3⟩ := half_u h hM hk
      unfold f_X12_wear
      refine Ok.s X12_uses (Ok.s (X12_isTold m1 hc m2 m3 hb) ?_)
      rw [ht]
      exact Ok.s (X12_thrT 1) (Ok.t rfl (mruI (show mset (usesM ν) 264 0 1 264 0 = 1 from mset_at) (fun q => absurd q (by decide)) (kmu_thr kmu_uses)))
  | true =>
    obtain ⟨g1, g2, g3⟩ := toldA_t ht
    refine ⟨0, if p1 = true then (if cntN (fun m => fitQ B m (c / 3)) (2 ^ n) = 0 then 0 else andA (fun m => fitQ B m (c / 3)) n (2 ^ n)) else nI (cntN (fun m => fitQ B m (c / 3)) (2 ^ n)), wrapG1 (k := 0) (by decide) rfl hP ?_, fun ν hk => ?_⟩
    · unfold f_X11_wear
      refine Ok.s (ku_use hC.1) (hw.b fun r hr => ?_)
      cases r with
      | inl e => rw [ht] at hr; cases hr.1
      | inr ν =>
        obtain ⟨-, r2, r3, r4, r5, hF⟩ := hr
        refine elimR' (XR.yes ?_ (k0.to (hF.mono fun k hk => by unfold scC; unfold sX at hk; omega) (hF 1 (by unfold sX; decide))))
        rw [r3, r4]
    · obtain ⟨m1, m2, m3⟩ := half_u h hM hk
      unfold f_X12_wear
      refine Ok.s X12_uses (Ok.s (X12_isTold m1 hc m2 m3 hb) ?_)
      rw [ht]
      refine Ok.s (X12_thrF 1) (Ok.e fnt (Ok.s (everyb m1) ?_))
      unfold f_X12_wear_l36
      generalize hQ : (fun m => fitQ B m (c / 3)) = Q
      have hQm : ∀ m, fitQ B m (c / 3) = Q m := fun m => by rw [← hQ]
      refine Ok.loop (fun m z => z.1 = nI (cntN Q m) ∧ z.2.1 = andA Q n m ∧ z.2.2 = nI m) (fun t => t.1 = nI (cntN Q (2 ^ n)) ∧ t.2 = andA Q n (2 ^ n)) (2 ^ n) (by omega) ⟨rfl, rfl, rfl⟩ (fun m z hm hI => ?_) (fun t ht2 => ?_)
      · obtain ⟨x, y, z⟩ := z
        obtain ⟨e1, e2, e3⟩ := hI
        dsimp only at e1 e2 e3
        subst e1 e2 e3
        show Ok (f_X12_wear_b36 (usesM ν) p1 _ _ (nI m)) _
        unfold f_X12_wear_b36
        refine Ok.s (everyb m1) ?_
        by_cases hc2 : m = 2 ^ n
        · subst hc2
          exact Ok.t (nI_lt (by omega) (by omega)) (Ok.d ⟨rfl, rfl⟩)
        · have hm2 : m < 2 ^ n := by omega
          refine Ok.e (nI_nlt (by omega) (by omega)) (Ok.s (X12_fits hn g1 g2 g3 m2 m3 hb (by omega)) ?_)
          rw [hQm]
          unfold f_X12_wear_j65_36
          by_cases q : Q m = true
          · refine Ok.t q (Ok.c hm2 ⟨by dsimp only; rw [nI_1, cnt_t q], ?_, nI_1 _⟩)
            show _ = (if Q m = true then andA Q n m &&& nI m else andA Q n m)
            rw [if_pos q]
          · refine Ok.e q (Ok.c hm2 ⟨by dsimp only; rw [cnt_f q], ?_, nI_1 _⟩)
            show _ = (if Q m = true then andA Q n m &&& nI m else andA Q n m)
            rw [if_neg q]
      · obtain ⟨x, y⟩ := t
        obtain ⟨rfl, rfl⟩ := ht2
        show Ok (f_X12_wear_j71 (usesM ν) p1 _ _) _
        unfold f_X12_wear_j71
        refine mruI uses_0 (fun _ => ?_) kmu_uses
        cases p1 with
        | false => rfl
        | true =>
          rw [if_pos rfl, if_pos rfl]
          by_cases z0 : cntN Q (2 ^ n) = 0
          · rw [if_pos z0, if_pos (by rw [z0]; rfl)]
          · rw [if_neg z0, if_neg (nI_ne0 (by omega) (by have := cntN_le (P := Q) (2 ^ n); omega))]
end Lo
