/-! READING: the class's and the model's first steps -/
def Tb (c : Nat) (B : Nat → Nat) (μ0 ν0 : Mem) : Prop := c ≤ 400 ∧ (∀ i, B i < 256) ∧ μ0 1 2 = nI c ∧ (∀ i, i < c → μ0 2 i = nI (B i)) ∧ ν0 264 11 = nI c ∧ ∀ i, i < c → ν0 270 i = sb (B i)
def cS (k : Nat) : Prop := k = 1 ∨ (18 ≤ k ∧ k ≤ 32) ∨ (56 ≤ k ∧ k ≤ 61)
def Cb (μ0 μ : Mem) : Prop := (∀ k, ¬ cS k → μ k = μ0 k) ∧ ∀ i, i ≠ 3 → i ≠ 4 → μ 1 i = μ0 1 i
def Mb (ν0 ν : Mem) : Prop := (∀ k, k ≠ 264 → k ≠ 265 → ν k = ν0 k) ∧ ∀ i, i ≠ 10 → i ≠ 12 → i ≠ 13 → i ≠ 16 → ν 264 i = ν0 264 i
def Cr (c : Nat) (B : Nat → Nat) (μ0 μ : Mem) (a : Nat) : Prop := Cb μ0 μ ∧ μ 1 3 = nI a ∧ a ≤ c ∧ μ 1 4 = -1 ∧ sk c B a = a
def Cw (c : Nat) (μ0 μ : Mem) (w : Nat) : Prop := Cb μ0 μ ∧ (∃ a, a ≤ c ∧ μ 1 3 = nI a) ∧ μ 1 4 = nI w ∧ w ≤ c
theorem Cb.refl {μ : Mem} : Cb μ μ := ⟨fun _ _ => rfl, fun _ _ _ => rfl⟩
theorem Cb.set3 {μ0 μ : Mem} {v : Int32} (h : Cb μ0 μ) : Cb μ0 (mset μ 1 3 v) := ⟨fun k hk => by rw [mset_ne (fun q => hk (Or.inl q))]; exact h.1 k hk, fun i h3 h4 => by rw [mset_atn h3]; exact h.2 i h3 h4⟩
theorem Cb.set4 {μ0 μ : Mem} {v : Int32} (h : Cb μ0 μ) : Cb μ0 (mset μ 1 4 v) := ⟨fun k hk => by rw [mset_ne (fun q => hk (Or.inl q))]; exact h.1 k hk, fun i h3 h4 => by rw [mset_atn h4]; exact h.2 i h3 h4⟩
/-- the place and what stood there first -/
def setPB (ν : Mem) (p b : Nat) : Mem := mset (mset ν 264 10 (nI p)) 264 12 (nI b)
theorem setPB_10 {ν : Mem} {p b : Nat} : setPB ν p b 264 10 = nI p := by unfold setPB; rw [mset_atn (by decide), mset_at]
theorem setPB_12 {ν : Mem} {p b : Nat} : setPB ν p b 264 12 = nI b := mset_at
theorem setPB_i {ν : Mem} {p b i : Nat} (h1 : i ≠ 10) (h2 : i ≠ 12) : setPB ν p b 264 i = ν 264 i := by unfold setPB; rw [mset_atn h2, mset_atn h1]
theorem setPB_o {ν : Mem} {p b k : Nat} (h : k ≠ 264) : setPB ν p b k = ν k := by unfold setPB; rw [mset_ne h, mset_ne h]
theorem mset_comm {μ : Mem} {a i j : Nat} {x y : Int32} (h : i ≠ j) : mset (mset μ a i x) a j y = mset (mset μ a j y) a i x := by
  funext b
  by_cases hb : b = a
  · subst hb
    rw [mset_eq, mset_eq, mset_eq, mset_eq]
    funext k
    by_cases h1 : k = i
    · subst h1
      rw [pk_un h, pk_us, pk_us]
    · by_cases h2 : k = j
      · subst h2
        rw [pk_us, pk_un h1, pk_us]
      · rw [pk_un h2, pk_un h1, pk_un h1, pk_un h2]
  · rw [mset_ne hb, mset_ne hb, mset_ne hb, mset_ne hb]
theorem setPB_set {ν : Mem} {p b q : Nat} : mset (setPB ν p b) 264 10 (nI q) = setPB ν q b := by
  unfold setPB
  rw [mset_comm (show 12 ≠ 10 by decide), mset_mset]
theorem setPB_set2 {ν : Mem} {p b q : Nat} : mset (setPB ν p b) 264 12 (nI q) = setPB ν p q := mset_mset
theorem setPB_2 {ν : Mem} {p b p' b' : Nat} : setPB (setPB ν p b) p' b' = setPB ν p' b' := by
  show mset (mset (setPB ν p b) 264 10 (nI p')) 264 12 (nI b') = _
  rw [setPB_set, setPB_set2]
theorem Mb.refl {ν : Mem} : Mb ν ν := ⟨fun _ _ _ => rfl, fun _ _ _ _ _ => rfl⟩
theorem Mb.pb {ν0 ν : Mem} {p b : Nat} (h : Mb ν0 ν) : Mb ν0 (setPB ν p b) := ⟨fun k h1 h2 => by rw [setPB_o h1]; exact h.1 k h1 h2, fun i h1 h2 h3 h4 => by rw [setPB_i h1 h2]; exact h.2 i h1 h2 h3 h4⟩
theorem sb_neg : ∀ b, b < 256 → 128 ≤ b → (sb b).toInt < 0 := by decide +kernel
theorem skN : ∀ s, s < 79 → wok s = true → s < 79 := fun _ h _ => h
section Rd
variable {c : Nat} {B : Nat → Nat} {μ0 ν0 μ ν : Mem} {a p w : Nat}
theorem Tb.le4 (H : Tb c B μ0 ν0) : c ≤ 400 := H.1
theorem Tb.b (H : Tb c B μ0 ν0) (i : Nat) : B i < 256 := H.2.1 i
theorem Tb.len (H : Tb c B μ0 ν0) (h : Cb μ0 μ) : μ 1 2 = nI c := by rw [h.2 2 (by decide) (by decide)]; exact H.2.2.1
theorem Tb.byt (H : Tb c B μ0 ν0) (h : Cb μ0 μ) {i : Nat} (hi : i < c) : rd μ 2 400 (nI i) = some (nI (B i)) := by
  have := H.1
  rw [rd_nI (by omega) (by decide), h.1 2 (by unfold cS; omega), H.2.2.2.1 i hi]
theorem Tb.end9 (H : Tb c B μ0 ν0) (h : Mb ν0 ν) : ν 264 11 = nI c := by rw [h.2 11 (by decide) (by decide) (by decide) (by decide)]; exact H.2.2.2.2.1
theorem Tb.sbt (H : Tb c B μ0 ν0) (h : Mb ν0 ν) {i : Nat} (hi : i < c) : rd ν 270 400 (nI i) = some (sb (B i)) := by
  have := H.1
  rw [rd_nI (by omega) (by decide), h.1 270 (by decide) (by decide), H.2.2.2.2.2 i hi]
/-! the class -/
theorem X8_run (H : Tb c B μ0 ν0) (h : Cb μ0 μ) (ha : μ 1 3 = nI a) (hac : a ≤ c) {lo hi : Nat} (hl : lo < 2 ^ 31) (hh : hi < 2 ^ 31) : f_X8_runOf μ (nI lo) (nI hi) = some (nI (run c B lo hi a - a)) := by
  have hc := H.le4
  have hge := run_ge (c := c) (B := B) (lo := lo) (hi := hi) (i := a)
  have hle := run_le (B := B) (lo := lo) (hi := hi) hac
  unfold f_X8_runOf f_X8_runOf_l5
  rw [ha]
  refine bind_loop (fun j => nI (a + j)) (run c B lo hi a - a) (nI (run c B lo hi a)) rfl (fun j hj => ?_) ?_ (by omega) ?_
  · show f_X8_runOf_b5 μ (nI lo) (nI hi) (nI (a + j)) = _
    obtain ⟨q1, q2, q3⟩ := run_in (c := c) (B := B) (lo := lo) (hi := hi) (i := a) (j := a + j) (by omega) (by omega)
    have hb := H.b (a + j)
    unfold f_X8_runOf_b5
    rw [H.len h]
    refine ie (nI_ge q1 (by omega)) (bs (H.byt h q1) (ie (nI_nlt q2 (by omega)) (bs (H.byt h q1) (ie (nI_nlt q3 (by omega)) ?_))))
    rw [nI_1]; rfl
  · show f_X8_runOf_b5 μ (nI lo) (nI hi) (nI (a + (run c B lo hi a - a))) = _
    rw [show a + (run c B lo hi a - a) = run c B lo hi a by omega]
    have ho := run_out (B := B) (lo := lo) (hi := hi) (i := a) hc
    generalize run c B lo hi a = e at ho hge hle ⊢
    have hb := H.b e
    unfold f_X8_runOf_b5
    rw [H.len h]
    by_cases q1 : e < c
    · refine ie (nI_ge q1 (by omega)) (bs (H.byt h q1) ?_)
      by_cases q2 : lo ≤ B e
      · refine ie (nI_nlt q2 (by omega)) (bs (H.byt h q1) (it (nI_lt ?_ (by omega)) rfl))
        rcases Nat.lt_or_ge hi (B e) with q3 | q3
        · exact q3
        · rw [inR_iff.mpr ⟨q1, q2, q3⟩] at ho; cases ho
      · exact it (nI_lt (by omega) (by omega)) rfl
    · exact it (nI_le (by omega) (by omega)) rfl
  · unfold f_X8_runOf_j39
    rw [ha, pk_sub hge]
theorem X8_move (H : Tb c B μ0 ν0) (h : Cb μ0 μ) (hp : p ≤ c) : f_X8_moveTo μ (nI p) = some (mset μ 1 3 (nI (sk c B p))) := by
  have hc := H.le4
  have hge := sk_ge (c := c) (B := B) (i := p)
  have hle := sk_le (B := B) hp
  unfold f_X8_moveTo f_X8_moveTo_l5
  refine bind_loop (fun j => mset μ 1 3 (nI (p + j))) (sk c B p - p) (mset μ 1 3 (nI (sk c B p))) rfl (fun j hj => ?_) ?_ (by omega) rfl
  · show f_X8_moveTo_b5 (mset μ 1 3 (nI (p + j))) = _
    obtain ⟨q1, q2, q3⟩ := run_in (c := c) (B := B) (lo := 32) (hi := 32) (i := p) (j := p + j) (by omega) (by unfold sk at hj; omega)
    have h' : Cb μ0 (mset μ 1 3 (nI (p + j))) := h.set3
    unfold f_X8_moveTo_b5
    rw [H.len h', mset_at]
    refine ie (nI_ge q1 (by omega)) (bs (H.byt h' q1) (it (show nI (B (p + j)) = nI 32 by rw [show B (p + j) = 32 by omega]) ?_))
    rw [nI_1, mset_mset]; rfl
  · show f_X8_moveTo_b5 (mset μ 1 3 (nI (p + (sk c B p - p)))) = _
    rw [show p + (sk c B p - p) = sk c B p by omega]
    have ho := run_out (B := B) (lo := 32) (hi := 32) (i := p) hc
    unfold sk at hge hle ⊢
    generalize run c B 32 32 p = e at ho hge hle ⊢
    have hb := H.b e
    have h' : Cb μ0 (mset μ 1 3 (nI e)) := h.set3
    unfold f_X8_moveTo_b5
    rw [H.len h', mset_at]
    by_cases q1 : e < c
    · refine ie (nI_ge q1 (by omega)) (bs (H.byt h' q1) (ie (fun q => ?_) rfl))
      have q2 := (nI_eq (b := 32) (by omega) (by decide)).mp q
      rw [inR_iff.mpr ⟨q1, by omega, by omega⟩] at ho
      cases ho
    · exact it (nI_le (by omega) (by omega)) rfl
theorem Cr.mv (H : Tb c B μ0 ν0) (h : Cr c B μ0 μ a) (hp : p ≤ c) : Cr c B μ0 (mset μ 1 3 (nI (sk c B p))) (sk c B p) := ⟨h.1.set3, mset_at, sk_le hp, by rw [mset_atn (by decide)]; exact h.2.2.2.1, sk_sk H.le4⟩
theorem Cr.rf (h : Cr c B μ0 μ a) (hw : w ≤ c) : Cw c μ0 (mset μ 1 4 (nI w)) w := ⟨h.1.set4, ⟨a, h.2.2.1, by rw [mset_atn (by decide)]; exact h.2.1⟩, mset_at, hw⟩
theorem X8_refuse (h : Cr c B μ0 μ a) (w : Int32) : f_X8_refuse μ w = some (mset μ 1 4 w) := by
  unfold f_X8_refuse f_X8_refuse_j13
  exact it h.2.2.2.1 rfl
theorem Cw.ne (H : Tb c B μ0 ν0) (h : Cw c μ0 μ w) : ¬ μ 1 4 = -1 := by
  have := H.le4
  have := h.2.2.2
  rw [h.2.2.1]
  exact nI_nm1 (by omega)
theorem X8_refuseW (H : Tb c B μ0 ν0) (h : Cw c μ0 μ w) (v : Int32) : f_X8_refuse μ v = some μ := by
  unfold f_X8_refuse f_X8_refuse_j13
  exact ie (h.ne H) rfl
theorem X8_right (h : Cr c B μ0 μ a) : f_X8_isRight μ = some true := by unfold f_X8_isRight; rw [if_pos h.2.2.2.1]
theorem X8_rightW (H : Tb c B μ0 ν0) (h : Cw c μ0 μ w) : f_X8_isRight μ = some false := by unfold f_X8_isRight; rw [if_neg (h.ne H)]
theorem X8_word (H : Tb c B μ0 ν0) (h : Cr c B μ0 μ a) {s : Nat} (hs : s < 79) (hw : wok s = true) : f_X8_takesWord μ s = some (isW c B s a, if isW c B s a = true then mset μ 1 3 (nI (sk c B (a + wlen s))) else μ) := by
  obtain ⟨hb, ha, hac, hr, hsk⟩ := h
  have hc := H.le4
  have hge := run_ge (c := c) (B := B) (lo := 97) (hi := 122) (i := a)
  have hle := run_le (B := B) (lo := 97) (hi := 122) hac
  obtain ⟨w1, w2, w3, w4⟩ := sch_ok s hs hw
  unfold f_X8_takesWord
  refine bs (X8_run H hb ha hac (lo := 97) (hi := 122) (by decide) (by decide)) (it hr ?_)
  rw [w3]
  unfold f_X8_takesWord_j25
  by_cases e : run c B 97 122 a - a = wlen s
  · refine it (by rw [e]) ?_
    unfold f_X8_takesWord_l29
    rw [e]
    have eis : isW c B s a = eqW B s a (wlen s) := by unfold isW; rw [decide_eq_true e, Bool.true_and]
    have key : Ok (Option.bind (loopN 10000 (fun z : Int32 => f_X8_takesWord_b29 μ s (nI (wlen s)) z) 0) fun t : (Unit ⊕ (Bool × Mem)) => Sum.elim (fun e => f_X8_takesWord_j61 μ s (nI (wlen s))) (fun x => some x) t) (fun q => q = (isW c B s a, if isW c B s a = true then mset μ 1 3 (nI (sk c B (a + wlen s))) else μ)) := by
      refine Ok.loop (fun k z => z = nI k ∧ eqW B s a k = true) (fun r => (r = Sum.inl () ∧ isW c B s a = true) ∨ (r = Sum.inr (false, μ) ∧ isW c B s a = false)) (wlen s) (by omega) ⟨rfl, rfl⟩ (fun k z hk hI => ?_) (fun r hr => ?_)
      · obtain ⟨rfl, hI⟩ := hI
        show Ok (f_X8_takesWord_b29 μ s (nI (wlen s)) (nI k)) _
        unfold f_X8_takesWord_b29
        by_cases hk2 : k = wlen s
        · subst hk2
          exact Ok.t (nI_le (Nat.le_refl _) (by omega)) (Ok.d (Or.inl ⟨rfl, by rw [eis]; exact hI⟩))
        · obtain ⟨s1, s2⟩ := w4 k (by omega)
          have hbb := H.b (a + k)
          have hnx : eqW B s a (k + 1) = (eqW B s a k && decide (B (a + k) = wch s k)) := rfl
          rw [ha, nI_add]
          refine Ok.e (nI_ge (by omega) (by omega)) (Ok.s (H.byt hb (by omega)) (Ok.s s1 ?_))
          by_cases d : B (a + k) = wch s k
          · exact Ok.t (by rw [d]) (Ok.c (by omega) ⟨nI_1 _, by rw [hnx, hI, decide_eq_true d]; rfl⟩)
          · refine Ok.e (fun q => d ((nI_eq (by omega) (by omega)).mp q)) (Ok.d (Or.inr ⟨rfl, ?_⟩))
            have := eqW_f (B := B) (s := s) (a := a) (k := k + 1) (by rw [hnx, decide_eq_false d, Bool.and_false]) (wlen s - (k + 1))
            rw [show k + 1 + (wlen s - (k + 1)) = wlen s by omega] at this
            rw [eis]; exact this
      · rcases hr with ⟨rfl, e2⟩ | ⟨rfl, e2⟩
        · show Ok (f_X8_takesWord_j61 μ s (nI (wlen s))) _
          unfold f_X8_takesWord_j61
          rw [ha, nI_add, e2, if_pos rfl]
          exact Ok.s (X8_move H hb (by omega)) (Ok.r rfl)
        · rw [e2]
          exact Ok.r rfl
    obtain ⟨q, e1, e2⟩ := key
    rw [e2] at e1
    exact e1
  · refine ie (fun q => e ((nI_eq (by omega) (by omega)).mp q)) ?_
    have : isW c B s a = false := by unfold isW; rw [decide_eq_false e]; rfl
    rw [this]; rfl
theorem X8_wordW (H : Tb c B μ0 ν0) (h : Cw c μ0 μ w) (s : Nat) : f_X8_takesWord μ s = some (false, μ) := by
  obtain ⟨a, hac, ha⟩ := h.2.1
  unfold f_X8_takesWord f_X8_takesWord_j25
  exact bs (X8_run H h.1 ha hac (lo := 97) (hi := 122) (by decide) (by decide)) (ie (h.ne H) rfl)
theorem X8_sign (H : Tb c B μ0 ν0) (h : Cr c B μ0 μ a) {ch : Nat} (hch : ch < 128) : f_X8_takesSign μ (nI ch) = some (inR c B ch ch a, if inR c B ch ch a = true then mset μ 1 3 (nI (sk c B (a + 1))) else μ) := by
  obtain ⟨hb, ha, hac, hr, hsk⟩ := h
  have hc := H.le4
  have hbb := H.b a
  unfold f_X8_takesSign f_X8_takesSign_j32
  refine it hr ?_
  rw [H.len hb, ha]
  by_cases q1 : a < c
  · refine ie (nI_ge q1 (by omega)) (bs (H.byt hb q1) ?_)
    by_cases e : B a = ch
    · have : inR c B ch ch a = true := inR_iff.mpr ⟨q1, by omega, by omega⟩
      refine it (by rw [e]) ?_
      rw [this, if_pos rfl, nI_1]
      exact bs (X8_move H hb (by omega)) rfl
    · have : inR c B ch ch a = false := by
        cases hq : inR c B ch ch a with
        | false => rfl
        | true => have := inR_iff.mp hq; omega
      refine ie (fun q => e ((nI_eq (by omega) (by omega)).mp q)) ?_
      rw [this]; rfl
  · have : inR c B ch ch a = false := by
      cases hq : inR c B ch ch a with
      | false => rfl
      | true => have := inR_iff.mp hq; omega
    refine it (nI_le (by omega) (by omega)) ?_
    rw [this]; rfl
theorem X8_signW (H : Tb c B μ0 ν0) (h : Cw c μ0 μ w) (ch : Int32) : f_X8_takesSign μ ch = some (false, μ) := by
  unfold f_X8_takesSign f_X8_takesSign_j32
  exact ie (h.ne H) rfl
theorem X8_needW (H : Tb c B μ0 ν0) (h : Cw c μ0 μ w) (s : Nat) : f_X8_needWord μ s = some μ := by
  unfold f_X8_needWord f_X8_needWord_j16
  exact bs (X8_wordW H h s) (ie fnt (bs (X8_refuseW H h _) rfl))
theorem X8_needSW (H : Tb c B μ0 ν0) (h : Cw c μ0 μ w) (ch : Int32) : f_X8_needSign μ ch = some μ := by
  unfold f_X8_needSign f_X8_needSign_j16
  exact bs (X8_signW H h ch) (ie fnt (bs (X8_refuseW H h _) rfl))
/-- a number, as far as it is one -/
theorem X8_digits (H : Tb c B μ0 ν0) (h : Cb μ0 μ) (ha : μ 1 3 = nI a) (hac : a ≤ c) (lo hi : Int32) {d : Nat} (hd : d ≤ 3) (hda : a + d ≤ dgE c B a) : f_X8_takeNumber_l35 μ lo hi (nI d) 0 0 = f_X8_takeNumber_j70 μ lo hi (nI d) (nI (valN B a d)) := by
  have hc := H.le4
  have hle := run_le (B := B) (lo := 48) (hi := 57) hac
  unfold f_X8_takeNumber_l35
  refine bind_loop (fun k => (nI (valN B a k), nI k)) d (nI (valN B a d)) rfl (fun k hk => ?_) ?_ (by omega) rfl
  · show f_X8_takeNumber_b35 μ lo hi (nI d) (nI (valN B a k)) (nI k) = _
    obtain ⟨q1, q2, q3⟩ := run_in (c := c) (B := B) (lo := 48) (hi := 57) (i := a) (j := a + k) (by omega) (by unfold dgE at hda; omega)
    unfold f_X8_takeNumber_b35
    rw [ha, nI_add]
    refine ie (nI_ge hk (by omega)) (bs (H.byt h q1) ?_)
    rw [show (10 : Int32) * nI (valN B a k) = nI (10 * valN B a k) from pk_mul 10 _, nI_add, show (48 : Int32) = nI 48 from rfl, pk_sub (by omega), nI_1]
    rfl
  · show f_X8_takeNumber_b35 μ lo hi (nI d) _ (nI d) = _
    unfold f_X8_takeNumber_b35
    exact it (nI_le (Nat.le_refl _) (by omega)) rfl
theorem X8_num (H : Tb c B μ0 ν0) (h : Cr c B μ0 μ a) (lo hi : Int32) : f_X8_takeNumber μ lo hi = some (if numOk c B lo hi a = true then (nI (valN B a (dgE c B a - a)), mset μ 1 3 (nI (sk c B (dgE c B a)))) else (lo, mset μ 1 4 (nI a))) := by
  have h' := h
  obtain ⟨hb, ha, hac, hr, hsk⟩ := h
  have hc := H.le4
  have hge := run_ge (c := c) (B := B) (lo := 48) (hi := 57) (i := a)
  have hle := run_le (B := B) (lo := 48) (hi := 57) hac
  have hno : ∀ q : numOk c B lo hi a = true → False, (if numOk c B lo hi a = true then (nI (valN B a (dgE c B a - a)), mset μ 1 3 (nI (sk c B (dgE c B a)))) else (lo, mset μ 1 4 (nI a))) = (lo, mset μ 1 4 (nI a)) := fun q => if_neg q
  unfold f_X8_takeNumber
  refine bs (X8_run H hb ha hac (lo := 48) (hi := 57) (by decide) (by decide)) ?_
  have e9 : run c B 48 57 a = dgE c B a := rfl
  rw [e9] at hge hle ⊢
  unfold f_X8_takeNumber_j19
  by_cases d1 : 1 ≤ dgE c B a - a
  · refine ie (nI_nlt (b := 1) d1 (by omega)) ?_
    by_cases d2 : dgE c B a - a ≤ 3
    · refine it (nI_le (b := 3) d2 (by decide)) ?_
      rw [X8_digits H hb ha hac lo hi d2 (by omega)]
      unfold f_X8_takeNumber_j70
      refine bs X11_out ?_
      by_cases o : outb (nI (valN B a (dgE c B a - a))) lo hi = true
      · refine it o (bs (X8_refuse h' _) ?_)
        rw [hno (fun q => by have := (numOk_iff.mp q).2; rw [o] at this; cases this), ha]
      · refine ie o ?_
        rw [if_pos (numOk_iff.mpr ⟨⟨d1, d2⟩, by simpa using o⟩), ha, nI_add, show a + (dgE c B a - a) = dgE c B a by omega]
        exact bs (X8_move H hb hle) rfl
    · refine ie (nI_ge (a := 3) (by omega) (by omega)) (bs (X8_refuse h' _) ?_)
      rw [hno (fun q => d2 (numOk_iff.mp q).1.2), ha]
  · refine it (nI_lt (b := 1) (by omega) (by decide)) (bs (X8_refuse h' _) ?_)
    rw [hno (fun q => d1 (numOk_iff.mp q).1.1), ha]
theorem Cw.mv (h : Cw c μ0 μ w) (hp : p ≤ c) : Cw c μ0 (mset μ 1 3 (nI (sk c B p))) w := ⟨h.1.set3, ⟨_, sk_le hp, mset_at⟩, by rw [mset_atn (by decide)]; exact h.2.2.1, h.2.2.2⟩
theorem X8_numW (H : Tb c B μ0 ν0) (h : Cw c μ0 μ w) (lo hi : Int32) : Ok (f_X8_takeNumber μ lo hi) (fun q => Cw c μ0 q.2 w ∧ ∀ k, k ≠ 1 → q.2 k = μ k) := by
  obtain ⟨a, hac, ha⟩ := h.2.1
  have hc := H.le4
  have hge := run_ge (c := c) (B := B) (lo := 48) (hi := 57) (i := a)
  have hle := run_le (B := B) (lo := 48) (hi := 57) hac
  unfold f_X8_takeNumber
  refine Ok.s (X8_run H h.1 ha hac (lo := 48) (hi := 57) (by decide) (by decide)) ?_
  have e9 : run c B 48 57 a = dgE c B a := rfl
  rw [e9] at hge hle ⊢
  unfold f_X8_takeNumber_j19
  by_cases d1 : 1 ≤ dgE c B a - a
  · refine Ok.e (nI_nlt (b := 1) d1 (by omega)) ?_
    by_cases d2 : dgE c B a - a ≤ 3
    · refine Ok.t (nI_le (b := 3) d2 (by decide)) ?_
      rw [X8_digits H h.1 ha hac lo hi d2 (by omega)]
      unfold f_X8_takeNumber_j70
      refine Ok.s X11_out ?_
      by_cases o : outb (nI (valN B a (dgE c B a - a))) lo hi = true
      · exact Ok.t o (Ok.s (X8_refuseW H h _) (Ok.r ⟨h, fun _ _ => rfl⟩))
      · refine Ok.e o ?_
        rw [ha, nI_add]
        exact Ok.s (X8_move H h.1 (by omega)) (Ok.r ⟨h.mv (by omega), fun k hk => mset_ne hk⟩)
    · exact Ok.e (nI_ge (a := 3) (by omega) (by omega)) (Ok.s (X8_refuseW H h _) (Ok.r ⟨h, fun _ _ => rfl⟩))
  · exact Ok.t (nI_lt (b := 1) (by omega) (by decide)) (Ok.s (X8_refuseW H h _) (Ok.r ⟨h, fun _ _ => rfl⟩))
end Rd
