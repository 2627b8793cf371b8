/-! READING: the model's first steps -/
section Re
variable {c : Nat} {B : Nat → Nat} {μ0 ν0 μ ν : Mem} {a p w : Nat}
theorem sb_lo {b lo : Nat} (hb : b < 256) (hl : lo < 128) : sb b < nI lo ↔ 128 ≤ b ∨ b < lo := by
  rcases Nat.lt_or_ge b 128 with q | q
  · rw [sb_lt b q]
    constructor
    · intro h
      exact Or.inr ((nI_ltI (by omega) (by omega)).mp h)
    · rintro (h | h)
      · omega
      · exact nI_lt h (by omega)
  · have h1 := sb_neg b hb q
    refine ⟨fun _ => Or.inl q, fun _ => ?_⟩
    apply Int32.lt_iff_toInt_lt.mpr
    rw [nI_toInt (by omega)]
    omega
theorem X12_isAt (H : Tb c B μ0 ν0) (h : Mb ν0 ν) (hp : ν 264 10 = nI p) (hpc : p ≤ c) {lo hi : Nat} (hl : lo < 128) (hh : hi < 128) : f_X12_isAt ν (nI lo) (nI hi) = some (inR c B lo hi p) := by
  have hc := H.le4
  have hb := H.b p
  unfold f_X12_isAt f_X12_isAt_j41 f_X12_isAt_j42
  rw [H.end9 h, hp]
  by_cases q1 : p < c
  · refine ie (nI_ge q1 (by omega)) (bs (H.sbt h q1) ?_)
    by_cases q2 : sb (B p) < nI lo
    · refine it q2 ?_
      have : inR c B lo hi p = false := by
        cases hq : inR c B lo hi p with
        | false => rfl
        | true =>
          have h1 := inR_iff.mp hq
          have h2 := (sb_lo hb hl).mp q2
          omega
      rw [this]
    · refine ie q2 (bs (H.sbt h q1) ?_)
      have q3 : ¬ (128 ≤ B p ∨ B p < lo) := fun q => q2 ((sb_lo hb hl).mpr q)
      rw [sb_lt _ (by omega)]
      by_cases q4 : B p ≤ hi
      · rw [if_neg (nI_nlt q4 (by omega)), inR_iff.mpr ⟨q1, by omega, q4⟩]
      · rw [if_pos (nI_lt (by omega) (by omega))]
        have : inR c B lo hi p = false := by
          cases hq : inR c B lo hi p with
          | false => rfl
          | true => exact absurd (inR_iff.mp hq).2.2 q4
        rw [this]
  · refine it (nI_le (by omega) (by omega)) ?_
    have : inR c B lo hi p = false := by
      cases hq : inR c B lo hi p with
      | false => rfl
      | true => exact absurd (inR_iff.mp hq).1 q1
    rw [this]
theorem pb_self (hp : ν 264 10 = nI p) {b : Nat} : mset ν 264 12 (nI b) = setPB ν p b := by
  unfold setPB
  rw [← hp, mset_self]
theorem X12_blanks (H : Tb c B μ0 ν0) (h : Mb ν0 ν) (hp : ν 264 10 = nI p) (hpc : p ≤ c) : f_X12_blanks ν = some (setPB ν (sk c B p) (sk c B p)) := by
  have hc := H.le4
  have hge := sk_ge (c := c) (B := B) (i := p)
  have hle := sk_le (B := B) hpc
  unfold f_X12_blanks
  refine bs (X12_isAt H h hp hpc (lo := 32) (hi := 32) (by decide) (by decide)) ?_
  by_cases q : inR c B 32 32 p = true
  · refine it q ?_
    have hst : sk c B p = sk c B (p + 1) := run_step hc q
    have hpc1 := (inR_iff.mp q).1
    have hge1 := sk_ge (c := c) (B := B) (i := p + 1)
    unfold f_X12_blanks_l0
    refine bind_loop (fun j => mset ν 264 10 (nI (p + 1 + j))) (sk c B p - (p + 1)) (mset ν 264 10 (nI (sk c B p))) (by rw [hp, nI_1]) (fun j hj => ?_) ?_ (by omega) ?_
    · show f_X12_blanks_b0 (mset ν 264 10 (nI (p + 1 + j))) = _
      have h' : Mb ν0 (mset ν 264 10 (nI (p + 1 + j))) := ⟨fun k h1 h2 => by rw [mset_ne h1]; exact h.1 k h1 h2, fun i h1 h2 h3 h4 => by rw [mset_atn h1]; exact h.2 i h1 h2 h3 h4⟩
      have hin := run_in (c := c) (B := B) (lo := 32) (hi := 32) (i := p + 1) (j := p + 1 + j) (by omega) (by unfold sk at hj hst; omega)
      unfold f_X12_blanks_b0
      refine bs (X12_isAt H h' mset_at (by omega) (lo := 32) (hi := 32) (by decide) (by decide)) (it (inR_iff.mpr hin) ?_)
      rw [mset_at, nI_1, mset_mset]; rfl
    · show f_X12_blanks_b0 (mset ν 264 10 (nI (p + 1 + (sk c B p - (p + 1))))) = _
      rw [show p + 1 + (sk c B p - (p + 1)) = sk c B p by omega]
      have h' : Mb ν0 (mset ν 264 10 (nI (sk c B p))) := ⟨fun k h1 h2 => by rw [mset_ne h1]; exact h.1 k h1 h2, fun i h1 h2 h3 h4 => by rw [mset_atn h1]; exact h.2 i h1 h2 h3 h4⟩
      unfold f_X12_blanks_b0
      have ho : inR c B 32 32 (sk c B p) = false := run_out hc
      refine bs (X12_isAt H h' mset_at hle (lo := 32) (hi := 32) (by decide) (by decide)) (ie (by rw [ho]; decide) rfl)
    · unfold f_X12_blanks_j24
      rw [mset_at]; rfl
  · refine ie q ?_
    have e : sk c B p = p := run_stop (by simpa using q)
    rw [hp, e, pb_self hp]
theorem X12_letters (H : Tb c B μ0 ν0) (h : Mb ν0 ν) (hp : ν 264 10 = nI p) (hpc : p ≤ c) : f_X12_letters ν = some (setPB ν (run c B 97 122 (sk c B p)) (sk c B p)) := by
  have hc := H.le4
  have hle := sk_le (B := B) hpc
  unfold f_X12_letters
  refine bs (X12_blanks H h hp hpc) ?_
  generalize sk c B p = a at hle ⊢
  have hge := run_ge (c := c) (B := B) (lo := 97) (hi := 122) (i := a)
  have hle2 := run_le (B := B) (lo := 97) (hi := 122) hle
  unfold f_X12_letters_l4
  refine bind_loop (fun j => setPB ν (a + j) a) (run c B 97 122 a - a) (setPB ν (run c B 97 122 a) a) rfl (fun j hj => ?_) ?_ (by omega) rfl
  · show f_X12_letters_b4 (setPB ν (a + j) a) = _
    have hin := run_in (c := c) (B := B) (lo := 97) (hi := 122) (i := a) (j := a + j) (by omega) (by omega)
    unfold f_X12_letters_b4
    refine bs (X12_isAt H h.pb setPB_10 (by omega) (lo := 97) (hi := 122) (by decide) (by decide)) (it (inR_iff.mpr hin) ?_)
    rw [setPB_10, nI_1, setPB_set]; rfl
  · show f_X12_letters_b4 (setPB ν (a + (run c B 97 122 a - a)) a) = _
    rw [show a + (run c B 97 122 a - a) = run c B 97 122 a by omega]
    have ho : inR c B 97 122 (run c B 97 122 a) = false := run_out hc
    unfold f_X12_letters_b4
    refine bs (X12_isAt H h.pb setPB_10 hle2 (lo := 97) (hi := 122) (by decide) (by decide)) (ie (by rw [ho]; decide) rfl)
theorem X12_isWord (H : Tb c B μ0 ν0) (h : Mb ν0 ν) (h10 : ν 264 10 = nI (run c B 97 122 a)) (h12 : ν 264 12 = nI a) (hac : a ≤ c) {s : Nat} (hs : s < 79) (hw : wok s = true) : f_X12_isWord ν s = some (isW c B s a) := by
  have hc := H.le4
  have hge := run_ge (c := c) (B := B) (lo := 97) (hi := 122) (i := a)
  have hle := run_le (B := B) (lo := 97) (hi := 122) hac
  obtain ⟨w1, w2, w3, w4⟩ := sch_ok s hs hw
  unfold f_X12_isWord
  rw [h10, h12, pk_sub hge, w3]
  by_cases e : run c B 97 122 a - a = wlen s
  · rw [if_pos (by rw [e])]
    have eis : isW c B s a = eqW B s a (wlen s) := by unfold isW; rw [decide_eq_true e, Bool.true_and]
    unfold f_X12_isWord_l24
    have key : Ok (Option.bind (loopN 10000 (fun z : (Bool × Int32) => f_X12_isWord_b24 ν s z.1 z.2) (true, 0)) fun t : Bool => f_X12_isWord_j67 ν s t) (fun q => q = isW c B s a) := by
      refine Ok.loop (fun k z => z.1 = eqW B s a k ∧ z.2 = nI k) (fun t => t = isW c B s a) (wlen s) (by omega) ⟨rfl, rfl⟩ (fun k z hk hI => ?_) (fun r hr => by rw [hr]; exact Ok.r rfl)
      obtain ⟨x, y⟩ := z
      obtain ⟨e1, e2⟩ := hI
      dsimp only at e1 e2
      subst e1 e2
      show Ok (f_X12_isWord_b24 ν s (eqW B s a k) (nI k)) _
      unfold f_X12_isWord_b24
      rw [w3]
      cases hq : eqW B s a k with
      | false =>
        refine Ok.e fnt (Ok.d ?_)
        have := eqW_f hq (wlen s - k)
        rw [show k + (wlen s - k) = wlen s by omega] at this
        rw [eis, this]
      | true =>
        refine Ok.t rfl ?_
        by_cases hk2 : k = wlen s
        · subst hk2
          exact Ok.t (nI_le (Nat.le_refl _) (by omega)) (Ok.d (by rw [eis, hq]))
        · obtain ⟨s1, s2⟩ := w4 k (by omega)
          have hin := run_in (c := c) (B := B) (lo := 97) (hi := 122) (i := a) (j := a + k) (by omega) (by omega)
          have hnx : eqW B s a (k + 1) = (eqW B s a k && decide (B (a + k) = wch s k)) := rfl
          rw [h12, nI_add]
          refine Ok.e (nI_ge (by omega) (by omega)) (Ok.s (H.sbt h hin.1) (Ok.s s1 (Ok.c (by omega) ⟨?_, nI_1 _⟩)))
          dsimp only
          rw [sb_lt _ (by omega), hnx, hq, Bool.true_and]
          by_cases d : B (a + k) = wch s k
          · rw [if_pos (by rw [d]), decide_eq_true d]
          · rw [if_neg (fun q => d ((nI_eq (by omega) (by omega)).mp q)), decide_eq_false d]
    obtain ⟨q, e1, e2⟩ := key
    rw [e2] at e1
    exact e1
  · rw [if_neg (fun q => e ((nI_eq (by omega) (by omega)).mp q))]
    have : isW c B s a = false := by unfold isW; rw [decide_eq_false e]; rfl
    rw [this]
    unfold f_X12_isWord_l24
    refine bind_loop (fun _ => (false, 0)) 0 false rfl (fun i hi => absurd hi (by omega)) ?_ (by decide) rfl
    show f_X12_isWord_b24 ν s false 0 = _
    unfold f_X12_isWord_b24
    exact ie fnt rfl
theorem isW_end {s : Nat} (h : isW c B s a = true) : run c B 97 122 a = a + wlen s := by
  unfold isW at h
  rw [Bool.and_eq_true] at h
  have h1 := of_decide_eq_true h.1
  have hge := run_ge (c := c) (B := B) (lo := 97) (hi := 122) (i := a)
  omega
theorem X12_passes (H : Tb c B μ0 ν0) (h : Mb ν0 ν) (hp : ν 264 10 = nI p) (hpc : p ≤ c) (ha : sk c B p = a) {s : Nat} (hs : s < 79) (hw : wok s = true) : f_X12_passes ν s = some (isW c B s a, if isW c B s a = true then setPB ν (a + wlen s) a else setPB ν a a) := by
  have hle := sk_le (B := B) hpc
  unfold f_X12_passes
  refine bs (X12_letters H h hp hpc) ?_
  rw [ha] at hle ⊢
  refine bs (X12_isWord H h.pb setPB_10 setPB_12 hle hs hw) ?_
  by_cases q : isW c B s a = true
  · refine it q ?_
    rw [q, if_pos rfl, isW_end q]
  · refine ie q ?_
    rw [show isW c B s a = false by simpa using q, setPB_12, setPB_set]
    rfl
theorem X12_sign (H : Tb c B μ0 ν0) (h : Mb ν0 ν) (hp : ν 264 10 = nI p) (hpc : p ≤ c) (ha : sk c B p = a) {ch : Nat} (hch : ch < 128) : f_X12_sign ν (nI ch) = some (inR c B ch ch a, if inR c B ch ch a = true then setPB ν (a + 1) a else setPB ν a a) := by
  have hle := sk_le (B := B) hpc
  unfold f_X12_sign
  refine bs (X12_blanks H h hp hpc) ?_
  rw [ha] at hle ⊢
  refine bs (X12_isAt H h.pb setPB_10 hle hch hch) ?_
  by_cases q : inR c B ch ch a = true
  · refine it q ?_
    rw [q, if_pos rfl, setPB_10, nI_1, setPB_set]
  · refine ie q ?_
    rw [show inR c B ch ch a = false by simpa using q]
    rfl
theorem X12_num (H : Tb c B μ0 ν0) (h : Mb ν0 ν) (hp : ν 264 10 = nI p) (hpc : p ≤ c) (ha : sk c B p = a) (lo hi : Int32) : f_X12_number ν lo hi = some (if numOk c B lo hi a = true then nI (valN B a (dgE c B a - a)) else -1, setPB ν (dgE c B a) a) := by
  have hc := H.le4
  have hle := sk_le (B := B) hpc
  unfold f_X12_number
  refine bs (X12_blanks H h hp hpc) ?_
  rw [ha] at hle ⊢
  have hge := run_ge (c := c) (B := B) (lo := 48) (hi := 57) (i := a)
  have hle2 := run_le (B := B) (lo := 48) (hi := 57) hle
  have e9 : run c B 48 57 a = dgE c B a := rfl
  rw [e9] at hge hle2
  unfold f_X12_number_l6
  refine bind_loop (fun j => (nI (valN B a (min j 3)), setPB ν (a + j) a)) (dgE c B a - a) (nI (valN B a (min (dgE c B a - a) 3)), setPB ν (dgE c B a) a) rfl (fun j hj => ?_) ?_ (by omega) ?_
  · show f_X12_number_b6 (setPB ν (a + j) a) lo hi (nI (valN B a (min j 3))) = _
    have hin := run_in (c := c) (B := B) (lo := 48) (hi := 57) (i := a) (j := a + j) (by omega) (by rw [e9]; omega)
    unfold f_X12_number_b6 f_X12_number_j51_6
    refine bs (X12_isAt H h.pb setPB_10 (by omega) (lo := 48) (hi := 57) (by decide) (by decide)) (it (inR_iff.mpr hin) ?_)
    rw [setPB_10, setPB_12, pk_sub (by omega), show a + j - a = j by omega]
    by_cases d : 3 ≤ j
    · refine it (nI_le (a := 3) d (by omega)) ?_
      rw [nI_1, setPB_set, show min (j + 1) 3 = min j 3 by omega]; rfl
    · refine ie (nI_ge (b := 3) (by omega) (by decide)) (bs (H.sbt h.pb hin.1) ?_)
      rw [sb_lt _ (by omega), show min (j + 1) 3 = j + 1 by omega, show min j 3 = j by omega, show (10 : Int32) * nI (valN B a j) = nI (10 * valN B a j) from pk_mul 10 _, nI_add, show (48 : Int32) = nI 48 from rfl, pk_sub (by omega), nI_1, setPB_set]
      rfl
  · show f_X12_number_b6 (setPB ν (a + (dgE c B a - a)) a) lo hi _ = _
    rw [show a + (dgE c B a - a) = dgE c B a by omega]
    have ho : inR c B 48 57 (dgE c B a) = false := run_out hc
    unfold f_X12_number_b6
    exact bs (X12_isAt H h.pb setPB_10 hle2 (lo := 48) (hi := 57) (by decide) (by decide)) (ie (by rw [ho]; decide) rfl)
  · show f_X12_number_j65 (setPB ν (dgE c B a) a) lo hi (nI (valN B a (min (dgE c B a - a) 3))) = _
    unfold f_X12_number_j65
    rw [setPB_10, setPB_12, pk_sub hge]
    congr 2
    by_cases d1 : 1 ≤ dgE c B a - a
    · rw [if_neg (fun q => by have := (nI_eq (by omega) (by omega)).mp q; omega)]
      by_cases d2 : dgE c B a - a ≤ 3
      · rw [if_neg (show ¬ (3 : Int32) < nI (dgE c B a - a) from nI_nlt (a := 3) d2 (by decide)), show min (dgE c B a - a) 3 = dgE c B a - a by omega]
        by_cases o : outb (nI (valN B a (dgE c B a - a))) lo hi = true
        · rw [if_neg (show ¬ numOk c B lo hi a = true from fun q => by have := (numOk_iff.mp q).2; rw [o] at this; cases this)]
          unfold outb at o
          by_cases u : nI (valN B a (dgE c B a - a)) < lo
          · rw [if_pos u]
          · rw [if_neg u] at o ⊢
            by_cases v : nI (valN B a (dgE c B a - a)) ≤ hi
            · rw [if_pos v] at o; cases o
            · rw [if_neg v]
        · have o' : outb (nI (valN B a (dgE c B a - a))) lo hi = false := by simpa using o
          rw [if_pos (numOk_iff.mpr ⟨⟨d1, d2⟩, o'⟩)]
          obtain ⟨u, v⟩ := outb_f o'
          rw [if_neg u, if_pos v]
      · rw [if_pos (show (3 : Int32) < nI (dgE c B a - a) from nI_lt (a := 3) (by omega) (by omega)), if_neg (fun q => d2 (numOk_iff.mp q).1.2)]
    · rw [if_pos (by rw [show dgE c B a = a by omega]), if_neg (fun q => d1 (numOk_iff.mp q).1.1)]
/-- a number from a on (which is skipped to) -/
theorem num_val {lo hi : Int32} (h : numOk c B lo hi a = true) : valN B a (dgE c B a - a) ≤ 999 ∧ outb (nI (valN B a (dgE c B a - a))) lo hi = false ∧ a + 1 ≤ dgE c B a := by
  obtain ⟨⟨h1, h2⟩, h3⟩ := numOk_iff.mp h
  refine ⟨?_, h3, by omega⟩
  have := valN_lt (c := c) (B := B) (a := a) (dgE c B a - a) h2 (by omega)
  have hp : 10 ^ (dgE c B a - a) ≤ 10 ^ 3 := Nat.pow_le_pow_right (by decide) h2
  omega
end Re
