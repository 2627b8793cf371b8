/-! CHANGES OF A LAND -/
def rowA (L : Ld) (l : Nat) (v6 v7 v8 v9 v10 v11 : Int32) : Ld := upd2 (upd2 (upd2 (upd2 (upd2 (upd2 L 6 l v6) 7 l v7) 8 l v8) 9 l v9) 10 l v10) 11 l v11
def logA (L : Ld) (l what amt : Int32) : Ld := fun k i => if k = 13 then nI (min 60 (zz L + 1)) else if 14 ≤ k ∧ k ≤ 17 then (if i = 0 then (if k = 14 then L 0 2 else if k = 15 then l else if k = 16 then what else amt) else L k (i - 1)) else L k i
theorem logA_13 {L : Ld} {l w a : Int32} {i : Nat} : logA L l w a 13 i = nI (min 60 (zz L + 1)) := by unfold logA; rw [if_pos rfl]
theorem logA_lo {L : Ld} {l w a : Int32} {k i : Nat} (h : k < 13) : logA L l w a k i = L k i := by unfold logA; rw [if_neg (by omega), if_neg (by omega)]
theorem logA_s {L : Ld} {l w a : Int32} {k i : Nat} (h1 : 14 ≤ k) (h2 : k ≤ 17) : logA L l w a k (i + 1) = L k i := by unfold logA; rw [if_neg (by omega), if_pos ⟨h1, h2⟩, if_neg (by omega), Nat.add_sub_cancel]
theorem logA_14 {L : Ld} {l w a : Int32} : logA L l w a 14 0 = L 0 2 := rfl
theorem logA_15 {L : Ld} {l w a : Int32} : logA L l w a 15 0 = l := rfl
theorem logA_16 {L : Ld} {l w a : Int32} : logA L l w a 16 0 = w := rfl
theorem logA_17 {L : Ld} {l w a : Int32} : logA L l w a 17 0 = a := rfl
theorem zz_log {L : Ld} {l w a : Int32} : zz (logA L l w a) = min 60 (zz L + 1) := by
  show (logA L l w a 13 0).toNatClampNeg = _
  rw [logA_13, nI_clamp (by omega)]
theorem zz_row {L : Ld} {l : Nat} {a b c d e g : Int32} : zz (rowA L l a b c d e g) = zz L := rfl
theorem logA_upd {L : Ld} {k i : Nat} {v l w a : Int32} (h1 : 1 ≤ k) (h2 : k ≤ 12) : logA (upd2 L k i v) l w a = upd2 (logA L l w a) k i v := by
  funext k' i'
  by_cases hk : k' < 13
  · rw [logA_lo hk]
    by_cases e : k' = k ∧ i' = i
    · obtain ⟨rfl, rfl⟩ := e; rw [upd2_at, upd2_at]
    · rw [upd2_n (by omega), upd2_n (by omega), logA_lo hk]
  · rw [upd2_k (show k' ≠ k by omega)]
    unfold logA
    rw [zz_upd (by omega), upd2_k (show 0 ≠ k by omega), upd2_k (show k' ≠ k by omega), upd2_k (show k' ≠ k by omega)]
theorem logA_row {L : Ld} {l : Nat} {a b c d e g x y z : Int32} : logA (rowA L l a b c d e g) x y z = rowA (logA L x y z) l a b c d e g := by
  unfold rowA
  rw [logA_upd (by decide) (by decide), logA_upd (by decide) (by decide), logA_upd (by decide) (by decide), logA_upd (by decide) (by decide), logA_upd (by decide) (by decide), logA_upd (by decide) (by decide)]
def Ms (S : Nat → Prop) (μ μ' : Mem) : Prop := Fr S μ μ' ∧ μ' 265 2 = μ 265 2 ∧ ∀ j, 370 ≤ j → μ' 265 j = μ 265 j
theorem Ms.refl {S : Nat → Prop} {μ : Mem} : Ms S μ μ := ⟨Fr.refl, rfl, fun _ _ => rfl⟩
theorem Ms.trans {S : Nat → Prop} {μ μ1 μ2 : Mem} (h1 : Ms S μ μ1) (h2 : Ms S μ1 μ2) : Ms S μ μ2 := ⟨h1.1.trans h2.1, h2.2.1.trans h1.2.1, fun j hj => (h2.2.2 j hj).trans (h1.2.2 j hj)⟩
theorem Ms.mono {S S' : Nat → Prop} {μ μ1 : Mem} (h1 : Ms S μ μ1) (h : ∀ k, S k → S' k) : Ms S' μ μ1 := ⟨h1.1.mono h, h1.2⟩
theorem Ms.of {S : Nat → Prop} {μ μ1 : Mem} (h : Fr S μ μ1) (h5 : μ1 265 = μ 265) : Ms S μ μ1 := ⟨h, by rw [h5], fun j _ => by rw [h5]⟩
theorem Ms.set {S : Nat → Prop} {μ : Mem} {j : Nat} {v : Int32} (hS : S 265) (h1 : j ≠ 2) (h2 : j < 370) : Ms S μ (mset μ 265 j v) := ⟨Fr.set hS, mset_atn (fun q => h1 q.symm), fun i hi => mset_atn (by omega)⟩
theorem Ms.put {S : Nat → Prop} {μ μ1 : Mem} {j : Nat} {v : Int32} (h : Ms S μ μ1) (hS : S 265) (h1 : j ≠ 2) (h2 : j < 370) : Ms S μ (mset μ1 265 j v) := h.trans (Ms.set hS h1 h2)
theorem LM.ms {S : Nat → Prop} {μ μ' : Mem} {T : Tx} (h : LM (μ 265) T) (hm : Ms S μ μ') : LM (μ' 265) T := h.fr hm.2.1 hm.2.2
theorem ML.put {n : Nat} {f : Int32} {μ : Mem} {L : Ld} (h : ML n f (μ 265) L) {k i j : Nat} {v : Int32} (hd : dm n (zz L) k i) (hk : k ≠ 13) (h0 : ¬ (k = 0 ∧ i = 0)) (hj : midx k i = j) : ML n f (mset μ 265 j v 265) (upd2 L k i v) := by
  rw [mset_eq]; exact h.set hd hk h0 hj
theorem midxP {k p : Nat} (h1 : 1 ≤ k) (h2 : k ≤ 5) : midx k p = 28 + 5 * p + (k - 1) := by unfold midx; rw [if_neg (by omega), if_pos h2]
theorem midxL {k l : Nat} (h1 : 6 ≤ k) (h2 : k ≤ 11) : midx k l = 58 + 6 * l + (k - 6) := by unfold midx; rw [if_neg (by omega), if_neg (by omega), if_pos h2]
theorem ML.putP {n : Nat} {f : Int32} {μ : Mem} {L : Ld} (h : ML n f (μ 265) L) {k p j : Nat} {v : Int32} (hk : 1 ≤ k ∧ k ≤ 5) (hp : p < n) (hj : 28 + 5 * p + (k - 1) = j) : ML n f (mset μ 265 j v 265) (upd2 L k p v) := h.put (dmP hk.1 hk.2 hp) (by omega) (by omega) ((midxP hk.1 hk.2).trans hj)
theorem ML.putL {n : Nat} {f : Int32} {μ : Mem} {L : Ld} (h : ML n f (μ 265) L) {k l j : Nat} {v : Int32} (hk : 6 ≤ k ∧ k ≤ 11) (hl : l < 2 * n) (hj : 58 + 6 * l + (k - 6) = j) : ML n f (mset μ 265 j v 265) (upd2 L k l v) := h.put (dmL hk.1 hk.2 hl) (by omega) (by omega) ((midxL hk.1 hk.2).trans hj)
def s65 (k : Nat) : Prop := k = 265
def s72 (k : Nat) : Prop := k = 265 ∨ k = 272
section Chg
variable {n : Nat} {f : Int32} {μ : Mem} {a : Nat} {L : Ld}
theorem X2_letGo (h : CL n f μ a L) {l : Nat} (hl : l < 12) (how ho : Int32) : Ok (f_X2_letGo μ a (nI l) how ho) (fun μ' => CL n f μ' a (rowA L l how ho 0 0 0 (-1)) ∧ Fr (fun k => a + 6 ≤ k ∧ k ≤ a + 11) μ μ') := by
  unfold f_X2_letGo
  refine Ok.s (wr_nI (by omega) (by decide)) ?_
  refine Ok.s (wr_nI (by omega) (by decide)) ?_
  refine Ok.s (wr_nI (by omega) (by decide)) ?_
  refine Ok.s (wr_nI (by omega) (by decide)) ?_
  refine Ok.s (wr_nI (by omega) (by decide)) ?_
  refine Ok.s (wr_nI (by omega) (by decide)) ?_
  refine Ok.r ⟨?_, ?_⟩
  · exact (((((h.set (by decide) (by omega)).set (by decide) (by omega)).set (by decide) (by omega)).set (by decide) (by omega)).set (by decide) (by omega)).set (by decide) (by omega)
  · exact (((((Fr.set (by show _ ∧ _; omega)).put (by show _ ∧ _; omega)).put (by show _ ∧ _; omega)).put (by show _ ∧ _; omega)).put (by show _ ∧ _; omega)).put (by show _ ∧ _; omega)
theorem X2_pledge (h : CL n f μ a L) {l : Nat} (hl : l < 12) (v7 v8 v9 v10 v11 : Int32) : Ok (f_X2_pledge μ a (nI l) v7 v8 v9 v10 v11) (fun μ' => CL n f μ' a (rowA L l 1 v7 v8 v9 v10 v11) ∧ Fr (fun k => a + 6 ≤ k ∧ k ≤ a + 11) μ μ') := by
  unfold f_X2_pledge
  refine Ok.s (wr_nI (by omega) (by decide)) ?_
  refine Ok.s (wr_nI (by omega) (by decide)) ?_
  refine Ok.s (wr_nI (by omega) (by decide)) ?_
  refine Ok.s (wr_nI (by omega) (by decide)) ?_
  refine Ok.s (wr_nI (by omega) (by decide)) ?_
  refine Ok.s (wr_nI (by omega) (by decide)) ?_
  refine Ok.r ⟨?_, ?_⟩
  · exact (((((h.set (by decide) (by omega)).set (by decide) (by omega)).set (by decide) (by omega)).set (by decide) (by omega)).set (by decide) (by omega)).set (by decide) (by omega)
  · exact (((((Fr.set (by show _ ∧ _; omega)).put (by show _ ∧ _; omega)).put (by show _ ∧ _; omega)).put (by show _ ∧ _; omega)).put (by show _ ∧ _; omega)).put (by show _ ∧ _; omega)
theorem X12_laceAtN {l k : Nat} : f_X12_laceAt μ (nI l) (nI k) = some (nI (58 + 6 * l + k)) := by unfold f_X12_laceAt; rw [mi_lace]
theorem X12_atN {p k : Nat} : f_X12_at μ (nI p) (nI k) = some (nI (28 + 5 * p + k)) := by unfold f_X12_at; rw [mi_of]
theorem X12_tellsLace (h : ML n f (μ 265) L) {l : Nat} (hl : l < 2 * n) (v6 v7 v8 v9 v10 : Int32) : Ok (f_X12_tellsLace μ (nI l) v6 v7 v8 v9 v10) (fun μ' => ML n f (μ' 265) (rowA L l v6 v7 v8 v9 v10 (-1)) ∧ Ms s65 μ μ') := by
  have hn := h.n6
  unfold f_X12_tellsLace
  refine Ok.s (X12_laceAtN (k := 0)) ?_
  refine Ok.s (wr_nI (by omega) (by decide)) ?_
  refine Ok.s (X12_laceAtN (k := 1)) ?_
  refine Ok.s (wr_nI (by omega) (by decide)) ?_
  refine Ok.s (X12_laceAtN (k := 2)) ?_
  refine Ok.s (wr_nI (by omega) (by decide)) ?_
  refine Ok.s (X12_laceAtN (k := 3)) ?_
  refine Ok.s (wr_nI (by omega) (by decide)) ?_
  refine Ok.s (X12_laceAtN (k := 4)) ?_
  refine Ok.s (wr_nI (by omega) (by decide)) ?_
  refine Ok.s (X12_laceAtN (k := 5)) ?_
  refine Ok.s (wr_nI (by omega) (by decide)) ?_
  refine Ok.r ⟨?_, ?_⟩
  · exact (((((h.putL (k := 6) (by decide) hl rfl).putL (k := 7) (by decide) hl rfl).putL (k := 8) (by decide) hl rfl).putL (k := 9) (by decide) hl rfl).putL (k := 10) (by decide) hl rfl).putL (k := 11) (by decide) hl rfl
  · exact (((((Ms.set (S := s65) rfl (by omega) (by omega)).put rfl (by omega) (by omega)).put rfl (by omega) (by omega)).put rfl (by omega) (by omega)).put rfl (by omega) (by omega)).put rfl (by omega) (by omega)
theorem X12_comesBack (h : ML n f (μ 265) L) {l : Nat} (hl : l < 2 * n) : Ok (f_X12_comesBack μ (nI l)) (fun μ' => ML n f (μ' 265) (rowA L l 0 (-1) 0 0 0 (-1)) ∧ Ms s65 μ μ') := by
  unfold f_X12_comesBack
  exact (X12_tellsLace h hl 0 (-1) 0 0 0).b fun a ha => Ok.r ha
def earnA (L : Ld) (p : Nat) (m : Int32) : Ld := upd2 L 1 p (mn 999 (L 1 p + m))
theorem X2_earn (h : CL n f μ a L) {p : Nat} (hp : p < n) (m : Int32) : Ok (f_X2_earn μ a (nI p) m) (fun μ' => CL n f μ' a (earnA L p m) ∧ Fr (fun k => k = a + 1) μ μ') := by
  have hn := h.n6
  unfold f_X2_earn
  refine Ok.s (h.rdP (k := 1) (by decide) hp) ?_
  refine Ok.s J9_min ?_
  refine Ok.s (wr_nI (by omega) (by decide)) ?_
  exact Ok.r ⟨h.set (by decide) (by omega), Fr.set (S := fun k => k = a + 1) rfl⟩
theorem X12_gets (h : ML n f (μ 265) L) {p : Nat} (hp : p < n) (m : Int32) : Ok (f_X12_gets μ (nI p) m) (fun μ' => ML n f (μ' 265) (earnA L p m) ∧ Ms s65 μ μ') := by
  have hn := h.n6
  unfold f_X12_gets
  refine Ok.s (X12_atN (k := 0)) ?_
  refine Ok.s (X12_of0 h hp) ?_
  refine Ok.s J9_min ?_
  refine Ok.s (wr_nI (by omega) (by decide)) ?_
  exact Ok.r ⟨h.putP (k := 1) (by decide) hp rfl, Ms.set (S := s65) rfl (by omega) (by omega)⟩
/-! the log -/
theorem nI_or (a b : Nat) : nI a ||| nI b = nI (a ||| b) := by
  apply Int32.toBitVec_inj.mp
  rw [Int32.toBitVec_or]
  show BitVec.ofNat 32 a ||| BitVec.ofNat 32 b = BitVec.ofNat 32 (a ||| b)
  apply BitVec.eq_of_getLsbD_eq
  intro i hi
  simp [Nat.testBit_or, hi]
theorem or_add {a b : Nat} (k : Nat) (h : b < 2 ^ k) : nI (a * 2 ^ k) ||| nI b = nI (a * 2 ^ k + b) := by
  rw [nI_or, Nat.mul_comm, Nat.two_pow_add_eq_or_of_lt h]
theorem pack4 {d l w m : Nat} (hd : d ≤ 9999) (hl : l < 12) (hw : w ≤ 2) (hm : m ≤ 999) : (((nI d <<< ((16 : Int32) &&& 31)) ||| (nI l <<< ((12 : Int32) &&& 31))) ||| (nI w <<< ((10 : Int32) &&& 31))) ||| nI m = nI (d * 65536 + l * 4096 + w * 1024 + m) := by
  rw [pk_shlN (n := d) _ 16 (by decide) (by omega), pk_shlN (n := l) _ 12 (by decide) (by omega), pk_shlN (n := w) _ 10 (by decide) (by omega)]
  rw [or_add 16 (show l * 2 ^ 12 < 2 ^ 16 by omega), show d * 2 ^ 16 + l * 2 ^ 12 = (d * 16 + l) * 2 ^ 12 by omega, or_add 12 (show w * 2 ^ 10 < 2 ^ 12 by omega), show (d * 16 + l) * 2 ^ 12 + w * 2 ^ 10 = (d * 64 + l * 4 + w) * 2 ^ 10 by omega, or_add 10 (show m < 2 ^ 10 by omega), show (d * 64 + l * 4 + w) * 2 ^ 10 + m = d * 65536 + l * 4096 + w * 1024 + m by omega]
theorem unpack {d l w m : Nat} (hd : d ≤ 9999) (hl : l < 12) (hw : w ≤ 2) (hm : m ≤ 999) : cpart 0 (nI (d * 65536 + l * 4096 + w * 1024 + m)) = nI d ∧ cpart 1 (nI (d * 65536 + l * 4096 + w * 1024 + m)) = nI l ∧ cpart 2 (nI (d * 65536 + l * 4096 + w * 1024 + m)) = nI w ∧ cpart 3 (nI (d * 65536 + l * 4096 + w * 1024 + m)) = nI m := by
  refine ⟨?_, ?_, ?_, ?_⟩
  · show nI _ >>> ((16 : Int32) &&& 31) = _
    rw [pk_shrN (by omega) _ 16 (by decide)]
    congr 1; omega
  · show (nI _ >>> ((12 : Int32) &&& 31)) &&& 15 = _
    rw [pk_shrN (by omega) _ 12 (by decide), pk_andN (by omega) 4 (by decide)]
    congr 1; omega
  · show (nI _ >>> ((10 : Int32) &&& 31)) &&& 3 = _
    rw [pk_shrN (by omega) _ 10 (by decide), pk_andN (by omega) 2 (by decide)]
    congr 1; omega
  · show nI _ &&& 1023 = _
    rw [pk_andN (by omega) 10 (by decide)]
    congr 1; omega
theorem rm9_nI {a d : Nat} {k : Int32} (hk : k = nI d) (ha : a < 2 ^ 31) (h0 : 0 < d) (hd : d < 2 ^ 31) : rm9 (nI a) k = some (nI (a % d)) := by
  unfold rm9
  rw [hk, if_neg (nI_ne0 h0 hd), pk_rem ha h0 hd]
theorem SzW.log (h : SzW n L) (l w m : Int32) : SzW n (logA L l w m) := by
  refine ⟨h.1, by rw [logA_lo (by decide)]; exact h.2.1, by rw [zz_log, logA_13], by rw [zz_log]; omega⟩
theorem X1_add (h : CL n f μ a L) {d l w m : Nat} (e0 : L 0 2 = nI d) (hd : d ≤ 9999) (hl : l < 12) (hw : w ≤ 2) (hm : m ≤ 999) {k0 k1 k2 k3 : Int32} (e1 : k0 = nI d) (e2 : k1 = nI l) (e3 : k2 = nI w) (e4 : k3 = nI m) : Ok (f_X1_add μ (a + 13) k0 k1 k2 k3) (fun μ' => CL n f μ' a (logA L k1 k2 k3) ∧ Fr (fun k => k = a + 13 ∨ k = a + 14) μ μ') := by
  subst e1 e2 e3 e4
  have hz := h.siz
  have hz2 := h.sz.2.2.2
  obtain ⟨c1, c2, c3, x, hx, ex⟩ := h
  unfold f_X1_add
  rw [ex, pack4 hd hl hw hm]
  refine Ok.s (wr_nI hx (by decide)) ?_
  rw [mset_ne (show a + 13 ≠ a + 13 + 1 by omega), ex, nI_1]
  refine Ok.s (rm9_nI (d := 60) rfl (by omega) (by decide) (by decide)) ?_
  rw [mset_atn (show 2 ≠ 1 by decide), mset_ne (show a + 13 ≠ a + 13 + 1 by omega), hz, nI_1]
  refine Ok.s J9_min ?_
  rw [show mn (nI (zz L + 1)) 60 = nI (min (zz L + 1) 60) from mn_nI (by omega) (by decide), Nat.min_comm]
  refine Ok.r ⟨⟨fun k i hk => ?_, c2.log _ _ _, ?_, ?_⟩, ?_⟩
  · rw [zz_log] at hk
    unfold craw
    by_cases hk12 : k ≤ 12
    · rw [if_pos hk12, mset_ne (by omega), mset_ne (by omega), mset_ne (by omega), logA_lo (by omega)]
      have := c1 k i (by unfold dm at hk ⊢; omega)
      unfold craw at this
      rwa [if_pos hk12] at this
    · rw [if_neg hk12]
      by_cases hk13 : k = 13
      · rw [if_pos hk13, mset_at, hk13, logA_13]
      · rw [if_neg hk13, mset_ne (show a + 14 ≠ a + 13 by omega), mset_ne (show a + 14 ≠ a + 13 by omega), mset_atn (show 1 ≠ 2 by decide), mset_at, nI_clamp (by omega)]
        obtain ⟨kk1, kk2, hi⟩ : 14 ≤ k ∧ k ≤ 17 ∧ i < min 60 (zz L + 1) := by unfold dm at hk; omega
        have e14 : a + 13 + 1 = a + 14 := rfl
        rw [e14]
        cases i with
        | zero =>
          rw [show crow ((x + 1) % 60) 0 = x by unfold crow; omega, mset_at]
          obtain ⟨u0, u1, u2, u3⟩ := unpack hd hl hw hm
          rcases (show k = 14 ∨ k = 15 ∨ k = 16 ∨ k = 17 by omega) with rfl | rfl | rfl | rfl
          · rw [logA_14, e0]; exact u0
          · rw [logA_15]; exact u1
          · rw [logA_16]; exact u2
          · rw [logA_17]; exact u3
        | succ i =>
          rw [show crow ((x + 1) % 60) (i + 1) = crow x i by unfold crow; omega, mset_atn (by unfold crow; omega), logA_s kk1 kk2]
          have := c1 k i (dmR kk1 kk2 (by omega))
          unfold craw at this
          rwa [if_neg hk12, if_neg hk13, ex, nI_clamp (by omega)] at this
  · rw [mset_ne (by omega), mset_ne (by omega), mset_ne (by omega)]; exact c3
  · rw [mset_atn (show 1 ≠ 2 by decide), mset_at]
    exact ⟨_, by omega, rfl⟩
  · exact ((Fr.set (S := fun k => k = a + 13 ∨ k = a + 14) (Or.inr rfl)).put (Or.inl rfl)).put (Or.inl rfl)
theorem X12_tells (h : ML n f (μ 265) L) (l w m : Int32) : Ok (f_X12_tells μ l w m) (fun μ' => ML n f (μ' 265) (logA L l w m) ∧ Ms s65 μ μ') := by
  unfold f_X12_tells f_X12_tells_l5
  refine Ok.loop (fun j z => z.1 = nI (239 - j) ∧ z.2 265 = (fun i => if 130 + (239 - j) < i ∧ i ≤ 369 then μ 265 (i - 4) else μ 265 i) ∧ Fr s65 μ z.2) (fun ν => ν 265 = (fun i => if 133 < i ∧ i ≤ 369 then μ 265 (i - 4) else μ 265 i) ∧ Fr s65 μ ν) 236 (by decide) ⟨rfl, ?_, Fr.refl⟩ (fun j z hj hI => ?_) (fun ν hν => ?_)
  · funext i
    rw [if_neg (by omega)]
  · obtain ⟨c, ν⟩ := z
    obtain ⟨e1, e2, hF⟩ := hI
    dsimp only at e1 e2 hF
    subst e1
    show Ok (f_X12_tells_b5 ν l w m (nI (239 - j))) _
    unfold f_X12_tells_b5
    by_cases hc : j = 236
    · subst hc
      exact Ok.t (by decide) (Ok.d ⟨e2, hF⟩)
    · have e3 : ∀ i, ν 265 i = if 130 + (239 - j) < i ∧ i ≤ 369 then μ 265 (i - 4) else μ 265 i := fun i => by rw [e2]
      refine Ok.e (nI_nlt (b := 4) (by omega) (by omega)) ?_
      rw [show (130 : Int32) = nI 130 from rfl, nI_add]
      refine Ok.s (a := μ 265 (130 + (239 - j) - 4)) (by rw [show (4 : Int32) = nI 4 from rfl, pk_sub (by omega), rd_nI (by omega) (by decide), e3, if_neg (by omega)]) ?_
      refine Ok.s (wr_nI (by omega) (by decide)) ?_
      refine Ok.c (by omega) ⟨?_, ?_, hF.put rfl⟩
      · dsimp only
        rw [show 239 - j = (239 - (j + 1)) + 1 by omega, pk_m1]
      · dsimp only
        rw [mset_eq, e2]
        funext i
        by_cases hi : i = 130 + (239 - j)
        · subst hi
          rw [pk_us, if_pos (by omega)]
        · rw [pk_un hi]
          by_cases hi2 : 130 + (239 - j) < i ∧ i ≤ 369
          · rw [if_pos hi2, if_pos (by omega)]
          · rw [if_neg hi2, if_neg (by omega)]
  · obtain ⟨e2, hF⟩ := hν
    have e3 : ∀ i, ν 265 i = if 133 < i ∧ i ≤ 369 then μ 265 (i - 4) else μ 265 i := fun i => by rw [e2]
    unfold f_X12_tells_j41
    have r3 : rd ν 265 2068 3 = some (L 0 2) := by
      rw [rd_k (k := 3) 3 rfl (by decide) (by decide), e3, if_neg (by decide)]
      exact congrArg some (h.at0 (i := 2) (by decide))
    refine Ok.s r3 ?_
    refine Ok.s (wr_k 130 rfl (by decide) (by decide)) ?_
    refine Ok.s (wr_k 131 rfl (by decide) (by decide)) ?_
    refine Ok.s (wr_k 132 rfl (by decide) (by decide)) ?_
    refine Ok.s (wr_k 133 rfl (by decide) (by decide)) ?_
    refine Ok.s (a := nI (zz L)) (by rw [rd_k (k := 6) 6 rfl (by decide) (by decide), mset_atn (by decide), mset_atn (by decide), mset_atn (by decide), mset_atn (by decide), e3, if_neg (by decide), h.siz]) ?_
    have hz := h.sz.2.2.2
    rw [nI_1]
    refine Ok.s J9_min ?_
    rw [show mn 60 (nI (zz L + 1)) = nI (min 60 (zz L + 1)) from mn_nI (by decide) (by omega)]
    refine Ok.s (wr_k 6 rfl (by decide) (by decide)) ?_
    obtain ⟨c1, c2, c3⟩ := h
    have hval : ∀ q, q ≠ 6 → (q < 130 ∨ 133 < q) → (mset (mset (mset (mset (mset ν 265 130 (L 0 2)) 265 131 l) 265 132 w) 265 133 m) 265 6 (nI (min 60 (zz L + 1)))) 265 q = if 133 < q ∧ q ≤ 369 then μ 265 (q - 4) else μ 265 q := by
      intro q h6 hq
      rw [mset_atn h6, mset_atn (by omega), mset_atn (by omega), mset_atn (by omega), mset_atn (by omega), e2]
    refine Ok.r ⟨⟨fun k i hk => ?_, c2.log _ _ _, ?_⟩, ?_, ?_, ?_⟩
    · rw [zz_log] at hk
      by_cases hk12 : k ≤ 12
      · have hd : dm n (zz L) k i := by unfold dm at hk ⊢; omega
        have hn := c2.1
        have hlt : midx k i < 130 ∧ midx k i ≠ 6 := by
          rcases midx_eq hd with q | q | q | q | q | q
          · have := sidx_lt q.2.1; omega
          all_goals omega
        rw [hval _ hlt.2 (Or.inl hlt.1), if_neg (by omega), logA_lo (by omega)]
        exact c1 k i hd
      · by_cases hk13 : k = 13
        · obtain rfl : i = 0 := by unfold dm at hk; omega
          subst hk13
          rw [logA_13]
          exact mset_at
        · obtain ⟨kk1, kk2, hi⟩ : 14 ≤ k ∧ k ≤ 17 ∧ i < min 60 (zz L + 1) := by unfold dm at hk; omega
          have hm : ∀ i, midx k i = 130 + 4 * i + (k - 14) := fun i => by
            unfold midx; rw [if_neg (by omega), if_neg (by omega), if_neg (by omega), if_neg (by omega), if_neg (by omega)]
          rw [hm]
          cases i with
          | zero =>
            rcases (show k = 14 ∨ k = 15 ∨ k = 16 ∨ k = 17 by omega) with rfl | rfl | rfl | rfl
            · rw [logA_14]; rfl
            · rw [logA_15]; rfl
            · rw [logA_16]; rfl
            · rw [logA_17]; rfl
          | succ i =>
            rw [hval _ (by omega) (by omega), if_pos (by omega), logA_s kk1 kk2, ← c1 k i (dmR kk1 kk2 (by omega)), hm]
            congr 1
            omega
    · rw [hval 5 (by decide) (by decide), if_neg (by decide)]; exact c3
    · exact ((((hF.put rfl).put rfl).put rfl).put rfl).put rfl
    · rw [hval 2 (by decide) (by decide), if_neg (by decide)]
    · intro j hj
      rw [hval j (by omega) (by omega), if_neg (by omega)]
end Chg
