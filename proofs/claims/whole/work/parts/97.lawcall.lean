/-! THE LAW'S TEXT: all lines, and the call -/
section Ly
variable {c : Nat} {B : Nat → Nat} {μ0 ν0 μ ν μ' ν' : Mem} {a p w j : Nat} {T : Tx}
theorem S_lawline (H : Tb c B μ0 ν0) (hj : j < 12) (hT : T 1 0 = j) (h : LLn c B μ0 ν0 T μ ν a p) : Sim (f_X5_readLine μ) (f_X12_readLine ν false (nI j)) (PW c B μ0 ν0 (j + 1)) := by
  have hc := H.le4
  have hR := h.1
  have hC := hR.1
  have hac := hC.2.2.1
  have hM := hR.2.1
  have hl : f_X12_letters ν = some (setPB ν (run c B 97 122 a) a) := by
    have := X12_letters H hM hR.2.2.1 hR.2.2.2.1
    rwa [hR.2.2.2.2] at this
  unfold f_X12_readLine
  refine Sim.r hl ?_
  rw [if_neg fnt]
  refine Sim.re (nI_ge (b := 12) hj (by decide)) (Sim.re fnt ?_)
  -- the answer's form
  have strip : ∀ {o : Option Mem} {m : Option (Bool × Mem)}, Sim o m (PW c B μ0 ν0 (j + 1)) → Sim o (Option.bind m fun q3 => some ((if q3.1 = true then (true : Bool) else false), q3.2)) (PW c B μ0 ν0 (j + 1)) := fun {o m} hs => by
    obtain ⟨x, y, k1, k2, k3⟩ := hs
    refine ⟨x, y, k1, ?_, k3⟩
    rw [k2, sb9, bite]
  refine strip ?_
  have iw : ∀ s' s, s' < 79 → wok s' = true → lenS_l.getD s' 0 = lenS_l.getD s 0 → bytS_l.getD s' [] = bytS_l.getD s [] → f_X12_isWord (setPB ν (run c B 97 122 a) a) s' = some (isW c B s a) := fun s' s h1 h2 h3 h4 => by
    rw [← isW_id (s := s') (s' := s) h3 h4]
    exact X12_isWord H hM.pb setPB_10 setPB_12 hac h1 h2
  have go : ∀ s, s < 79 → wok s = true → isW c B s a = true → LLn c B μ0 ν0 T (mset μ 1 3 (nI (sk c B (a + wlen s)))) (setPB ν (run c B 97 122 a) a) (sk c B (a + wlen s)) (a + wlen s) := fun s h1 h2 q => by
    have hsk := sk_ge (c := c) (B := B) (i := a + wlen s)
    refine ⟨⟨hC.mv H (isW_le hac q), hM.pb, by rw [setPB_10, isW_end q], isW_le hac q, rfl⟩, h.2.1.efl ef3.L egPB.L, h.2.2.1.fr (ef3 56 (by decide)) (ef3 61 (by decide)) (setPB_i (by decide) (by decide)) (setPB_o (by decide)), h.2.2.2.1.egl egPB.L, ?_⟩
    have := h.2.2.2.2
    omega
  unfold f_X5_readLine f_X5_takeKind f_X12_readLawLine
  rw [ix_L]
  rw [X8_word H hC (s := 13) (by decide) rfl, sb9]
  refine Sim.r (iw 75 13 (by decide) rfl rfl rfl) ?_
  dsimp only
  by_cases e1 : isW c B 13 a = true
  · rw [if_pos e1, if_pos e1, if_pos e1, sb9]
    exact S_lawrest H hj hT (go 13 (by decide) rfl e1) (κ := 0) (by decide)
  rw [if_neg e1, if_neg e1, if_neg e1]
  rw [X8_word H hC (s := 14) (by decide) rfl, sb9]
  refine Sim.r (iw 76 14 (by decide) rfl rfl rfl) ?_
  dsimp only
  by_cases e2 : isW c B 14 a = true
  · rw [if_pos e2, if_pos e2, if_pos e2, sb9]
    exact S_lawrest H hj hT (go 14 (by decide) rfl e2) (κ := 1) (by decide)
  rw [if_neg e2, if_neg e2, if_neg e2]
  rw [hC.need H (s := 15) (by decide) rfl, sb9, sb9]
  refine Sim.r (iw 77 15 (by decide) rfl rfl rfl) ?_
  dsimp only
  by_cases e3 : isW c B 15 a = true
  · rw [if_pos e3, if_pos e3]
    exact S_lawrest H hj hT (go 15 (by decide) rfl e3) (κ := 2) (by decide)
  · rw [if_neg e3, if_neg e3]
    have hq : Cq c μ0 (mset μ 1 4 (nI a)) a := by
      refine ⟨hC.rf hac, ⟨T 7 0, ?_, ?_⟩, T 1 0, h.2.1.1.2, ?_⟩
      · have := h.2.2.2.2
        omega
      · rw [mset_ne (by decide)]; exact h.2.2.1.1
      · rw [mset_ne (by decide)]; exact h.2.1.1.1
    refine Sim.r (wr_nI (by omega) (by decide)) (Sim.r (b := -1) (by rw [rd_nI (by omega) (by decide), mset_at]) (Sim.re (by decide) ?_))
    refine Sim.fl (qN H hq fun x m1 h1 => q_open h1 fun m2 h2 => qT H h2 (Ok.e fnt (q_close h2))) (fun m6 hm => Or.inr ⟨rfl, a, hm, mb65 hM.pb, ?_, eg65 (by omega) (h.2.2.2.1.egl egPB.L)⟩)
    show mset (setPB ν (run c B 97 122 a) a) 265 (1220 + 4 * j) (-1) 264 12 = nI a
    rw [mset_ne (by decide)]; exact setPB_12
/-- how both read a text of the law -/
def PB9 (c : Nat) (B : Nat → Nat) (μ0 ν0 : Mem) (μ' : Mem) (q : Int32 × Mem) : Prop := (∃ T a p, q.1 = nI (T 1 0) ∧ LLn c B μ0 ν0 T μ' q.2 a p) ∨ (q.1 = -1 ∧ ∃ w, Cw c μ0 μ' w ∧ Mb ν0 q.2 ∧ q.2 264 12 = nI w ∧ K12 ν0 q.2)
theorem S_allL (H : Tb c B μ0 ν0) (h73 : μ0 73 1 = nI 12) (hT : T 1 0 = 0) (h : LLn c B μ0 ν0 T μ ν a p) (hpa : p = a) : Sim (Option.bind (f_X8_isOver μ) fun t2 => f_X6_readAll_73_l25 μ (if t2 = true then (false : Bool) else true) 0) (if (ν 264 10) = (ν 264 11) then some (0, ν) else f_X12_readAll_l28 ν false 0) (PB9 c B μ0 ν0) := by
  have hc := H.le4
  have h73' : ∀ {m : Mem}, Cb μ0 m → m 73 1 = nI 12 := fun {m} hb => by rw [hb.1 73 (by unfold cS; decide)]; exact h73
  unfold f_X8_isOver
  rw [sb9, H.len h.1.1.1, h.1.1.2.1, h.1.2.2.1, H.end9 h.1.2.1, hpa]
  have hac := h.1.1.2.2.1
  by_cases eo : a = c
  · have e0 : (if nI a < nI c then (false : Bool) else true) = true := if_neg (nI_nlt (by omega) (by omega))
    rw [e0, if_pos rfl, if_pos (by rw [eo])]
    unfold f_X6_readAll_73_l25
    refine Sim.l (a := μ) ?_ ?_
    · unfold loopN
      show (f_X6_readAll_73_b25 μ false 0).bind _ = _
      unfold f_X6_readAll_73_b25
      rw [h73' h.1.1.1, if_neg (by decide), if_neg fnt]
      rfl
    · unfold f_X6_readAll_73_j82 f_X6_readAll_73_j106 f_X8_isOver
      rw [H.len h.1.1.1, h.1.1.2.1, sb9, e0, if_pos rfl]
      exact Sim.d (Or.inl ⟨T, a, p, by rw [hT]; rfl, h⟩)
  · have e0 : (if nI a < nI c then (false : Bool) else true) = false := if_pos (nI_lt (by omega) (by omega))
    rw [e0, if_neg fnt, if_neg (fun q => eo ((nI_eq (by omega) (by omega)).mp q))]
    unfold f_X6_readAll_73_l25 f_X12_readAll_l28
    refine Sim.loop (fun j z z' => z.1 = true ∧ z.2.1 = nI j ∧ z'.1 = nI j ∧ ∃ T a p, LLn c B μ0 ν0 T z.2.2 z'.2 a p ∧ T 1 0 = j) (fun t t' => (∃ T p, t'.1 = nI (T 1 0) ∧ LLn c B μ0 ν0 T t t'.2 c p) ∨ (t'.1 = -1 ∧ Mb ν0 t'.2 ∧ K12 ν0 t'.2 ∧ ∃ w, t'.2 264 12 = nI w ∧ (Cw c μ0 t w ∨ (Cr c B μ0 t w ∧ w < c)))) 12 (by decide) ⟨rfl, rfl, rfl, T, a, p, h, hT⟩ (fun j z z' hj hI => ?_) (fun t t' ht => ?_)
    · obtain ⟨mo, x, m⟩ := z
      obtain ⟨y, v⟩ := z'
      obtain ⟨i1, i2, i3, T1, a1, p1, h1, hT1⟩ := hI
      dsimp only at i1 i2 i3 h1
      subst i1 i2 i3
      have r1 := h1.1
      show Sim (f_X6_readAll_73_b25 m true (nI j)) (f_X12_readAll_b28 v false (nI j)) _
      have stop : ∀ {m2 : Mem} {w2 : Nat}, Cb μ0 m2 → f_X6_readAll_73_b25 m2 false (nI (j + 1)) = some (.inr m2) := fun {m2 w2} hb => by
        unfold f_X6_readAll_73_b25
        rw [h73' hb]
        by_cases q : 12 < j + 1
        · exact it (nI_lt q (by omega)) rfl
        · exact ie (nI_nlt (by omega) (by decide)) (ie fnt rfl)
      unfold f_X6_readAll_73_b25
      rw [h73' r1.1.1]
      refine Sim.le (nI_nlt (by omega) (by decide)) (Sim.lt rfl ?_)
      by_cases e14 : j = 12
      · subst e14
        refine Sim.lt (by decide) ?_
        rw [r1.1.2.1]
        have hW := r1.1.rf r1.1.2.2.1
        refine Sim.l (X8_refuse r1.1 _) ?_
        unfold f_X6_readAll_73_j66_25
        refine Sim.l (X8_signW H hW _) ?_
        have hl : f_X12_letters v = some (setPB v (run c B 97 122 a1) a1) := by
          have := X12_letters H r1.2.1 r1.2.2.1 r1.2.2.2.1
          rwa [r1.2.2.2.2] at this
        unfold f_X12_readAll_b28 f_X12_readLine f_X12_readLine_j45 f_X12_readLine_j46
        rw [hl, sb9, if_neg fnt, if_pos (by decide), sb9]
        rw [if_neg fnt]
        refine Sim.d ?_
        show ∃ t, f_X6_readAll_73_b25 (mset m 1 4 (nI a1)) false (nI 12 + 1) = some (.inr t) ∧ _
        rw [nI_1]
        exact ⟨_, stop (w2 := 0) hW.1, Or.inr ⟨rfl, r1.2.1.pb, h1.2.2.2.1.egl egPB.L, a1, (setPB_12 (ν := v) (p := run c B 97 122 a1) (b := a1)), Or.inl hW⟩⟩
      · refine Sim.le (nI_ge (b := 12) (by omega) (by decide)) ?_
        unfold f_X12_readAll_b28
        refine (S_lawline H (show j < 12 by omega) hT1 h1).b fun m2 q hq => ?_
        obtain ⟨b, v2⟩ := q
        unfold f_X6_readAll_73_j66_25
        rcases hq with ⟨rfl, T2, a2, p2, h2, hT2⟩ | ⟨rfl, w, hWq, k1, k2, k3⟩
        · dsimp only at h2 ⊢
          have r2 := h2.1
          rw [if_pos rfl]
          have hb2 : f_X12_blanks v2 = some (setPB v2 a2 a2) := by
            have := X12_blanks H r2.2.1 r2.2.2.1 r2.2.2.2.1
            rwa [r2.2.2.2.2] at this
          have hac2 := r2.1.2.2.1
          have rB : RT c B μ0 ν0 m2 (setPB v2 a2 a2) a2 a2 := ⟨r2.1, r2.2.1.pb, setPB_10, hac2, r2.1.2.2.2.2⟩
          have hLB : LLn c B μ0 ν0 T2 m2 (setPB v2 a2 a2) a2 a2 := ⟨rB, h2.2.1.efl EfL.refl egPB.L, h2.2.2.1.fr rfl rfl (setPB_i (by decide) (by decide)) (setPB_o (by decide)), h2.2.2.2.1.egl egPB.L, h2.2.2.2.2⟩
          refine Sim.l (X8_sign H r2.1 (ch := 59) (by decide)) (Sim.r hb2 ?_)
          rw [setPB_10, H.end9 rB.2.1]
          by_cases ec : a2 = c
          · have e59 : inR c B 59 59 a2 = false := by
              cases hq : inR c B 59 59 a2 with
              | false => rfl
              | true => have := (inR_iff.mp hq).1; omega
            rw [e59, if_neg fnt, if_pos (show nI a2 = nI c by rw [ec])]
            refine Sim.d ?_
            show ∃ t, f_X6_readAll_73_b25 m2 false (nI j + 1) = some (.inr t) ∧ _
            rw [nI_1]
            rw [ec] at hLB ⊢
            exact ⟨_, stop (w2 := 0) r2.1.1, Or.inl ⟨T2, c, by show nI (j + 1) = nI (T2 1 0); rw [hT2], hLB⟩⟩
          · rw [if_neg (fun q => ec ((nI_eq (by omega) (by omega)).mp q))]
            refine Sim.r (X12_isAt H rB.2.1 setPB_10 hac2 (lo := 59) (hi := 59) (by decide) (by decide)) ?_
            by_cases e59 : inR c B 59 59 a2 = true
            · rw [if_pos e59, if_pos e59]
              refine Sim.d ?_
              rw [e59, nI_1, nI_1, setPB_set]
              have hlt := (inR_iff.mp e59).1
              have hsk := sk_ge (c := c) (B := B) (i := a2 + 1)
              have h7 := h2.2.2.2.2
              refine ⟨by omega, rfl, rfl, rfl, T2, sk c B (a2 + 1), a2 + 1, ?_, hT2⟩
              show LLn c B μ0 ν0 T2 (mset m2 1 3 (nI (sk c B (a2 + 1)))) (setPB v2 (a2 + 1) a2) (sk c B (a2 + 1)) (a2 + 1)
              exact ⟨⟨r2.1.mv H (by omega), r2.2.1.pb, (setPB_10 (ν := v2) (p := a2 + 1) (b := a2)), by omega, rfl⟩, h2.2.1.efl ef3.L (egPB (ν := v2) (p := a2 + 1) (b := a2)).L, h2.2.2.1.fr (mset_ne (by decide)) (mset_ne (by decide)) (setPB_i (by decide) (by decide)) (setPB_o (by decide)), h2.2.2.2.1.egl (egPB (ν := v2) (p := a2 + 1) (b := a2)).L, by omega⟩
            · rw [if_neg e59, if_neg e59, show inR c B 59 59 a2 = false by simpa using e59]
              refine Sim.d ?_
              show ∃ t, f_X6_readAll_73_b25 m2 false (nI j + 1) = some (.inr t) ∧ _
              rw [nI_1]
              exact ⟨_, stop (w2 := 0) r2.1.1, Or.inr ⟨rfl, rB.2.1, hLB.2.2.2.1, a2, (setPB_12 (ν := v2) (p := a2) (b := a2)), Or.inr ⟨r2.1, by omega⟩⟩⟩
        · dsimp only at k1 k2 k3 ⊢
          have hW := hWq.1
          rw [if_neg fnt]
          refine Sim.l (X8_signW H hW _) (Sim.d ?_)
          show ∃ t, f_X6_readAll_73_b25 m2 false (nI j + 1) = some (.inr t) ∧ _
          rw [nI_1]
          exact ⟨_, stop (w2 := 0) hW.1, Or.inr ⟨rfl, k1, k3, w, k2, Or.inl hW⟩⟩
    · obtain ⟨r, v⟩ := t'
      unfold f_X6_readAll_73_j82 f_X6_readAll_73_j106 f_X8_isOver
      rcases ht with ⟨T2, p2, e1, h2⟩ | ⟨e1, k1, k3, w, k2, hw⟩
      · dsimp only at e1 h2
        subst e1
        rw [H.len h2.1.1.1, h2.1.1.2.1, sb9, if_neg (nI_nlt (Nat.le_refl c) (by omega)), if_pos rfl]
        exact Sim.d (Or.inl ⟨T2, c, p2, rfl, h2⟩)
      · dsimp only at e1 k1 k2 k3
        subst e1
        rcases hw with hW | ⟨hR, hlt⟩
        · rw [sb9]
          by_cases q : (if (t 1 3) < (t 1 2) then (false : Bool) else true) = true
          · exact Sim.lt q (Sim.d (Or.inr ⟨rfl, w, hW, k1, k2, k3⟩))
          · exact Sim.le q (Sim.l (X8_refuseW H hW _) (Sim.d (Or.inr ⟨rfl, w, hW, k1, k2, k3⟩)))
        · rw [H.len hR.1, hR.2.1, sb9, if_pos (nI_lt hlt (by omega)), if_neg fnt]
          exact Sim.l (X8_refuse hR _) (Sim.d (Or.inr ⟨rfl, w, hR.rf hR.2.2.1, k1, k2, k3⟩))
theorem ML.fr2 {n : Nat} {f : Int32} {L : Ld} {u u' : Nat → Int32} (h : ML n f u L) (hf : ∀ j, j < 370 → j ≠ 2 → u' j = u j) : ML n f u' L := by
  obtain ⟨h1, h2, h3⟩ := h
  refine ⟨fun k i hd => ?_, h2, by rw [hf 5 (by decide) (by decide)]; exact h3⟩
  rw [hf _ (midx_lt h2.1 h2.2.2.2 hd) (midx_n5 hd).2]
  exact h1 k i hd
/-- what both have done when a text of the law has been read -/
def LW9 (μ ν : Mem) (k : Nat) (wf : Int32) (T' : Tx) (μ' ν' : Mem) : Prop :=
  (ν' 264 0 = TxQ k ∧ (∀ j, j < 370 → j ≠ 2 → ν' 265 j = ν 265 j)) ∧ (μ' 1 1 = 0 ∧ μ' 1 4 = wf ∧ ν' 264 9 = 0 ∧ ν' 264 14 = wf) ∧ (if k = 0 then (LC μ' 48 T' ∧ LM (ν' 265) T' ∧ WT T' ∧ μ' 74 2 = 0 ∧ ν' 264 7 = 0) else ((∀ b, 48 ≤ b → b ≤ 53 → μ' b = μ b) ∧ (∀ j, j < 1219 → ν' 265 j = ν 265 j) ∧ μ' 74 2 = μ 74 2 ∧ ν' 264 7 = ν 264 7)) ∧ (∀ i, i ≠ 2 → μ' 74 i = μ 74 i) ∧ (∀ b, b ≠ 1 → ¬ (18 ≤ b ∧ b ≤ 32) → ¬ (48 ≤ b ∧ b ≤ 63) → b ≠ 74 → μ' b = μ b) ∧ (∀ b, b ≠ 264 → b ≠ 265 → ν' b = ν b) ∧ ν' 264 6 = ν 264 6
def LV9 (μ ν : Mem) (r : (Nat × Mem) ⊕ (Int32 × Mem)) (q : Int32 × Mem) : Prop := ∃ (k : Nat) (v wf : Int32) (T' : Tx) (μ' : Mem), (k = 0 ∨ k = 1) ∧ r = (if k = 0 then .inr (v, μ') else .inl (k, μ')) ∧ (k = 0 → q.1 = v) ∧ LW9 μ ν k wf T' μ' q.2
theorem X12_lawCopy {v : Mem} {l1 : Int32} : Ok (f_X12_law_l52 v l1 0) (fun q => q.1 = l1 ∧ q.2 264 7 = 0 ∧ (∀ i, i ≠ 7 → q.2 264 i = v 264 i) ∧ (∀ b, b ≠ 264 → b ≠ 265 → q.2 b = v b) ∧ q.2 265 2 = 1 ∧ (∀ j, j < 370 → j ≠ 2 → q.2 265 j = v 265 j) ∧ ∀ j, j < 849 → q.2 265 (370 + j) = v 265 (1219 + j)) := by
  unfold f_X12_law_l52
  refine copy_loop 849 1219 370 265 265 (by decide) (fun i ν2 hi hF => ?_) (fun ν2 hF => ?_) (Or.inr (by decide)) (fun ν2 hF hv => ?_) rfl
  · show f_X12_law_b52 ν2 l1 (nI i) = _
    unfold f_X12_law_b52
    refine ie (nI_ge (b := 849) hi (by decide)) ?_
    rw [show (1219 : Int32) + nI i = nI (1219 + i) from nI_add 1219 i, show (370 : Int32) + nI i = nI (370 + i) from nI_add 370 i]
    refine bs (rd_nI (by omega) (by decide)) (bs (wr_nI (by omega) (by decide)) ?_)
    rw [nI_1]
  · exact it (show (849 : Int32) ≤ nI 849 by decide) rfl
  · unfold f_X12_law_j85
    refine Ok.s (wr_k 2 rfl (by decide) (by decide)) ?_
    have g7 : mset (mset ν2 265 2 1) 264 7 0 264 7 = 0 := mset_at
    refine ⟨_, rfl, rfl, g7, fun i hi => ?_, fun b h1 h2 => ?_, ?_, fun j h1 h2 => ?_, fun j hj => ?_⟩
    · show mset (mset ν2 265 2 1) 264 7 0 264 i = _
      rw [mset_atn hi, mset_ne (by decide), hF 264 (by decide)]
    · show mset (mset ν2 265 2 1) 264 7 0 b = _
      rw [mset_ne h1, mset_ne h2, hF b h2]
    · show mset (mset ν2 265 2 1) 264 7 0 265 2 = 1
      rw [mset_ne (by decide), mset_at]
    · show mset (mset ν2 265 2 1) 264 7 0 265 j = _
      rw [mset_ne (by decide), mset_atn h2, hv, if_neg (by omega)]
    · show mset (mset ν2 265 2 1) 264 7 0 265 (370 + j) = _
      rw [mset_ne (by decide), mset_atn (by omega), hv, if_pos (by omega), show 1219 + (370 + j - 370) = 1219 + j by omega]
theorem S_law (hc : c ≤ 400) {B : Nat → Nat} (hb : ∀ i, B i < 256) (hT : TpC μ c B) (h73 : μ 73 1 = nI 12) (hN : TpM ν c B) : Sim (f_X11_law μ) (f_X12_law ν) (LV9 μ ν) := by
  unfold f_X11_law f_X12_law f_X4_clear
  rw [sb9]
  generalize hμA : mset (mset (mset μ 56 0 (b2i false)) 56 1 0) 56 2 0 = μA
  have oA : ∀ k, k ≠ 56 → μA k = μ k := fun k hk => by rw [← hμA, mset_ne hk, mset_ne hk, mset_ne hk]
  have hTA : TpC μA c B := ⟨by rw [oA 1 (by decide)]; exact hT.1, fun i hi => by rw [oA 2 (by decide)]; exact hT.2 i hi⟩
  generalize hν0 : mset (usesM ν) 264 16 0 = ν0
  have u11 : ν0 264 11 = nI c := by rw [← hν0, mset_atn (by decide), uses_11]; exact hN.1
  have u70 : ∀ i, i < c → ν0 270 i = sb (B i) := fun i hi => by rw [← hν0, mset_ne (by decide), uses_o (by decide)]; exact hN.2 i hi
  obtain ⟨H, eO, hCr⟩ := X8_open hc hb hTA ν0 u11 u70
  generalize hμ0 : mset (mset (mset μA 1 1 0) 1 2 (nI c)) 1 4 (-1) = μ0 at H eO hCr
  have o0 : ∀ k, k ≠ 1 → μ0 k = μA k := fun k hk => by rw [← hμ0, mset_ne hk, mset_ne hk, mset_ne hk]
  have e065 : ν0 265 = ν 265 := by rw [← hν0, mset_ne (by decide), uses_o (by decide)]
  have e10 : ν0 264 10 = nI 0 := by
    rw [← hν0, mset_atn (by decide)]
    unfold usesM
    exact mset_at
  have e16 : ν0 264 16 = nI 0 := by rw [← hν0]; exact mset_at
  have hbl : f_X12_blanks ν0 = some (setPB ν0 (sk c B 0) (sk c B 0)) := X12_blanks H Mb.refl e10 (Nat.zero_le _)
  have hR : RT c B μ0 ν0 (mset μ0 1 3 (nI (sk c B 0))) (setPB ν0 (sk c B 0) (sk c B 0)) (sk c B 0) (sk c B 0) := ⟨hCr, Mb.refl.pb, setPB_10, sk_le (Nat.zero_le _), sk_sk hc⟩
  have hL0 : LLn c B μ0 ν0 (fun _ _ => 0) (mset μ0 1 3 (nI (sk c B 0))) (setPB ν0 (sk c B 0) (sk c B 0)) (sk c B 0) (sk c B 0) := by
    have a1 : mset μ0 1 3 (nI (sk c B 0)) 56 1 = 0 := by rw [mset_ne (by decide), o0 56 (by decide), ← hμA, mset_atn (by decide), mset_at]
    have a2 : mset μ0 1 3 (nI (sk c B 0)) 56 2 = 0 := by rw [mset_ne (by decide), o0 56 (by decide), ← hμA, mset_at]
    refine ⟨hR, ⟨⟨a1, Nat.zero_le _⟩, fun i hi => absurd hi (show ¬ i < 0 by omega)⟩, ⟨a2, by rw [setPB_i (by decide) (by decide)]; exact e16, fun i hi => absurd hi (show ¬ i < 0 by omega), fun i hi => absurd hi (show ¬ i < 0 by omega)⟩, fun j hj => by rw [setPB_o (by decide)], Nat.zero_le _⟩
  have hS := S_allL H (by rw [o0 73 (by decide), oA 73 (by decide)]; exact h73) rfl hL0 rfl
  unfold f_X6_readAll_73 f_X12_readAll
  rw [X12_uses, sb9, hν0, hbl, sb9, eO, sb9]
  obtain ⟨m1, q, k1, k2, k3⟩ := hS
  rw [k1, sb9, k2, sb9]
  obtain ⟨r, v1⟩ := q
  have frC : ∀ {m : Mem}, Cb μ0 m → (∀ b, b ≠ 1 → ¬ (18 ≤ b ∧ b ≤ 32) → ¬ (56 ≤ b ∧ b ≤ 61) → m b = μ b) := fun {m} h b h1 h2 h3 => by
    rw [h.1 b (by unfold cS; omega), o0 b h1, oA b (by omega)]
  have s11 : ∀ {m : Mem}, Cb μ0 m → m 1 1 = 0 := fun {m} h => by
    rw [h.2 1 (by decide) (by decide), ← hμ0, mset_atn (by decide), mset_atn (by decide), mset_at]
  have m0 : ∀ {v : Mem}, Mb ν0 v → v 264 0 = 0 ∧ v 264 9 = 0 ∧ v 264 7 = ν 264 7 ∧ v 264 6 = ν 264 6 ∧ ∀ b, b ≠ 264 → b ≠ 265 → v b = ν b := fun {v} h => by
    refine ⟨?_, ?_, ?_, ?_, fun b h1 h2 => ?_⟩
    · rw [h.2 0 (by decide) (by decide) (by decide) (by decide), ← hν0, mset_atn (by decide)]; exact uses_0
    · rw [h.2 9 (by decide) (by decide) (by decide) (by decide), ← hν0, mset_atn (by decide)]; exact uses_9
    · rw [h.2 7 (by decide) (by decide) (by decide) (by decide), ← hν0, mset_atn (by decide), uses_i (by decide) (by decide) (by decide) (by decide)]
    · rw [h.2 6 (by decide) (by decide) (by decide) (by decide), ← hν0, mset_atn (by decide), uses_i (by decide) (by decide) (by decide) (by decide)]
    · rw [h.1 b h1 h2, ← hν0, mset_ne h1, uses_o h1]
  rcases k3 with ⟨T, a, p, e1, hLL⟩ | ⟨e1, w, hW, q1, q2, q3⟩
  · dsimp only at e1 hLL
    subst e1
    obtain ⟨hRR, ⟨⟨l1, l2⟩, l3⟩, ⟨n1, n2, n3, n4⟩, hK, h7⟩ := hLL
    have hac := hRR.1.2.2.1
    obtain ⟨z1, z2, z3, z4, z5⟩ := m0 hRR.2.1
    refine Sim.l (X8_right hRR.1) (Sim.lt rfl ?_)
    rw [if_pos (nI_pos' (show T 1 0 < 2 ^ 31 by omega)), if_pos (nI_pos' (show T 1 0 < 2 ^ 31 by omega))]
    refine Sim.r (X12_thrF 1) (Sim.re fnt ?_)
    dsimp only
    refine Sim.r (wr_k 1219 rfl (by decide) (by decide)) ?_
    -- the text
    have hW : WT (fun x i => if x = 0 then 1 else T x i) := ⟨Nat.le_refl _, fun q => absurd (show (1 : Nat) = 0 from q) (by decide), l2, (by show T 7 0 ≤ 400; omega), fun i hi => by
      obtain ⟨-, -, w1, w2, w3, w4, w5⟩ := l3 i hi
      exact ⟨w1, w2, w3, w4, w5⟩⟩
    have hLC : LC (mset m1 56 0 (b2i true)) 56 (fun x i => if x = 0 then 1 else T x i) := by
      refine ⟨mset_at, by rw [mset_atn (by decide)]; exact l1, by rw [mset_atn (by decide)]; exact n1, fun i hi => ?_, fun i hi => ?_⟩
      · rw [mset_ne (by decide), mset_ne (by decide), mset_ne (by decide), mset_ne (by decide)]
        exact (l3 i hi).1
      · rw [mset_ne (by decide)]
        exact n3 i hi
    refine Sim.lo (X4_copyFrom hLC hW (a0 := 48) (by omega)) (fun m3 h3 => ?_)
    unfold f_X0_forget
    rw [sb9]
    obtain ⟨q, e2, y1, y2, y3, y4, y5, y6, y7⟩ := X12_lawCopy (v := mset (mset v1 264 14 (-1)) 265 1219 (nI (T 1 0))) (l1 := nI (T 1 0))
    have ec : mset m3 74 2 0 48 1 = nI (T 1 0) := by rw [mset_ne (by decide)]; exact h3.1.2.1
    rw [ec]
    refine ⟨_, q, rfl, e2, 0, nI (T 1 0), -1, (fun x i => if x = 0 then 1 else T x i), _, Or.inl rfl, rfl, fun _ => y1, ⟨?_, fun j h1 h2 => ?_⟩, ⟨?_, ?_, ?_, ?_⟩, ?_, fun i hi => ?_, fun b h1 h2 h4 h5 => ?_, fun b h1 h2 => ?_, ?_⟩
    · rw [y3 0 (by decide), mset_ne (by decide), mset_atn (by decide)]; exact z1
    · rw [y6 j h1 h2, mset_atn (by omega), mset_ne (by decide), hK j (by omega), e065]
    · rw [mset_ne (by decide), h3.2 1 (by unfold sW; omega), mset_ne (by decide)]; exact s11 hRR.1.1
    · rw [mset_ne (by decide), h3.2 1 (by unfold sW; omega), mset_ne (by decide)]; exact hRR.1.2.2.2.1
    · rw [y3 9 (by decide), mset_ne (by decide), mset_atn (by decide)]; exact z2
    · rw [y3 14 (by decide), mset_ne (by decide), mset_at]
    · rw [if_pos rfl]
      refine ⟨h3.1.fr fun j hj => mset_ne (by omega), ⟨y5, fun _ => ⟨?_, fun i hi => ?_, fun i hi => ?_⟩⟩, hW, mset_at, y2⟩
      · rw [show (370 : Nat) = 370 + 0 from rfl, y7 0 (by decide), show 1219 + 0 = 1219 from rfl, mset_at]; rfl
      · have hi' : i < T 1 0 := hi
        obtain ⟨-, ⟨w1, w2, w3, w4⟩, -⟩ := l3 i hi'
        have o : ∀ j, 1220 ≤ j → mset (mset v1 264 14 (-1)) 265 1219 (nI (T 1 0)) 265 j = v1 265 j := fun j hj => by rw [mset_atn (by omega), mset_ne (by decide)]
        refine ⟨?_, ?_, ?_, ?_⟩
        · rw [show 371 + 4 * i = 370 + (1 + 4 * i) by omega, y7 _ (by omega), o _ (by omega), show 1219 + (1 + 4 * i) = 1220 + 4 * i by omega]; exact w1
        · rw [show 371 + 4 * i + 1 = 370 + (2 + 4 * i) by omega, y7 _ (by omega), o _ (by omega), show 1219 + (2 + 4 * i) = 1220 + 4 * i + 1 by omega]; exact w2
        · rw [show 371 + 4 * i + 2 = 370 + (3 + 4 * i) by omega, y7 _ (by omega), o _ (by omega), show 1219 + (3 + 4 * i) = 1220 + 4 * i + 2 by omega]; exact w3
        · rw [show 371 + 4 * i + 3 = 370 + (4 + 4 * i) by omega, y7 _ (by omega), o _ (by omega), show 1219 + (4 + 4 * i) = 1220 + 4 * i + 3 by omega]; exact w4
      · have hi' : i < T 7 0 := hi
        obtain ⟨w1, w2⟩ := n4 i hi'
        have o : ∀ j, 1220 ≤ j → mset (mset v1 264 14 (-1)) 265 1219 (nI (T 1 0)) 265 j = v1 265 j := fun j hj => by rw [mset_atn (by omega), mset_ne (by decide)]
        refine ⟨?_, ?_⟩
        · rw [show 419 + 2 * i = 370 + (49 + 2 * i) by omega, y7 _ (by omega), o _ (by omega), show 1219 + (49 + 2 * i) = 1268 + 2 * i by omega]; exact w1
        · rw [show 419 + 2 * i + 1 = 370 + (50 + 2 * i) by omega, y7 _ (by omega), o _ (by omega), show 1219 + (50 + 2 * i) = 1268 + 2 * i + 1 by omega]; exact w2
    · rw [mset_atn hi, h3.2 74 (by unfold sW; omega), mset_ne (by decide), frC hRR.1.1 74 (by decide) (by decide) (by decide)]
    · rw [mset_ne h5, h3.2 b (by unfold sW; omega), mset_ne (by omega)]
      exact frC hRR.1.1 b h1 h2 (by omega)
    · rw [y4 b h1 h2, mset_ne h2, mset_ne h1]; exact z5 b h1 h2
    · rw [y3 6 (by decide), mset_ne (by decide), mset_atn (by decide)]; exact z4
  · dsimp only at e1 q1 q2 q3
    subst e1
    obtain ⟨z1, z2, z3, z4, z5⟩ := m0 q1
    refine Sim.l (X8_rightW H hW) (Sim.le fnt ?_)
    rw [if_neg (show ¬ (0 : Int32) ≤ -1 by decide), if_neg (show ¬ (0 : Int32) ≤ -1 by decide)]
    refine Sim.r (X12_thrT 1) (Sim.rt rfl ?_)
    dsimp only
    have c65 : ∀ j, j < 1219 → mset (mset v1 264 14 (v1 264 12)) 264 0 1 265 j = ν 265 j := fun j hj => by rw [mset_ne (by decide), mset_ne (by decide), q3 j hj, e065]
    refine Sim.d ⟨1, 0, nI w, fun _ _ => 0, m1, Or.inr rfl, rfl, fun e => absurd e (by decide), ⟨(show mset (mset v1 264 14 (v1 264 12)) 264 0 1 264 0 = 1 from mset_at), fun j h1 h2 => c65 j (by omega)⟩, ⟨s11 hW.1, hW.2.2.1, ?_, ?_⟩, ?_, fun i _ => by rw [frC hW.1 74 (by decide) (by decide) (by decide)], fun b h1 h2 h3 h4 => frC hW.1 b h1 h2 (by omega), fun b h1 h2 => ?_, ?_⟩
    · show mset (mset v1 264 14 (v1 264 12)) 264 0 1 264 9 = 0
      rw [mset_atn (by decide), mset_atn (by decide)]; exact z2
    · show mset (mset v1 264 14 (v1 264 12)) 264 0 1 264 14 = nI w
      rw [mset_atn (by decide), mset_at]; exact q2
    · rw [if_neg (by decide)]
      refine ⟨fun b h1 h2 => frC hW.1 b (by omega) (by omega) (by omega), c65, by rw [frC hW.1 74 (by decide) (by decide) (by decide)], ?_⟩
      show mset (mset v1 264 14 (v1 264 12)) 264 0 1 264 7 = _
      rw [mset_atn (by decide), mset_atn (by decide)]; exact z3
    · show mset (mset v1 264 14 (v1 264 12)) 264 0 1 b = _
      rw [mset_ne h1, mset_ne h1]; exact z5 b h1 h2
    · show mset (mset v1 264 14 (v1 264 12)) 264 0 1 264 6 = _
      rw [mset_atn (by decide), mset_atn (by decide)]; exact z4
end Ly
