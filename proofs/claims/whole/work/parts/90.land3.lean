/-! TWO LOOPS SIDE BY SIDE: the class may need one turn more -/
def LoopS {σ σ' τ τ' : Type} (g : σ → Option (σ ⊕ τ)) (I : Nat → σ → σ' → Prop) (P : τ → τ' → Prop) (e i : Nat) (r : σ ⊕ τ) (r' : σ' ⊕ τ') : Prop := match r, r' with
  | .inl s, .inl s' => i < e ∧ I (i + 1) s s'
  | .inr t, .inr t' => P t t'
  | .inl s, .inr t' => ∃ t, g s = some (.inr t) ∧ P t t'
  | .inr _, .inl _ => False
theorem loopS_ok {σ σ' τ τ' : Type} {g : σ → Option (σ ⊕ τ)} {g' : σ' → Option (σ' ⊕ τ')} (I : Nat → σ → σ' → Prop) (P : τ → τ' → Prop) (e : Nat) (hs : ∀ i s s', i ≤ e → I i s s' → Sim (g s) (g' s') (LoopS g I P e i)) : ∀ (d i k k' : Nat) (s : σ) (s' : σ'), i + d = e → d + 1 < k → d < k' → I i s s' → Sim (loopN k g s) (loopN k' g' s') P := by
  intro d
  induction d with
  | zero =>
    intro i k k' s s' h1 h2 h3 h4
    obtain ⟨k, rfl⟩ : ∃ j, k = j + 2 := ⟨k - 2, by omega⟩
    obtain ⟨k', rfl⟩ : ∃ j, k' = j + 1 := ⟨k' - 1, by omega⟩
    obtain ⟨r, r', e1, e2, h5⟩ := hs i s s' (by omega) h4
    unfold loopN
    rw [e1, e2]
    cases r with
    | inl s1 =>
      cases r' with
      | inl s1' => exact absurd h5.1 (by omega)
      | inr t' =>
        obtain ⟨t, e3, h6⟩ := h5
        refine ⟨t, t', ?_, rfl, h6⟩
        show loopN (k + 1) g s1 = _
        unfold loopN
        rw [e3]; rfl
    | inr t =>
      cases r' with
      | inl s1' => exact absurd h5 id
      | inr t' => exact ⟨t, t', rfl, rfl, h5⟩
  | succ d ih =>
    intro i k k' s s' h1 h2 h3 h4
    obtain ⟨k, rfl⟩ : ∃ j, k = j + 2 := ⟨k - 2, by omega⟩
    obtain ⟨k', rfl⟩ : ∃ j, k' = j + 1 := ⟨k' - 1, by omega⟩
    obtain ⟨r, r', e1, e2, h5⟩ := hs i s s' (by omega) h4
    unfold loopN
    rw [e1, e2]
    cases r with
    | inl s1 =>
      cases r' with
      | inl s1' => exact ih (i + 1) (k + 1) k' s1 s1' (by omega) (by omega) (by omega) h5.2
      | inr t' =>
        obtain ⟨t, e3, h6⟩ := h5
        refine ⟨t, t', ?_, rfl, h6⟩
        show loopN (k + 1) g s1 = _
        unfold loopN
        rw [e3]; rfl
    | inr t =>
      cases r' with
      | inl s1' => exact absurd h5 id
      | inr t' => exact ⟨t, t', rfl, rfl, h5⟩
theorem Sim.loop {σ σ' τ τ' α β : Type} {g : σ → Option (σ ⊕ τ)} {g' : σ' → Option (σ' ⊕ τ')} {f : τ → Option α} {f' : τ' → Option β} {s0 : σ} {s0' : σ'} {Q : α → β → Prop} (I : Nat → σ → σ' → Prop) (P : τ → τ' → Prop) (e : Nat) (he : e < 9000) (h0 : I 0 s0 s0') (hs : ∀ i s s', i ≤ e → I i s s' → Sim (g s) (g' s') (LoopS g I P e i)) (k : ∀ t t', P t t' → Sim (f t) (f' t') Q) : Sim (Option.bind (loopN 10000 g s0) f) (Option.bind (loopN 10000 g' s0') f') Q :=
  (loopS_ok I P e hs e 0 10000 10000 s0 s0' (by omega) (by omega) (by omega) h0).b k
/-! THE LAND'S LINES -/
section Lp
variable {c : Nat} {B : Nat → Nat} {μ0 ν0 μ ν μ' ν' : Mem} {a p w n : Nat} {f : Int32} {L : Ld}
theorem Cw.lnd {i : Nat} {v : Int32} (h : Cw c μ0 μ w) : Cw c μ0 (mset μ 18 i v) w := by
  obtain ⟨⟨h1, h2⟩, ⟨a, h3, h4⟩, h5, h6⟩ := h
  refine ⟨⟨fun k hk => ?_, fun j j3 j4 => ?_⟩, ⟨a, h3, ?_⟩, ?_, h6⟩
  · rw [mset_ne (by unfold cS at hk; omega)]; exact h1 k hk
  · rw [mset_ne (by decide)]; exact h2 j j3 j4
  · rw [mset_ne (by decide)]; exact h4
  · rw [mset_ne (by decide)]; exact h5
theorem S_landline (H : Tb c B μ0 ν0) (h : RLt c B μ0 ν0 μ ν a) (hL : LRel ν0 n f L μ ν) : Sim (f_X3_readLine μ) (f_X12_readLandLine ν) (PL c B μ0 ν0 f) := by
  obtain ⟨hC, hM, h10, h12⟩ := h
  have hac := hC.2.2.1
  have no : ∀ {μ1 ν1 : Mem} {u : Nat}, Cw c μ0 μ1 u → Mb ν0 ν1 → ν1 264 12 = nI u → Eg ν ν1 → ∀ {o : Option Mem}, Ok o (fun μ' => Cw c μ0 μ' u) → Sim o (some (false, ν1)) (PL c B μ0 ν0 f) := fun {μ1 ν1 u} k1 k2 k3 k4 {o} k5 => Sim.fl k5 fun μ' h' => PL.no h' k2 k3 (hL.2.2.2.eg k4)
  have go : ∀ s, s < 79 → wok s = true → isW c B s a = true → RT c B μ0 ν0 (mset μ 1 3 (nI (sk c B (a + wlen s)))) ν (sk c B (a + wlen s)) (a + wlen s) := fun s _ _ q => ⟨hC.mv H (isW_le hac q), hM, by rw [h10, isW_end q], isW_le hac q, rfl⟩
  have iw : ∀ s' s, s' < 79 → wok s' = true → lenS_l.getD s' 0 = lenS_l.getD s 0 → bytS_l.getD s' [] = bytS_l.getD s [] → f_X12_isWord ν s' = some (isW c B s a) := fun s' s h1 h2 h3 h4 => by
    rw [← isW_id (s := s') (s' := s) h3 h4]
    exact X12_isWord H hM h10 h12 hac h1 h2
  have wrapC : ∀ {o : Option Mem} {m : Option (Bool × Mem)}, Sim o m (PL c B μ0 ν0 f) → Sim (Option.bind o fun q => some q) (Option.bind m fun q => some (q.1, q.2)) (PL c B μ0 ν0 f) := fun {o m} hs => hs.b fun x y hq => Sim.d hq
  unfold f_X3_readLine f_X12_readLandLine f_X3_readLine_j158
  refine Sim.l (X8_word H hC (s := 7) (by decide) rfl) (Sim.r (iw 59 7 (by decide) rfl rfl rfl) ?_)
  dsimp only
  by_cases e1 : isW c B 7 a = true
  · rw [if_pos e1, if_pos e1, if_pos e1, hC.2.1]
    exact wrapC (S_person H (go 7 (by decide) rfl e1) h12 hac (hL.eg ef3 Eg.refl))
  rw [if_neg e1, if_neg e1, if_neg e1]
  refine Sim.l (X8_word H hC (s := 8) (by decide) rfl) (Sim.r (iw 60 8 (by decide) rfl rfl rfl) ?_)
  dsimp only
  by_cases e2 : isW c B 8 a = true
  · rw [if_pos e2, if_pos e2, if_pos e2]
    exact wrapC (S_pledge H (go 8 (by decide) rfl e2) (hL.eg ef3 Eg.refl))
  rw [if_neg e2, if_neg e2, if_neg e2]
  refine Sim.l (X8_word H hC (s := 9) (by decide) rfl) (Sim.r (iw 61 9 (by decide) rfl rfl rfl) ?_)
  dsimp only
  by_cases e3 : isW c B 9 a = true
  · rw [if_pos e3, if_pos e3, if_pos e3]
    exact wrapC (S_mud H (go 9 (by decide) rfl e3) (hL.eg ef3 Eg.refl))
  rw [if_neg e3, if_neg e3, if_neg e3]
  refine Sim.l (X8_word H hC (s := 10) (by decide) rfl) (Sim.r (iw 62 10 (by decide) rfl rfl rfl) ?_)
  dsimp only
  by_cases e4 : isW c B 10 a = true
  · rw [if_pos e4, if_pos e4, if_pos e4]
    exact wrapC (S_goal H (go 10 (by decide) rfl e4) (hL.eg ef3 Eg.refl))
  rw [if_neg e4, if_neg e4, if_neg e4]
  refine Sim.l (X8_word H hC (s := 11) (by decide) rfl) (Sim.r (iw 63 11 (by decide) rfl rfl rfl) ?_)
  dsimp only
  by_cases e5 : isW c B 11 a = true
  · rw [if_pos e5, if_pos e5, if_pos e5]
    refine S_rdn H (go 11 (by decide) rfl e5) (j := 4) (by decide) (fun v2 m2 w2 a2 p2 i2 o2 r2 f2 g2 => ?_) (fun m2 w2 h2 k1 k2 f2 g2 => ?_)
    · dsimp only
      have b2 := rng0 (h := 99) (by omega) (by decide) o2
      have hL2 := hL.eg (ef3.trans f2) g2
      have hC2 : CL n f (mset m2 18 3 (nI v2)) 18 (upd2 L 0 3 (nI v2)) := hL2.1.set (k := 0) (by decide) (by omega)
      refine Sim.d ?_
      exact PL.yes r2 (fun k hk => mset_ne (by omega)) (Ms.set rfl (by decide) (by decide)) hC2 (hL2.2.1.put (dm0 (by decide)) (by decide) (by decide) rfl) (hL2.2.2.1.fine b2 rfl) hL2 (upd2_n (by omega))
    · dsimp only
      exact no h2 k1 k2 g2 (Ok.r h2.lnd)
  rw [if_neg e5, if_neg e5, if_neg e5]
  refine Sim.l (X8_word H hC (s := 12) (by decide) rfl) (Sim.r (iw 64 12 (by decide) rfl rfl rfl) ?_)
  dsimp only
  by_cases e6 : isW c B 12 a = true
  · rw [if_pos e6, if_pos e6, if_pos e6]
    refine S_rdn H (go 12 (by decide) rfl e6) (j := 3) (by decide) (fun v2 m2 w2 a2 p2 i2 o2 r2 f2 g2 => ?_) (fun m2 w2 h2 k1 k2 f2 g2 => ?_)
    · dsimp only
      have b2 := rng0 (h := 999) (by omega) (by decide) o2
      have hL2 := hL.eg (ef3.trans f2) g2
      have hC2 : CL n f (mset m2 18 2 (nI v2)) 18 (upd2 L 0 2 (nI v2)) := hL2.1.set (k := 0) (by decide) (by omega)
      refine Sim.d ?_
      exact PL.yes r2 (fun k hk => mset_ne (by omega)) (Ms.set rfl (by decide) (by decide)) hC2 (hL2.2.1.put (dm0 (by decide)) (by decide) (by decide) rfl) (hL2.2.2.1.day (x := v2) (by omega) rfl) hL2 (upd2_n (by omega))
    · dsimp only
      exact no h2 k1 k2 g2 (Ok.r h2.lnd)
  rw [if_neg e6, if_neg e6, if_neg e6, hC.2.1]
  unfold f_X12_readLandLine_j97 f_X12_readLandLine_j98
  exact Sim.l (X8_refuse hC _) (no (hC.rf hac) hM h12 Eg.refl (Ok.r (hC.rf hac)))
theorem S_line (H : Tb c B μ0 ν0) (h : RT c B μ0 ν0 μ ν a p) (hL : LRel ν0 n f L μ ν) {j : Nat} (hj : j < 14) : Sim (f_X3_readLine μ) (f_X12_readLine ν true (nI j)) (PL c B μ0 ν0 f) := by
  obtain ⟨hC, hM, hp, hpc, ha⟩ := h
  have hl : f_X12_letters ν = some (setPB ν (run c B 97 122 a) a) := by
    have := X12_letters H hM hp hpc
    rwa [ha] at this
  unfold f_X12_readLine
  refine Sim.r hl ?_
  rw [if_pos rfl]
  refine Sim.re (nI_ge (b := 14) hj (by decide)) (Sim.rt rfl ?_)
  have hs := S_landline H (⟨hC, hM.pb, setPB_10, setPB_12⟩ : RLt c B μ0 ν0 μ (setPB ν (run c B 97 122 a) a) a) (hL.eg Ef.refl egPB)
  obtain ⟨x, y, k1, k2, k3⟩ := hs
  refine ⟨x, y, k1, ?_, k3⟩
  rw [k2, sb9, bite]
/-- how both read a text of the land -/
def PA (c : Nat) (B : Nat → Nat) (μ0 ν0 : Mem) (f : Int32) (μ' : Mem) (q : Int32 × Mem) : Prop := (∃ k n L a p, q.1 = nI k ∧ k ≤ 14 ∧ RT c B μ0 ν0 μ' q.2 a p ∧ LRel ν0 n f L μ' q.2) ∨ (q.1 = -1 ∧ ∃ w, Cw c μ0 μ' w ∧ Mb ν0 q.2 ∧ q.2 264 12 = nI w ∧ K65 ν0 q.2)
theorem S_all (H : Tb c B μ0 ν0) (h72 : μ0 72 1 = nI 14) (h : RT c B μ0 ν0 μ ν a p) (hpa : p = a) (hL : LRel ν0 n f L μ ν) : Sim (Option.bind (f_X8_isOver μ) fun t2 => f_X6_readAll_72_l25 μ (if t2 = true then (false : Bool) else true) 0) (if (ν 264 10) = (ν 264 11) then some (0, ν) else f_X12_readAll_l28 ν true 0) (PA c B μ0 ν0 f) := by
  have hc := H.le4
  have h72' : ∀ {m : Mem}, Cb μ0 m → m 72 1 = nI 14 := fun {m} hb => by rw [hb.1 72 (by unfold cS; decide)]; exact h72
  unfold f_X8_isOver
  rw [sb9, H.len h.1.1, h.1.2.1, h.2.2.1, H.end9 h.2.1, hpa]
  have hac := h.1.2.2.1
  by_cases eo : a = c
  · -- nothing told
    have e0 : (if nI a < nI c then (false : Bool) else true) = true := if_neg (nI_nlt (by omega) (by omega))
    rw [e0, if_pos rfl, if_pos (by rw [eo])]
    unfold f_X6_readAll_72_l25
    refine Sim.l (a := μ) ?_ ?_
    · unfold loopN
      show (f_X6_readAll_72_b25 μ false 0).bind _ = _
      unfold f_X6_readAll_72_b25
      rw [h72' h.1.1, if_neg (by decide), if_neg fnt]
      rfl
    · unfold f_X6_readAll_72_j82 f_X6_readAll_72_j106 f_X8_isOver
      rw [H.len h.1.1, h.1.2.1, sb9, e0, if_pos rfl]
      exact Sim.d (Or.inl ⟨0, n, L, a, p, rfl, by decide, h, hL⟩)
  · have e0 : (if nI a < nI c then (false : Bool) else true) = false := if_pos (nI_lt (by omega) (by omega))
    rw [e0, if_neg fnt, if_neg (fun q => eo ((nI_eq (by omega) (by omega)).mp q))]
    unfold f_X6_readAll_72_l25 f_X12_readAll_l28
    refine Sim.loop (fun j z z' => z.1 = true ∧ z.2.1 = nI j ∧ z'.1 = nI j ∧ ∃ n L a p, RT c B μ0 ν0 z.2.2 z'.2 a p ∧ LRel ν0 n f L z.2.2 z'.2) (fun t t' => (∃ k n L p, t'.1 = nI k ∧ k ≤ 14 ∧ RT c B μ0 ν0 t t'.2 c p ∧ LRel ν0 n f L t t'.2) ∨ (t'.1 = -1 ∧ Mb ν0 t'.2 ∧ K65 ν0 t'.2 ∧ ∃ w, t'.2 264 12 = nI w ∧ (Cw c μ0 t w ∨ (Cr c B μ0 t w ∧ w < c)))) 14 (by decide) ⟨rfl, rfl, rfl, n, L, a, p, h, hL⟩ (fun j z z' hj hI => ?_) (fun t t' ht => ?_)
    · obtain ⟨mo, x, m⟩ := z
      obtain ⟨y, v⟩ := z'
      obtain ⟨i1, i2, i3, n1, L1, a1, p1, r1, hL1⟩ := hI
      dsimp only at i1 i2 i3 r1 hL1
      subst i1 i2 i3
      show Sim (f_X6_readAll_72_b25 m true (nI j)) (f_X12_readAll_b28 v true (nI j)) _
      -- the class's last turn
      have stop : ∀ {m2 : Mem} {w2 : Nat}, Cb μ0 m2 → f_X6_readAll_72_b25 m2 false (nI (j + 1)) = some (.inr m2) := fun {m2 w2} hb => by
        unfold f_X6_readAll_72_b25
        rw [h72' hb]
        by_cases q : 14 < j + 1
        · exact it (nI_lt q (by omega)) rfl
        · exact ie (nI_nlt (by omega) (by decide)) (ie fnt rfl)
      unfold f_X6_readAll_72_b25
      rw [h72' r1.1.1]
      refine Sim.le (nI_nlt (by omega) (by decide)) (Sim.lt rfl ?_)
      by_cases e14 : j = 14
      · -- a line too many
        subst e14
        refine Sim.lt (by decide) ?_
        rw [r1.1.2.1]
        have hW := r1.1.rf r1.1.2.2.1
        refine Sim.l (X8_refuse r1.1 _) ?_
        unfold f_X6_readAll_72_j66_25
        refine Sim.l (X8_signW H hW _) ?_
        have hl : f_X12_letters v = some (setPB v (run c B 97 122 a1) a1) := by
          have := X12_letters H r1.2.1 r1.2.2.1 r1.2.2.2.1
          rwa [r1.2.2.2.2] at this
        unfold f_X12_readAll_b28 f_X12_readLine f_X12_readLine_j45 f_X12_readLine_j46
        rw [hl, sb9, if_pos rfl, if_pos (by decide), sb9]
        rw [if_neg fnt]
        refine Sim.d ?_
        show ∃ t, f_X6_readAll_72_b25 (mset m 1 4 (nI a1)) false (nI 14 + 1) = some (.inr t) ∧ _
        rw [nI_1]
        exact ⟨_, stop (w2 := 0) hW.1, Or.inr ⟨rfl, r1.2.1.pb, hL1.2.2.2.eg egPB, a1, (setPB_12 (ν := v) (p := run c B 97 122 a1) (b := a1)), Or.inl hW⟩⟩
      · refine Sim.le (nI_ge (b := 14) (by omega) (by decide)) ?_
        unfold f_X12_readAll_b28
        refine (S_line H r1 hL1 (show j < 14 by omega)).b fun m2 q hq => ?_
        obtain ⟨b, v2⟩ := q
        unfold f_X6_readAll_72_j66_25
        rcases hq with ⟨rfl, n2, L2, a2, p2, r2, hL2⟩ | ⟨rfl, w, hW, k1, k2, k3⟩
        · dsimp only at r2 hL2 ⊢
          rw [if_pos rfl]
          have hb2 : f_X12_blanks v2 = some (setPB v2 a2 a2) := by
            have := X12_blanks H r2.2.1 r2.2.2.1 r2.2.2.2.1
            rwa [r2.2.2.2.2] at this
          have hac2 := r2.1.2.2.1
          have rB : RT c B μ0 ν0 m2 (setPB v2 a2 a2) a2 a2 := ⟨r2.1, r2.2.1.pb, setPB_10, hac2, r2.1.2.2.2.2⟩
          have hLB := hL2.eg Ef.refl (egPB (p := a2) (b := a2))
          refine Sim.l (X8_sign H r2.1 (ch := 59) (by decide)) (Sim.r hb2 ?_)
          rw [setPB_10, H.end9 rB.2.1]
          by_cases ec : a2 = c
          · have e59 : inR c B 59 59 a2 = false := by
              cases hq : inR c B 59 59 a2 with
              | false => rfl
              | true => have := (inR_iff.mp hq).1; omega
            rw [e59, if_neg fnt, if_pos (show nI a2 = nI c by rw [ec])]
            refine Sim.d ?_
            show ∃ t, f_X6_readAll_72_b25 m2 false (nI j + 1) = some (.inr t) ∧ _
            rw [nI_1]
            rw [ec] at rB hLB ⊢
            exact ⟨_, stop (w2 := 0) r2.1.1, Or.inl ⟨j + 1, n2, L2, c, rfl, by omega, rB, hLB⟩⟩
          · rw [if_neg (fun q => ec ((nI_eq (by omega) (by omega)).mp q))]
            refine Sim.r (X12_isAt H rB.2.1 setPB_10 hac2 (lo := 59) (hi := 59) (by decide) (by decide)) ?_
            by_cases e59 : inR c B 59 59 a2 = true
            · rw [if_pos e59, if_pos e59]
              refine Sim.d ?_
              rw [e59, nI_1, nI_1, setPB_set]
              have hlt := (inR_iff.mp e59).1
              refine ⟨by omega, rfl, rfl, rfl, n2, L2, sk c B (a2 + 1), a2 + 1, ?_, ?_⟩
              · exact ⟨r2.1.mv H (by omega), r2.2.1.pb, (setPB_10 (ν := v2) (p := a2 + 1) (b := a2)), by omega, rfl⟩
              · exact hL2.eg ef3 (egPB (ν := v2) (p := a2 + 1) (b := a2))
            · rw [if_neg e59, if_neg e59, show inR c B 59 59 a2 = false by simpa using e59]
              refine Sim.d ?_
              show ∃ t, f_X6_readAll_72_b25 m2 false (nI j + 1) = some (.inr t) ∧ _
              rw [nI_1]
              exact ⟨_, stop (w2 := 0) r2.1.1, Or.inr ⟨rfl, rB.2.1, hLB.2.2.2, a2, (setPB_12 (ν := v2) (p := a2) (b := a2)), Or.inr ⟨r2.1, by omega⟩⟩⟩
        · dsimp only at k1 k2 k3 ⊢
          rw [if_neg fnt]
          refine Sim.l (X8_signW H hW _) (Sim.d ?_)
          show ∃ t, f_X6_readAll_72_b25 m2 false (nI j + 1) = some (.inr t) ∧ _
          rw [nI_1]
          exact ⟨_, stop (w2 := 0) hW.1, Or.inr ⟨rfl, k1, k3, w, k2, Or.inl hW⟩⟩
    · obtain ⟨r, v⟩ := t'
      unfold f_X6_readAll_72_j82 f_X6_readAll_72_j106 f_X8_isOver
      rcases ht with ⟨k, n2, L2, p2, e1, k14, r2, hL2⟩ | ⟨e1, k1, k3, w, k2, hw⟩
      · dsimp only at e1 r2 hL2
        subst e1
        rw [H.len r2.1.1, r2.1.2.1, sb9, if_neg (nI_nlt (Nat.le_refl c) (by omega)), if_pos rfl]
        exact Sim.d (Or.inl ⟨k, n2, L2, c, p2, rfl, k14, r2, hL2⟩)
      · dsimp only at e1 k1 k2 k3
        subst e1
        rcases hw with hW | ⟨hR, hlt⟩
        · obtain ⟨a3, ha3, e3⟩ := hW.2.1
          rw [sb9]
          by_cases q : (if (t 1 3) < (t 1 2) then (false : Bool) else true) = true
          · exact Sim.lt q (Sim.d (Or.inr ⟨rfl, w, hW, k1, k2, k3⟩))
          · exact Sim.le q (Sim.l (X8_refuseW H hW _) (Sim.d (Or.inr ⟨rfl, w, hW, k1, k2, k3⟩)))
        · rw [H.len hR.1, hR.2.1, sb9, if_pos (nI_lt hlt (by omega)), if_neg fnt]
          exact Sim.l (X8_refuse hR _) (Sim.d (Or.inr ⟨rfl, w, hR.rf hR.2.2.1, k1, k2, k3⟩))
end Lp
