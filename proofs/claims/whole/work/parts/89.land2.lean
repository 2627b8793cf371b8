/-! LINES OF THE LAND: both -/
section Lm
variable {α β : Type} {c : Nat} {B : Nat → Nat} {μ0 ν0 μ ν μ' ν' : Mem} {a p w n : Nat} {f : Int32} {L : Ld} {P : α → β → Prop}
theorem RT.fr (h : RT c B μ0 ν0 μ ν a p) (hC : ∀ k, k < 18 ∨ 32 < k → μ' k = μ k) (hM : Fr s65 ν ν') : RT c B μ0 ν0 μ' ν' a p := by
  obtain ⟨⟨⟨h1, h2⟩, h3, h4, h5, h6⟩, ⟨h7, h8⟩, h9, h10, h11⟩ := h
  have e1 : μ' 1 = μ 1 := hC 1 (by decide)
  have e64 : ν' 264 = ν 264 := hM 264 (by unfold s65; decide)
  refine ⟨⟨⟨fun k hk => ?_, fun i i3 i4 => by rw [e1]; exact h2 i i3 i4⟩, by rw [e1]; exact h3, h4, by rw [e1]; exact h5, h6⟩, ⟨fun k k1 k2 => ?_, fun i i1 i2 i3 i4 => by rw [e64]; exact h8 i i1 i2 i3 i4⟩, by rw [e64]; exact h9, h10, h11⟩
  · rw [hC k (by unfold cS at hk; omega)]; exact h1 k hk
  · rw [hM k (by unfold s65; exact k2)]; exact h7 k k1 k2
theorem K65.ms (h : K65 ν0 ν) (hm : Ms s65 ν ν') (h1 : ν' 265 1 = ν 265 1) : K65 ν0 ν' := ⟨h1.trans h.1, hm.2.1.trans h.2.1, fun j hj => (hm.2.2 j hj).trans (h.2.2 j hj)⟩
theorem K65.eg (h : K65 ν0 ν) (g : Eg ν ν') : K65 ν0 ν' := by
  unfold K65
  rw [g.1 265 (by decide)]
  exact h
/-- the line is right -/
theorem PL.yes {n' : Nat} {L' : Ld} (h : RT c B μ0 ν0 μ ν a p) (hC : ∀ k, k < 18 ∨ 32 < k → μ' k = μ k) (hm : Ms s65 ν ν') (h1 : CL n' f μ' 18 L') (h2 : ML n' f (ν' 265) L') (h3 : WF n' L') (h4 : LRel ν0 n f L μ ν) (h5 : L' 0 1 = L 0 1) : PL c B μ0 ν0 f μ' (true, ν') := Or.inl ⟨rfl, n', L', a, p, h.fr hC hm.1, h1, h2, h3, h4.2.2.2.ms hm (by
  have e1 : ν' 265 1 = L' 0 1 := h2.at0 (i := 1) (by decide)
  have e2 : ν 265 1 = L 0 1 := h4.2.1.at0 (i := 1) (by decide)
  exact e1.trans (h5.trans e2.symm))⟩
theorem wWN (H : Tb c B μ0 ν0) (h : Cw c μ0 μ w) {s : Nat} {lo hi : Int32} {k : Int32 × Mem → Option α} {Q : α → Prop} (g : ∀ (x : Int32) (μ' : Mem), Cw c μ0 μ' w → Ok (k (x, μ')) Q) : Ok (Option.bind (f_X8_needWord μ s) fun q => Option.bind (f_X8_takeNumber q lo hi) k) Q := wW H h (wN H h fun x μ' h1 _ => g x μ' h1)
theorem S_person (H : Tb c B μ0 ν0) (h : RT c B μ0 ν0 μ ν a p) (h12 : ν 264 12 = nI w) (hw : w ≤ c) (hL : LRel ν0 n f L μ ν) : Sim (f_X3_readPerson μ (nI w)) (f_X12_readPerson ν) (PL c B μ0 ν0 f) := by
  have hn := hL.1.n6
  have no : ∀ {μ1 ν1 : Mem} {u : Nat}, Cw c μ0 μ1 u → Mb ν0 ν1 → ν1 264 12 = nI u → Eg ν ν1 → ∀ {o : Option Mem}, Ok o (fun μ' => Cw c μ0 μ' u) → Sim o (some (false, ν1)) (PL c B μ0 ν0 f) := fun {μ1 ν1 u} k1 k2 k3 k4 {o} k5 => Sim.fl k5 fun μ' h' => PL.no h' k2 k3 (hL.2.2.2.eg k4)
  unfold f_X3_readPerson f_X12_readPerson
  rw [hL.1.ppl]
  refine Sim.r (X12_people hL.2.1) ?_
  by_cases e6 : n = 6
  · subst e6
    refine Sim.le (by decide) (Sim.l (X8_refuse h.1 _) (Sim.rt (by decide) ?_))
    have hW := h.1.rf hw
    refine no hW h.2.1 h12 Eg.refl ?_
    unfold f_X3_readPerson_j20 f_X3_readPerson_j94
    exact wN H hW fun x1 m1 h1 _ => wWN H h1 fun x2 m2 h2 => wWN H h2 fun x3 m3 h3 => wR H h3 (Ok.e fnt (Ok.r h3))
  · refine Sim.lt (nI_lt (b := 6) (by omega) (by decide)) (Sim.re (fun q => e6 ((nI_eq (b := 6) (by omega) (by decide)).mp q)) ?_)
    unfold f_X3_readPerson_j20 f_X3_readPerson_j94
    refine S_num H h (fun v1 m1 w1 a1 p1 i1 o1 _ r1 f1 g1 _ => ?_) (fun m1 w1 h1 k1 k2 f1 g1 => ?_)
    · dsimp only
      refine Sim.rt (nI_pos' (by omega)) ?_
      refine S_after H r1 (s := 0) (s' := 52) (by decide) rfl (by decide) rfl rfl rfl (fun v2 m2 w2 a2 p2 i2 o2 r2 f2 g2 => ?_) (fun x m2 w2 u h2 k1 k2 f2 g2 => ?_)
      · dsimp only
        unfold f_X12_readPerson_j39
        refine Sim.rt (nI_pos' (by omega)) ?_
        refine S_after H r2 (s := 1) (s' := 53) (by decide) rfl (by decide) rfl rfl rfl (fun v3 m3 w3 a3 p3 i3 o3 r3 f3 g3 => ?_) (fun x m3 w3 u h3 k1 k2 f3 g3 => ?_)
        · dsimp only
          refine Sim.l (X8_right r3.1) (Sim.lt rfl ?_)
          have hL3 := hL.eg ((f1.trans f2).trans f3) ((g1.trans g2).trans g3)
          have b1 := rng0 (h := 999) (by omega) (by decide) o1
          have b2 := rng1 (h := 9) (by omega) (by decide) o2
          have b3 := rng0 (h := 19) (by omega) (by decide) o3
          refine Sim.lo (X2_addPerson hL3.1 (by omega) _ _ _) (fun m4 h4 => ?_)
          obtain ⟨q, e1, e2, e3, e4⟩ := X12_addPerson hL3.2.1 (show n < 6 by omega) (nI v1) (nI v2) (z := v3) (by omega)
          obtain ⟨qb, w4⟩ := q
          dsimp only at e2 e3 e4
          subst e2
          refine ⟨m4, _, rfl, e1, ?_⟩
          exact PL.yes r3 (fun k hk => h4.2 k (by omega)) e4 h4.1 e3 (hL3.2.2.1.add b1 b2.1 b2.2 b3) hL3 (addP_old (by omega) (by omega) (by omega))
        · dsimp only
          unfold f_X12_readPerson_j57
          exact Sim.re (by decide) (no h3 k1 k2 ((g1.trans g2).trans g3) (wR H h3 (Ok.e fnt (Ok.r h3))))
      · dsimp only
        unfold f_X12_readPerson_j39 f_X12_readPerson_j57
        exact Sim.re (by decide) (Sim.re (by decide) (no h2 k1 k2 (g1.trans g2) (wWN H h2 fun x3 m3 h3 => wR H h3 (Ok.e fnt (Ok.r h3)))))
    · dsimp only
      unfold f_X12_readPerson_j39 f_X12_readPerson_j57
      exact Sim.re (by decide) (Sim.re (by decide) (Sim.re (by decide) (no h1 k1 k2 g1 (wWN H h1 fun x2 m2 h2 => wWN H h2 fun x3 m3 h3 => wR H h3 (Ok.e fnt (Ok.r h3))))))
theorem S_mud (H : Tb c B μ0 ν0) (h : RT c B μ0 ν0 μ ν a p) (hL : LRel ν0 n f L μ ν) : Sim (f_X3_readMud μ) (f_X12_readMud ν) (PL c B μ0 ν0 f) := by
  have no : ∀ {μ1 ν1 : Mem} {u : Nat}, Cw c μ0 μ1 u → Mb ν0 ν1 → ν1 264 12 = nI u → Eg ν ν1 → ∀ {o : Option Mem}, Ok o (fun μ' => Cw c μ0 μ' u) → Sim o (some (false, ν1)) (PL c B μ0 ν0 f) := fun {μ1 ν1 u} k1 k2 k3 k4 {o} k5 => Sim.fl k5 fun μ' h' => PL.no h' k2 k3 (hL.2.2.2.eg k4)
  unfold f_X3_readMud f_X12_readMud f_X3_readMud_j42
  refine S_num H h (fun v1 m1 w1 a1 p1 i1 o1 _ r1 f1 g1 _ => ?_) (fun m1 w1 h1 k1 k2 f1 g1 => ?_)
  · dsimp only
    have b1 := rng0 (h := 19) (by omega) (by decide) o1
    refine Sim.re (nI_pos (by omega)) ?_
    rw [show (8 : Int32) + nI v1 = nI (8 + v1) from nI_add 8 v1]
    refine S_rdn H r1 (by omega) (fun v2 m2 w2 a2 p2 i2 o2 r2 f2 g2 => ?_) (fun m2 w2 h2 k1 k2 f2 g2 => ?_)
    · dsimp only
      have b2 := rng0 (h := 9) (by omega) (by decide) o2
      have hL2 := hL.eg (f1.trans f2) (g1.trans g2)
      refine Sim.l (X8_right r2.1) (Sim.lt rfl (Sim.l (wr_nI (by omega) (by decide)) (Sim.d ?_)))
      have hC : CL n f (mset m2 30 v1 (nI v2)) 18 (upd2 L 12 v1 (nI v2)) := hL2.1.set (k := 12) (by decide) (by omega)
      exact PL.yes r2 (fun k hk => mset_ne (by omega)) (Ms.set rfl (by omega) (by omega)) hC (hL2.2.1.put (dmM (by omega)) (by decide) (fun q => absurd q.1 (by decide)) rfl) (hL2.2.2.1.mudU b2 rfl) hL2 (upd2_n (by omega))
    · dsimp only
      refine no h2 k1 k2 (g1.trans g2) (wR H h2 (Ok.e fnt (Ok.r h2)))
  · dsimp only
    unfold f_X12_readMud_j29 f_X12_readMud_j30
    exact Sim.rt (by decide) (no h1 k1 k2 g1 (wN H h1 fun x2 m2 h2 _ => wR H h2 (Ok.e fnt (Ok.r h2))))
theorem S_goal (H : Tb c B μ0 ν0) (h : RT c B μ0 ν0 μ ν a p) (hL : LRel ν0 n f L μ ν) : Sim (f_X3_readGoal μ) (f_X12_readGoal ν) (PL c B μ0 ν0 f) := by
  have hn := hL.1.n6
  have no : ∀ {μ1 ν1 : Mem} {u : Nat}, Cw c μ0 μ1 u → Mb ν0 ν1 → ν1 264 12 = nI u → Eg ν ν1 → ∀ {o : Option Mem}, Ok o (fun μ' => Cw c μ0 μ' u) → Sim o (some (false, ν1)) (PL c B μ0 ν0 f) := fun {μ1 ν1 u} k1 k2 k3 k4 {o} k5 => Sim.fl k5 fun μ' h' => PL.no h' k2 k3 (hL.2.2.2.eg k4)
  unfold f_X3_readGoal f_X12_readGoal f_X3_readGoal_j49
  rw [hL.1.ppl]
  refine Sim.r (X12_people hL.2.1) ?_
  refine S_num H h (fun v1 m1 w1 a1 p1 i1 o1 _ r1 f1 g1 _ => ?_) (fun m1 w1 h1 k1 k2 f1 g1 => ?_)
  · dsimp only
    have b1 := rngP (n := n) (by omega) (by omega) o1
    refine Sim.re (nI_pos (by omega)) (Sim.r (X12_atN (k := 3)) ?_)
    refine S_rdn H r1 (by omega) (fun v2 m2 w2 a2 p2 i2 o2 r2 f2 g2 => ?_) (fun m2 w2 h2 k1 k2 f2 g2 => ?_)
    · dsimp only
      have b2 := rng0 (h := 19) (by omega) (by decide) o2
      have hL2 := hL.eg (f1.trans f2) (g1.trans g2)
      refine Sim.l (X8_right r2.1) (Sim.lt rfl (Sim.l (wr_nI (by omega) (by decide)) (Sim.d ?_)))
      have hC : CL n f (mset m2 22 v1 (nI v2)) 18 (upd2 L 4 v1 (nI v2)) := hL2.1.set (k := 4) (by decide) (by omega)
      exact PL.yes r2 (fun k hk => mset_ne (by omega)) (Ms.set rfl (by omega) (by omega)) hC (hL2.2.1.putP (k := 4) (by decide) b1 rfl) (hL2.2.2.1.goal b2 rfl) hL2 (upd2_n (by omega))
    · dsimp only
      refine no h2 k1 k2 (g1.trans g2) (wR H h2 (Ok.e fnt (Ok.r h2)))
  · dsimp only
    unfold f_X12_readGoal_j34 f_X12_readGoal_j35
    exact Sim.rt (by decide) (no h1 k1 k2 g1 (wN H h1 fun x2 m2 h2 _ => wR H h2 (Ok.e fnt (Ok.r h2))))
theorem X12_ownX {x : Int32} : Ok (f_X11_ownerOf μ x) (fun _ => True) := ⟨_, rfl, trivial⟩
theorem wEnd (H : Tb c B μ0 ν0) (h : Cw c μ0 μ w) (l1 l3 l4 l5 l6 k0 : Int32) : Ok (f_X3_readPledge_j113 μ l1 l3 l4 l5 l6 k0) (fun μ' => Cw c μ0 μ' w) := by
  unfold f_X3_readPledge_j113 f_X3_readPledge_j142
  exact wR H h (Ok.e fnt (Ok.r h))
theorem S_pledge (H : Tb c B μ0 ν0) (h : RT c B μ0 ν0 μ ν a p) (hL : LRel ν0 n f L μ ν) : Sim (f_X3_readPledge μ) (f_X12_readPledge ν) (PL c B μ0 ν0 f) := by
  have hn := hL.1.n6
  have no : ∀ {μ1 ν1 : Mem} {u : Nat}, Cw c μ0 μ1 u → Mb ν0 ν1 → ν1 264 12 = nI u → Eg ν ν1 → ∀ {o : Option Mem}, Ok o (fun μ' => Cw c μ0 μ' u) → Sim o (some (false, ν1)) (PL c B μ0 ν0 f) := fun {μ1 ν1 u} k1 k2 k3 k4 {o} k5 => Sim.fl k5 fun μ' h' => PL.no h' k2 k3 (hL.2.2.2.eg k4)
  unfold f_X3_readPledge f_X12_readPledge f_X3_takeLaceInShoe f_X3_takeLaceInShoe_j58
  rw [hL.1.ppl, two_nI, Option.bind_assoc]
  refine Sim.r (X12_laces hL.2.1) ?_
  have hac := h.1.2.2.1
  refine S_num H h (fun v1 m1 w1 a1 p1 i1 o1 _ r1 f1 g1 z1 => ?_) (fun m1 w1 h1 k1 k2 f1 g1 => ?_)
  · dsimp only
    have b1 := rngP (n := 2 * n) (by omega) (by omega) o1
    have hL1 := hL.eg f1 g1
    refine Sim.re (nI_pos (by omega)) (Sim.r (X12_isIn hL1.2.1 b1) ?_)
    rw [X8_right r1.1, sb9, if_pos rfl, show rd m1 24 12 (nI v1) = some (L 6 v1) from hL1.1.rdL (k := 6) (by decide) b1, sb9]
    by_cases e6 : L 6 v1 = 0
    · rw [if_pos e6, sb9]
      refine Sim.rt (decide_eq_true e6) (Sim.r (X12_people hL1.2.1) ?_)
      dsimp only
      refine Sim.l (X11_ownerOf (by omega)) ?_
      -- to H
      refine S_need H r1 (s := 2) (s' := 54) (by decide) rfl (by decide) rfl rfl rfl (fun m2 w2 a2 p2 r2 f2 g2 => ?_) (fun m2 w2 u h2 k1 k2 f2 g2 => ?_)
      · refine S_other H r2 hn (by rw [f2 18 (by decide), f1 18 (by decide)]; exact hL.1.ppl) (fun v3 m3 w3 a3 p3 i3 n1 _ r3 f3 g3 => ?_) (fun v3 m3 w3 i3 bd h3 k1 k2 f3 g3 => ?_) (fun m3 w3 h3 k1 k2 f3 g3 => ?_)
        · dsimp only
          refine Sim.re (nI_pos (by omega)) (Sim.r (X12_ownerOf (by omega)) (Sim.re n1 ?_))
          refine S_after H r3 (s := 3) (s' := 55) (by decide) rfl (by decide) rfl rfl rfl (fun v4 m4 w4 a4 p4 i4 o4 r4 f4 g4 => ?_) (fun x m4 w4 u h4 k1 k2 f4 g4 => ?_)
          · dsimp only
            refine Sim.rt (nI_pos' (by omega)) ?_
            refine S_after H r4 (s := 4) (s' := 56) (by decide) rfl (by decide) rfl rfl rfl (fun v5 m5 w5 a5 p5 i5 o5 r5 f5 g5 => ?_) (fun x m5 w5 u h5 k1 k2 f5 g5 => ?_)
            · dsimp only
              unfold f_X12_readPledge_j82
              refine Sim.rt (nI_pos' (by omega)) ?_
              refine S_after H r5 (s := 5) (s' := 57) (by decide) rfl (by decide) rfl rfl rfl (fun v6 m6 w6 a6 p6 i6 o6 r6 f6 g6 => ?_) (fun x m6 w6 u h6 k1 k2 f6 g6 => ?_)
              · dsimp only
                unfold f_X12_readPledge_j103
                refine Sim.rt (nI_pos' (by omega)) ?_
                have F6 := ((((f1.trans f2).trans f3).trans f4).trans f5).trans f6
                have G6 := ((((g1.trans g2).trans g3).trans g4).trans g5).trans g6
                have b4 := rng1 (h := 999) (by omega) (by decide) o4
                have b5 := rng0 (h := 9) (by omega) (by decide) o5
                have b6 := rng1 (h := 999) (by omega) (by decide) o6
                have hne : v3 ≠ v1 / 2 := fun q => n1 (by rw [q])
                -- the lace is written down
                have fin : ∀ {m7 w7 : Mem} {a7 p7 : Nat} (by9 : Int32), RT c B μ0 ν0 m7 w7 a7 p7 → Ef μ m7 → Eg ν w7 → (by9 = -1 ∨ ∃ s, s < n ∧ s ≠ v1 / 2 ∧ s ≠ v3 ∧ by9 = nI s) → Sim (f_X3_readPledge_j113 m7 (nI v1) (nI v3) (nI v4) (nI v5) (nI v6) by9) (f_X12_readPledge_j159 w7 (nI v1) (nI v3) (nI v4) (nI v5) (nI v6) by9) (PL c B μ0 ν0 f) := fun {m7 w7 a7 p7} by9 r7 f7 g7 hb => by
                  have hL7 := hL.eg f7 g7
                  unfold f_X3_readPledge_j113 f_X3_readPledge_j142 f_X12_readPledge_j159
                  refine Sim.l (X8_right r7.1) (Sim.lt rfl ?_)
                  refine Sim.lo (X2_pledge hL7.1 (l := v1) (by omega) _ _ _ _ _) (fun m8 h8 => ?_)
                  refine Sim.ro (X12_tellsLace hL7.2.1 b1 1 _ _ _ _) (fun w8 k8 => ?_)
                  refine Sim.r (X12_laceAtN (k := 5)) (Sim.r (wr_nI (by omega) (by decide)) (Sim.d ?_))
                  have hM : ML n f (mset w8 265 (58 + 6 * v1 + 5) by9 265) (upd2 (rowA L v1 1 (nI v3) (nI v4) (nI v5) (nI v6) (-1)) 11 v1 by9) := k8.1.putL (k := 11) (by decide) b1 rfl
                  have eL : upd2 (rowA L v1 1 (nI v3) (nI v4) (nI v5) (nI v6) (-1)) 11 v1 by9 = rowA L v1 1 (nI v3) (nI v4) (nI v5) (nI v6) by9 := upd2_2
                  rw [eL] at hM
                  refine PL.yes r7 (fun k hk => h8.2 k (by omega)) (Ms.putE k8.2 (by omega) (by omega)) h8.1 hM (hL7.2.2.1.rowW fun _ => Or.inr (Or.inl ?_)) hL7 rfl
                  obtain ⟨q6, q7, q8, q9, q10, q11⟩ := rowA_v (L := L) (l := v1) (a := 1) (b := nI v3) (c := nI v4) (d := nI v5) (e := nI v6) (g := by9)
                  exact ⟨q6, v3, i3, hne, q7, ⟨v4, b4.1, b4.2, q8⟩, ⟨v5, b5, q9⟩, ⟨v6, by omega, q10⟩, by rw [q11]; exact hb⟩
                refine Sim.l (X8_word H r6.1 (s := 6) (by decide) rfl) (Sim.r (X12_passes H r6.2.1 r6.2.2.1 r6.2.2.2.1 r6.2.2.2.2 (s := 58) (by decide) rfl) ?_)
                rw [show isW c B 58 a6 = isW c B 6 a6 from isW_id rfl rfl]
                dsimp only
                by_cases ew : isW c B 6 a6 = true
                · rw [if_pos ew, if_pos ew, if_pos ew, if_pos ew]
                  have hle := isW_le r6.1.2.2.1 ew
                  have r7 : RT c B μ0 ν0 (mset m6 1 3 (nI (sk c B (a6 + wlen 6)))) (setPB w6 (a6 + wlen 58) a6) (sk c B (a6 + wlen 6)) (a6 + wlen 6) := ⟨r6.1.mv H hle, r6.2.1.pb, setPB_10, hle, rfl⟩
                  have G7 : Eg ν (setPB w6 (a6 + wlen 58) a6) := G6.trans egPB
                  have F7 : Ef μ (mset m6 1 3 (nI (sk c B (a6 + wlen 6)))) := F6.trans ef3
                  refine Sim.r (X12_people (hL.eg F7 G7).2.1) ?_
                  refine S_other H r7 hn (by rw [F7 18 (by decide)]; exact hL.1.ppl) (fun v8 m8 w8 a8 p8 i8 n8 u8 r8 f8 g8 => ?_) (fun v8 m8 w8 i8 bd h8 k1 k2 f8 g8 => ?_) (fun m8 w8 h8 k1 k2 f8 g8 => ?_)
                  · dsimp only
                    refine Sim.re (nI_pos (by omega)) (Sim.re u8 (Sim.r (X12_ownerOf (by omega)) (Sim.re n8 ?_)))
                    exact fin _ r8 (F7.trans f8) (G7.trans g8) (Or.inr ⟨v8, i8, fun q => n8 (by rw [q]), fun q => u8 (by rw [q]), rfl⟩)
                  · dsimp only
                    unfold f_X12_readPledge_j157
                    have d0 := no h8 k1 k2 (G7.trans g8) (wEnd H h8 (nI v1) (nI v3) (nI v4) (nI v5) (nI v6) (nI v8))
                    refine Sim.re (nI_pos (by omega)) ?_
                    by_cases z : nI v8 = nI v3
                    · exact Sim.rt z d0
                    · refine Sim.re z (Sim.r (X12_ownerOf (by omega)) (Sim.rt ?_ d0))
                      exact bd.elim id (fun q => absurd q z)
                  · dsimp only
                    unfold f_X12_readPledge_j157
                    exact Sim.rt (by decide) (no h8 k1 k2 (G7.trans g8) (wEnd H h8 _ _ _ _ _ _))
                · rw [if_neg ew, if_neg ew, if_neg ew, if_neg ew]
                  have r7 : RT c B μ0 ν0 m6 (setPB w6 a6 a6) a6 a6 := ⟨r6.1, r6.2.1.pb, setPB_10, r6.1.2.2.1, r6.1.2.2.2.2⟩
                  exact fin _ r7 F6 (G6.trans egPB) (Or.inl rfl)
              · dsimp only
                unfold f_X12_readPledge_j103
                exact Sim.re (by decide) (no h6 k1 k2 (((((g1.trans g2).trans g3).trans g4).trans g5).trans g6) (wT H h6 (Ok.e fnt (wEnd H h6 _ _ _ _ _ _))))
            · dsimp only
              unfold f_X12_readPledge_j82 f_X12_readPledge_j103
              exact Sim.re (by decide) (Sim.re (by decide) (no h5 k1 k2 ((((g1.trans g2).trans g3).trans g4).trans g5) (wWN H h5 fun x6 m6 h6 => wT H h6 (Ok.e fnt (wEnd H h6 _ _ _ _ _ _)))))
          · dsimp only
            unfold f_X12_readPledge_j82 f_X12_readPledge_j103
            exact Sim.re (by decide) (Sim.re (by decide) (Sim.re (by decide) (no h4 k1 k2 (((g1.trans g2).trans g3).trans g4) (wWN H h4 fun x5 m5 h5 => wWN H h5 fun x6 m6 h6 => wT H h6 (Ok.e fnt (wEnd H h6 _ _ _ _ _ _))))))
        · dsimp only
          unfold f_X12_readPledge_j52
          refine Sim.re (nI_pos (by omega)) (Sim.r (X12_ownerOf (by omega)) (Sim.rt (bd.elim id id) ?_))
          exact no h3 k1 k2 ((g1.trans g2).trans g3) (wWN H h3 fun x4 m4 h4 => wWN H h4 fun x5 m5 h5 => wWN H h5 fun x6 m6 h6 => wT H h6 (Ok.e fnt (wEnd H h6 _ _ _ _ _ _)))
        · dsimp only
          unfold f_X12_readPledge_j52
          exact Sim.rt (by decide) (no h3 k1 k2 ((g1.trans g2).trans g3) (wWN H h3 fun x4 m4 h4 => wWN H h4 fun x5 m5 h5 => wWN H h5 fun x6 m6 h6 => wT H h6 (Ok.e fnt (wEnd H h6 _ _ _ _ _ _))))
      · dsimp only
        unfold f_X12_readPledge_j52
        exact Sim.rt (by decide) (no h2 k1 k2 (g1.trans g2) (wO H h2 fun x3 m3 h3 => wWN H h3 fun x4 m4 h4 => wWN H h4 fun x5 m5 h5 => wWN H h5 fun x6 m6 h6 => wT H h6 (Ok.e fnt (wEnd H h6 _ _ _ _ _ _))))
    · rw [if_neg e6, h.1.2.1]
      unfold f_X12_readPledge_j24
      refine Sim.re (by simp [e6]) ?_
      have h2 := r1.1.rf hac
      refine Sim.l (bs (X8_refuse r1.1 (nI a)) rfl) ?_
      exact no h2 r1.2.1 z1 g1 (X12_ownX.b fun t _ => wW H h2 (wO H h2 fun x3 m3 h3 => wWN H h3 fun x4 m4 h4 => wWN H h4 fun x5 m5 h5 => wWN H h5 fun x6 m6 h6 => wT H h6 (Ok.e fnt (wEnd H h6 _ _ _ _ _ _))))
  · dsimp only
    unfold f_X12_readPledge_j24
    refine Sim.rt (by decide) ?_
    rw [X8_rightW H h1, sb9, if_neg fnt, sb9]
    exact no h1 k1 k2 g1 (X12_ownX.b fun t _ => wW H h1 (wO H h1 fun x3 m3 h3 => wWN H h3 fun x4 m4 h4 => wWN H h4 fun x5 m5 h5 => wWN H h5 fun x6 m6 h6 => wT H h6 (Ok.e fnt (wEnd H h6 _ _ _ _ _ _))))
end Lm
