/-! A PERSON MORE: the class -/
theorem CLd.five {D : Nat → Nat → Prop} {μ : Mem} {a n : Nat} {L : Ld} (h : CLd D μ a L) (x y z u v : Int32) : CLd (fun k i => D k i ∨ (1 ≤ k ∧ k ≤ 5 ∧ i = n)) (mset (mset (mset (mset (mset μ (a + 1) n x) (a + 2) n y) (a + 3) n z) (a + 4) n u) (a + 5) n v) a (upd2 (upd2 (upd2 (upd2 (upd2 L 1 n x) 2 n y) 3 n z) 4 n u) 5 n v) := by
  have q := ((((h.put (k := 1) (i := n) (v := x) (by decide)).put (k := 2) (i := n) (v := y) (by decide)).put (k := 3) (i := n) (v := z) (by decide)).put (k := 4) (i := n) (v := u) (by decide)).put (k := 5) (i := n) (v := v) (by decide)
  exact fun k i hd => q k i (dom5 (D := D) k i hd)
theorem CLd.six {D : Nat → Nat → Prop} {μ : Mem} {a l : Nat} {L : Ld} (h : CLd D μ a L) (x y z u v w : Int32) : CLd (fun k i => D k i ∨ (6 ≤ k ∧ k ≤ 11 ∧ i = l)) (mset (mset (mset (mset (mset (mset μ (a + 6) l x) (a + 7) l y) (a + 8) l z) (a + 9) l u) (a + 10) l v) (a + 11) l w) a (rowA L l x y z u v w) := by
  have q := (((((h.put (k := 6) (i := l) (v := x) (by decide)).put (k := 7) (i := l) (v := y) (by decide)).put (k := 8) (i := l) (v := z) (by decide)).put (k := 9) (i := l) (v := u) (by decide)).put (k := 10) (i := l) (v := v) (by decide)).put (k := 11) (i := l) (v := w) (by decide)
  exact fun k i hd => q k i (dom6 (D := D) k i hd)
theorem dmMore {n z k i : Nat} (hd : dm (n + 1) z k i) : (((dm n z k i ∨ (1 ≤ k ∧ k ≤ 5 ∧ i = n)) ∨ (6 ≤ k ∧ k ≤ 11 ∧ i = 2 * n)) ∨ (6 ≤ k ∧ k ≤ 11 ∧ i = 2 * n + 1)) ∨ (k = 0 ∧ i = 0) := by
  unfold dm at hd ⊢
  omega
theorem X2_addPerson {n : Nat} {f : Int32} {μ : Mem} {L : Ld} (h : CL n f μ 18 L) (hn : n < 6) (x y z : Int32) : Ok (f_X2_addPerson μ 18 x y z) (fun μ' => CL (n + 1) f μ' 18 (addP L n x y z) ∧ Fr (fun k => 18 ≤ k ∧ k ≤ 29) μ μ') := by
  have hp := h.ppl
  obtain ⟨g1, g2, g3, g4⟩ := h
  have q0 : CLd (fun k i => dm n (zz L) k i) μ 18 L := g1
  unfold f_X2_addPerson f_X2_letGo
  rw [hp]
  refine Ok.s (wr_nI (by omega) (by decide)) ?_
  rw [mset_ne (show 18 ≠ 18 + 1 by decide), hp]
  refine Ok.s (wr_nI (by omega) (by decide)) ?_
  rw [mset_ne (show 18 ≠ 18 + 2 by decide), mset_ne (show 18 ≠ 18 + 1 by decide), hp]
  refine Ok.s (wr_nI (by omega) (by decide)) ?_
  rw [mset_ne (show 18 ≠ 18 + 3 by decide), mset_ne (show 18 ≠ 18 + 2 by decide), mset_ne (show 18 ≠ 18 + 1 by decide), hp]
  refine Ok.s (wr_nI (by omega) (by decide)) ?_
  rw [mset_ne (show 18 ≠ 18 + 4 by decide), mset_ne (show 18 ≠ 18 + 3 by decide), mset_ne (show 18 ≠ 18 + 2 by decide), mset_ne (show 18 ≠ 18 + 1 by decide), hp]
  refine Ok.s (wr_nI (by omega) (by decide)) ?_
  have q1 := q0.five (n := n) x y z z 0
  generalize hμ1 : mset (mset (mset (mset (mset μ (18 + 1) n x) (18 + 2) n y) (18 + 3) n z) (18 + 4) n z) (18 + 5) n 0 = μ1 at q1 ⊢
  have o1 : ∀ k, k < 19 ∨ 23 < k → μ1 k = μ k := fun k hk => by rw [← hμ1, mset_ne (by omega), mset_ne (by omega), mset_ne (by omega), mset_ne (by omega), mset_ne (by omega)]
  rw [o1 18 (by decide), hp, two_nI]
  have letG : ∀ (μ2 : Mem) (l : Nat), l < 12 → (Option.bind (wr μ2 (18 + 6) 12 (nI l) 0) fun μ1 => Option.bind (wr μ1 (18 + 7) 12 (nI l) (-1)) fun μ2 => Option.bind (wr μ2 (18 + 8) 12 (nI l) 0) fun μ3 => Option.bind (wr μ3 (18 + 9) 12 (nI l) 0) fun μ4 => Option.bind (wr μ4 (18 + 10) 12 (nI l) 0) fun μ5 => Option.bind (wr μ5 (18 + 11) 12 (nI l) (-1)) fun μ6 => some μ6) = some (mset (mset (mset (mset (mset (mset μ2 (18 + 6) l 0) (18 + 7) l (-1)) (18 + 8) l 0) (18 + 9) l 0) (18 + 10) l 0) (18 + 11) l (-1)) := fun μ2 l hl => bs (wr_nI hl (by decide)) (bs (wr_nI hl (by decide)) (bs (wr_nI hl (by decide)) (bs (wr_nI hl (by decide)) (bs (wr_nI hl (by decide)) (bs (wr_nI hl (by decide)) rfl)))))
  refine Ok.s (letG μ1 (2 * n) (by omega)) ?_
  have q2 := q1.six (l := 2 * n) 0 (-1) 0 0 0 (-1)
  generalize hμ2 : mset (mset (mset (mset (mset (mset μ1 (18 + 6) (2 * n) 0) (18 + 7) (2 * n) (-1)) (18 + 8) (2 * n) 0) (18 + 9) (2 * n) 0) (18 + 10) (2 * n) 0) (18 + 11) (2 * n) (-1) = μ2 at q2 ⊢
  have o2 : ∀ k, k < 24 ∨ 29 < k → μ2 k = μ1 k := fun k hk => by rw [← hμ2, mset_ne (by omega), mset_ne (by omega), mset_ne (by omega), mset_ne (by omega), mset_ne (by omega), mset_ne (by omega)]
  rw [o2 18 (by decide), o1 18 (by decide), hp, two_nI, nI_1]
  refine Ok.s (letG μ2 (2 * n + 1) (by omega)) ?_
  have q3 := q2.six (l := 2 * n + 1) 0 (-1) 0 0 0 (-1)
  generalize hμ3 : mset (mset (mset (mset (mset (mset μ2 (18 + 6) (2 * n + 1) 0) (18 + 7) (2 * n + 1) (-1)) (18 + 8) (2 * n + 1) 0) (18 + 9) (2 * n + 1) 0) (18 + 10) (2 * n + 1) 0) (18 + 11) (2 * n + 1) (-1) = μ3 at q3 ⊢
  have o3 : ∀ k, k < 24 ∨ 29 < k → μ3 k = μ2 k := fun k hk => by rw [← hμ3, mset_ne (by omega), mset_ne (by omega), mset_ne (by omega), mset_ne (by omega), mset_ne (by omega), mset_ne (by omega)]
  rw [o3 18 (by decide), o2 18 (by decide), o1 18 (by decide), hp, nI_1]
  have q4 := q3.put (k := 0) (i := 0) (v := nI (n + 1)) (by decide)
  have oz : ∀ k, k < 18 ∨ 29 < k → mset μ3 18 0 (nI (n + 1)) k = μ k := fun k hk => by rw [mset_ne (by omega), o3 k (by omega), o2 k (by omega), o1 k (by omega)]
  have e5 : mset μ3 18 0 (nI (n + 1)) 18 5 = f := by rw [mset_atn (by decide), o3 18 (by decide), o2 18 (by decide), o1 18 (by decide)]; exact g3
  have e13 : ∃ x, x < 60 ∧ mset μ3 18 0 (nI (n + 1)) (18 + 13) 1 = nI x := by rw [oz 31 (by decide)]; exact g4
  have sz : SzW (n + 1) (addP L n x y z) := ⟨by omega, addP_p.2.2.2.2.2, g2.2.2.1, g2.2.2.2⟩
  exact Ok.r ⟨⟨fun k i hd => q4 k i (dmMore hd), sz, e5, e13⟩, fun k hk => oz k (by omega)⟩
