/-! THE LAW'S TEXT: lines -/
def LN (T : Tx) (μ ν : Mem) : Prop := (μ 56 1 = nI (T 1 0) ∧ T 1 0 ≤ 12) ∧ ∀ i, i < T 1 0 → (μ 57 i = nI (T 2 i) ∧ μ 58 i = nI (T 3 i) ∧ μ 59 i = nI (T 4 i) ∧ μ 60 i = nI (T 5 i)) ∧ (ν 265 (1220 + 4 * i) = nI (T 2 i) ∧ ν 265 (1220 + 4 * i + 1) = nI (T 3 i) ∧ ν 265 (1220 + 4 * i + 2) = nI (T 4 i) ∧ ν 265 (1220 + 4 * i + 3) = nI (T 5 i)) ∧ T 2 i ≤ 2 ∧ T 3 i ≤ 99 ∧ T 4 i ≤ T 5 i ∧ T 5 i ≤ T 7 0 ∧ (tyA (T 6) (T 4 i) [] (T 5 i - T 4 i) = some [] ∨ tyA (T 6) (T 4 i) [] (T 5 i - T 4 i) = some [true])
theorem LN.efl {T : Tx} {μ ν μ' ν' : Mem} (h : LN T μ ν) (e : EfL μ μ') (g : EgL ν ν') : LN T μ' ν' := by
  obtain ⟨⟨h1, h2⟩, h3⟩ := h
  refine ⟨⟨by rw [e.2 1 (by decide)]; exact h1, h2⟩, fun i hi => ?_⟩
  rw [e.1 57 (by decide) (by decide) (by decide), e.1 58 (by decide) (by decide) (by decide), e.1 59 (by decide) (by decide) (by decide), e.1 60 (by decide) (by decide) (by decide), g.2 _ (by omega), g.2 _ (by omega), g.2 _ (by omega), g.2 _ (by omega)]
  exact h3 i hi
def nxT (T : Tx) (κ m e : Nat) (st : Nat → Nat) : Tx := fun x i => if x = 1 then T 1 0 + 1 else if x = 2 then su (T 2) (T 1 0) κ i else if x = 3 then su (T 3) (T 1 0) m i else if x = 4 then su (T 4) (T 1 0) (T 7 0) i else if x = 5 then su (T 5) (T 1 0) e i else if x = 6 then st i else if x = 7 then e else T x i
/-- both, at the begin of a line -/
def LLn (c : Nat) (B : Nat → Nat) (μ0 ν0 : Mem) (T : Tx) (μ ν : Mem) (a p : Nat) : Prop := RT c B μ0 ν0 μ ν a p ∧ LN T μ ν ∧ Em (T 6) (T 7 0) μ ν ∧ K12 ν0 ν ∧ T 7 0 ≤ a
def PW (c : Nat) (B : Nat → Nat) (μ0 ν0 : Mem) (n : Nat) (μ' : Mem) (q : Bool × Mem) : Prop := (q.1 = true ∧ ∃ T a p, LLn c B μ0 ν0 T μ' q.2 a p ∧ T 1 0 = n) ∨ (q.1 = false ∧ ∃ w, Cq c μ0 μ' w ∧ Mb ν0 q.2 ∧ q.2 264 12 = nI w ∧ K12 ν0 q.2)
section Lx
variable {α β : Type} {c : Nat} {B : Nat → Nat} {μ0 ν0 μ ν μ' ν' : Mem} {a p w j : Nat} {T : Tx} {P : α → β → Prop}
theorem Cb.set {i b : Nat} {v : Int32} (h : Cb μ0 μ) (hb : 56 ≤ b ∧ b ≤ 61) : Cb μ0 (mset μ b i v) := ⟨fun k hk => by rw [mset_ne (by unfold cS at hk; omega)]; exact h.1 k hk, fun x h3 h4 => by rw [mset_ne (by omega)]; exact h.2 x h3 h4⟩
theorem Cw.set {i b : Nat} {v : Int32} (h : Cw c μ0 μ w) (hb : 56 ≤ b ∧ b ≤ 61) : Cw c μ0 (mset μ b i v) w := by
  obtain ⟨h1, ⟨a, h3, h4⟩, h5, h6⟩ := h
  exact ⟨h1.set hb, ⟨a, h3, by rw [mset_ne (by omega)]; exact h4⟩, by rw [mset_ne (by omega)]; exact h5, h6⟩
theorem q_open (h : Cq c μ0 μ w) {x y : Int32} {kc : Mem → Option α} {Q : α → Prop} (g : ∀ μ', Cq c μ0 μ' w → Ok (kc μ') Q) : Ok (Option.bind (f_X4_openLine μ 56 x y) kc) Q := by
  obtain ⟨h1, h2, l, hl, e⟩ := h
  unfold f_X4_openLine f_X4_openLine_j42
  rw [e]
  by_cases q : l < 12
  · rw [if_neg (show ¬ (12 : Int32) ≤ nI l from nI_ge (b := 12) q (by decide))]
    have e1 : mset μ (56 + 1) l x 56 1 = nI l := by rw [mset_ne (by decide)]; exact e
    have e2 : mset (mset μ (56 + 1) l x) (56 + 2) l y 56 1 = nI l := by rw [mset_ne (by decide), mset_ne (by decide)]; exact e
    refine Ok.s (bs (wr_nI q (by decide)) (bs (by rw [e1]; exact wr_nI q (by decide)) (bs (by rw [e2]; exact wr_nI q (by decide)) rfl))) (g _ ⟨((h1.set (by decide)).set (by decide)).set (by decide), ?_, l, hl, ?_⟩)
    · obtain ⟨x2, hx2, ex2⟩ := h2
      exact ⟨x2, hx2, by rw [mset_ne (by decide), mset_ne (by decide), mset_ne (by decide)]; exact ex2⟩
    · rw [mset_ne (by decide), mset_ne (by decide), mset_ne (by decide)]; exact e
  · rw [if_pos (show (12 : Int32) ≤ nI l from nI_le (a := 12) (by omega) (by omega))]
    exact Ok.s rfl (g μ ⟨h1, h2, l, hl, e⟩)
theorem q_close (h : Cq c μ0 μ w) : Ok (f_X5_readLine_j42 μ) (fun μ' => Cq c μ0 μ' w) := by
  obtain ⟨h1, h2, l, hl, e⟩ := h
  unfold f_X5_readLine_j42 f_X4_closeLine f_X4_closeLine_j32
  rw [e]
  by_cases q : l < 12
  · rw [if_neg (show ¬ (12 : Int32) ≤ nI l from nI_ge (b := 12) q (by decide))]
    have e1 : mset μ (56 + 4) l (μ 56 2) 56 1 = nI l := by rw [mset_ne (by decide)]; exact e
    refine Ok.s (bs (wr_nI q (by decide)) rfl) (Ok.r ⟨(h1.set (by decide)).set (by decide), ?_, l + 1, by omega, ?_⟩)
    · obtain ⟨x2, hx2, ex2⟩ := h2
      exact ⟨x2, hx2, by rw [mset_atn (by decide), mset_ne (by decide)]; exact ex2⟩
    · rw [mset_at, e1, nI_1]
  · rw [if_pos (show (12 : Int32) ≤ nI l from nI_le (a := 12) (by omega) (by omega))]
    exact Ok.s rfl (Ok.r ⟨h1, h2, l, hl, e⟩)
theorem ix_L {j : Nat} : (1220 : Int32) + 4 * nI j = nI (1220 + 4 * j) := by
  rw [show (1220 : Int32) = nI 1220 from rfl, show (4 : Int32) = nI 4 from rfl, pk_mul, nI_add]
theorem eg65 {j : Nat} {v : Int32} (h : 1219 ≤ j) (hK : K12 ν0 ν) : K12 ν0 (mset ν 265 j v) := fun i hi => by rw [mset_atn (by omega)]; exact hK i hi
theorem mb65 {j : Nat} {v : Int32} (h : Mb ν0 ν) : Mb ν0 (mset ν 265 j v) := ⟨fun b h1 h2 => by rw [mset_ne h2]; exact h.1 b h1 h2, fun i h1 h2 h3 h4 => by rw [mset_ne (by decide)]; exact h.2 i h1 h2 h3 h4⟩
/-- the line is closed by both -/
theorem S_close (H : Tb c B μ0 ν0) {st : Nat → Nat} {k κ m : Nat} (hj : j < 12) (hT : T 1 0 = j) (h : LSt c B μ0 ν0 st k 0 μ ν a p) (hl : LN T μ ν) (hs : ∀ i, i < T 7 0 → st i = T 6 i) (hk : T 7 0 ≤ k) (hka : k ≤ a) (hy : tyA st (T 7 0) [] (k - T 7 0) = some [] ∨ tyA st (T 7 0) [] (k - T 7 0) = some [true]) (hκ : κ ≤ 2) (hm : m ≤ 99) (n57 : μ 57 j = nI κ) (n58 : μ 58 j = nI m) (n59 : μ 59 j = nI (T 7 0)) (m0 : ν 265 (1220 + 4 * j) = nI κ) (m1 : ν 265 (1220 + 4 * j + 1) = nI m) (m2 : ν 265 (1220 + 4 * j + 2) = nI (T 7 0)) : Sim (f_X5_readLine_j42 μ) (f_X12_readLawLine_j128 ν (nI (1220 + 4 * j))) (PW c B μ0 ν0 (j + 1)) := by
  obtain ⟨hR, ⟨e1, e2, e3, e4⟩, h13, hK, -⟩ := h
  obtain ⟨⟨l1, l2⟩, l3⟩ := hl
  rw [hT] at l1
  unfold f_X5_readLine_j42 f_X4_closeLine f_X4_closeLine_j32 f_X12_readLawLine_j128
  rw [l1, if_neg (show ¬ (12 : Int32) ≤ nI j from nI_ge (b := 12) hj (by decide)), e1, e2, show nI (1220 + 4 * j) + 3 = nI (1220 + 4 * j + 3) from nI_add _ 3]
  have o1 : mset μ (56 + 4) j (nI k) 56 1 = nI j := by rw [mset_ne (by decide)]; exact l1
  refine Sim.l (bs (wr_nI hj (by decide)) rfl) (Sim.r (wr_nI (by omega) (by decide)) (Sim.d ?_))
  rw [o1, nI_1]
  generalize hμf : mset (mset μ (56 + 4) j (nI k)) 56 1 (nI (j + 1)) = μf
  have a1 : μf 1 = μ 1 := by rw [← hμf, mset_ne (by decide), mset_ne (by decide)]
  have ao : ∀ b, b ≠ 60 → b ≠ 56 → μf b = μ b := fun b h1 h2 => by rw [← hμf, mset_ne h2, mset_ne h1]
  have a60 : ∀ i, i ≠ j → μf 60 i = μ 60 i := fun i hi => by rw [← hμf, mset_ne (by decide), mset_atn hi]
  have a60j : μf 60 j = nI k := by rw [← hμf, mset_ne (by decide)]; exact mset_at
  have a56 : μf 56 1 = nI (j + 1) := by rw [← hμf, mset_at]
  have a562 : μf 56 2 = nI k := by rw [← hμf, mset_atn (by decide), mset_ne (by decide)]; exact e1
  have hRf : RT c B μ0 ν0 μf (mset ν 265 (1220 + 4 * j + 3) (nI k)) a p := by
    obtain ⟨⟨⟨r1, r2⟩, r3, r4, r5, r6⟩, q1, q2, q3, q4⟩ := hR
    refine ⟨⟨⟨fun b hb => ?_, fun i i3 i4 => by rw [a1]; exact r2 i i3 i4⟩, by rw [a1]; exact r3, r4, by rw [a1]; exact r5, r6⟩, mb65 q1, by rw [mset_ne (by decide)]; exact q2, q3, q4⟩
    rw [ao b (by unfold cS at hb; omega) (by unfold cS at hb; omega)]
    exact r1 b hb
  have hEm : Em st k μf (mset ν 265 (1220 + 4 * j + 3) (nI k)) := ⟨a562, by rw [mset_ne (by decide)]; exact e2, fun i hi => by rw [ao 61 (by decide) (by decide)]; exact e3 i hi, fun i hi => ⟨by rw [mset_atn (by omega)]; exact (e4 i hi).1, by rw [mset_atn (by omega)]; exact (e4 i hi).2⟩⟩
  refine Or.inl ⟨rfl, nxT T κ m k st, a, p, ⟨hRf, ⟨⟨?_, ?_⟩, fun i hi => ?_⟩, hEm, eg65 (by omega) hK, hka⟩, ?_⟩
  · show μf 56 1 = nI (T 1 0 + 1)
    rw [a56, hT]
  · show T 1 0 + 1 ≤ 12
    omega
  · have hi' : i < T 1 0 + 1 := hi
    rw [ao 57 (by decide) (by decide), ao 58 (by decide) (by decide), ao 59 (by decide) (by decide)]
    show (μ 57 i = nI (su (T 2) (T 1 0) κ i) ∧ μ 58 i = nI (su (T 3) (T 1 0) m i) ∧ μ 59 i = nI (su (T 4) (T 1 0) (T 7 0) i) ∧ μf 60 i = nI (su (T 5) (T 1 0) k i)) ∧ (mset ν 265 (1220 + 4 * j + 3) (nI k) 265 (1220 + 4 * i) = nI (su (T 2) (T 1 0) κ i) ∧ mset ν 265 (1220 + 4 * j + 3) (nI k) 265 (1220 + 4 * i + 1) = nI (su (T 3) (T 1 0) m i) ∧ mset ν 265 (1220 + 4 * j + 3) (nI k) 265 (1220 + 4 * i + 2) = nI (su (T 4) (T 1 0) (T 7 0) i) ∧ mset ν 265 (1220 + 4 * j + 3) (nI k) 265 (1220 + 4 * i + 3) = nI (su (T 5) (T 1 0) k i)) ∧ su (T 2) (T 1 0) κ i ≤ 2 ∧ su (T 3) (T 1 0) m i ≤ 99 ∧ su (T 4) (T 1 0) (T 7 0) i ≤ su (T 5) (T 1 0) k i ∧ su (T 5) (T 1 0) k i ≤ k ∧ (tyA st (su (T 4) (T 1 0) (T 7 0) i) [] (su (T 5) (T 1 0) k i - su (T 4) (T 1 0) (T 7 0) i) = some [] ∨ tyA st (su (T 4) (T 1 0) (T 7 0) i) [] (su (T 5) (T 1 0) k i - su (T 4) (T 1 0) (T 7 0) i) = some [true])
    by_cases ei : i = T 1 0
    · rw [ei, su_at, su_at, su_at, su_at, hT, mset_atn (by omega), mset_atn (by omega), mset_atn (by omega), mset_at, a60j]
      exact ⟨⟨n57, n58, n59, rfl⟩, ⟨m0, m1, m2, rfl⟩, hκ, hm, hk, Nat.le_refl _, hy⟩
    · rw [su_n ei, su_n ei, su_n ei, su_n ei, mset_atn (by omega), mset_atn (by omega), mset_atn (by omega), mset_atn (by omega), a60 i (by omega)]
      obtain ⟨p1, p2, p3, p4, p5, p6, p7⟩ := l3 i (by omega)
      refine ⟨p1, p2, p3, p4, p5, by omega, ?_⟩
      rw [tyA_congr (st' := T 6) _ (fun x h1 h2 => hs x (by omega))]
      exact p7
  · show T 1 0 + 1 = j + 1
    rw [hT]
/-- from the kind on -/
theorem S_lawrest (H : Tb c B μ0 ν0) (hj : j < 12) (hT : T 1 0 = j) (h : LLn c B μ0 ν0 T μ ν a p) {κ : Nat} (hκ : κ ≤ 2) : Sim (Option.bind (f_X8_takeNumber μ 0 99) fun q2 => Option.bind (f_X4_openLine q2.2 56 (nI κ) q2.1) fun q3 => Option.bind (f_X8_takesWord q3 28) fun q4 => if q4.1 = true then Option.bind (f_X5_readAny (f_X5_readAtom 8) q4.2 0) fun q5 => f_X5_readLine_j42 q5 else f_X5_readLine_j42 q4.2) (f_X12_readLawLine_j53 ν (nI (1220 + 4 * j)) (nI (1220 + 4 * j)) (nI κ)) (PW c B μ0 ν0 (j + 1)) := by
  have hc := H.le4
  obtain ⟨hR, hl, hE, hK, h7a⟩ := h
  have hac := hR.1.2.2.1
  unfold f_X12_readLawLine_j53
  refine Sim.r (wr_nI (by omega) (by decide)) (Sim.r (b := nI κ) (by rw [rd_nI (by omega) (by decide), mset_at]) (Sim.rt (nI_pos' (by omega)) ?_))
  have hR1 : RT c B μ0 ν0 μ (mset ν 265 (1220 + 4 * j) (nI κ)) a p := ⟨hR.1, mb65 hR.2.1, by rw [mset_ne (by decide)]; exact hR.2.2.1, hR.2.2.2.1, hR.2.2.2.2⟩
  refine S_num H hR1 (fun v m1 w1 a1 p1 i1 o1 ha1 r1 f1 g1 _ => ?_) (fun m1 w1 h1 k1 k2 f1 g1 => ?_)
  · dsimp only
    have hv := rng0 (h := 99) (by omega) (by decide) o1
    have hac1 := r1.1.2.2.1
    have l1 : m1 56 1 = nI j := by rw [f1 56 (by decide), ← hT]; exact hl.1.1
    have s1 : m1 56 2 = nI (T 7 0) := by rw [f1 56 (by decide)]; exact hE.1
    -- the class opens the line
    have eo : f_X4_openLine m1 56 (nI κ) (nI v) = some (mset (mset (mset m1 (56 + 1) j (nI κ)) (56 + 2) j (nI v)) (56 + 3) j (nI (T 7 0))) := by
      unfold f_X4_openLine f_X4_openLine_j42
      rw [l1, if_neg (show ¬ (12 : Int32) ≤ nI j from nI_ge (b := 12) hj (by decide))]
      have e1 : mset m1 (56 + 1) j (nI κ) 56 1 = nI j := by rw [mset_ne (by decide)]; exact l1
      have e2 : mset (mset m1 (56 + 1) j (nI κ)) (56 + 2) j (nI v) 56 1 = nI j := by rw [mset_ne (by decide), mset_ne (by decide)]; exact l1
      have e3 : mset (mset m1 (56 + 1) j (nI κ)) (56 + 2) j (nI v) 56 2 = nI (T 7 0) := by rw [mset_ne (by decide), mset_ne (by decide)]; exact s1
      refine bs (wr_nI hj (by decide)) (bs (by rw [e1]; exact wr_nI hj (by decide)) (bs (by rw [e2, e3]; exact wr_nI hj (by decide)) rfl))
    refine Sim.l eo ?_
    -- the model
    rw [show nI (1220 + 4 * j) + 1 = nI (1220 + 4 * j + 1) from nI_1 _, show nI (1220 + 4 * j) + 2 = nI (1220 + 4 * j + 2) from nI_add _ 2]
    have w16 : mset w1 265 (1220 + 4 * j + 1) (nI v) 264 16 = nI (T 7 0) := by rw [mset_ne (by decide), g1.2 16 (by decide) (by decide), mset_ne (by decide)]; exact hE.2.1
    refine Sim.r (wr_nI (by omega) (by decide)) (Sim.r (b := nI v) (by rw [rd_nI (by omega) (by decide), mset_at]) (Sim.rt (nI_pos' (by omega)) ?_))
    rw [w16]
    refine Sim.r (wr_nI (by omega) (by decide)) ?_
    generalize hm3 : mset (mset (mset m1 (56 + 1) j (nI κ)) (56 + 2) j (nI v)) (56 + 3) j (nI (T 7 0)) = m3
    generalize hw3 : mset (mset (mset w1 265 (1220 + 4 * j + 1) (nI v)) 265 (1220 + 4 * j + 2) (nI (T 7 0))) 264 13 0 = w3
    have x56 : m3 56 = m1 56 := by rw [← hm3, mset_ne (by decide), mset_ne (by decide), mset_ne (by decide)]
    have xo : ∀ b, b ≠ 57 → b ≠ 58 → b ≠ 59 → m3 b = m1 b := fun b h1 h2 h3 => by rw [← hm3, mset_ne h3, mset_ne h2, mset_ne h1]
    have x57 : m3 57 j = nI κ := by rw [← hm3, mset_ne (by decide), mset_ne (by decide)]; exact mset_at
    have x58 : m3 58 j = nI v := by rw [← hm3, mset_ne (by decide)]; exact mset_at
    have x59 : m3 59 j = nI (T 7 0) := by rw [← hm3]; exact mset_at
    have xi : ∀ b i, i ≠ j → m3 b i = m1 b i := fun b i hi => by
      rw [← hm3]
      by_cases q1 : b = 56 + 3
      · subst q1; rw [mset_atn hi, mset_ne (by decide), mset_ne (by decide)]
      · rw [mset_ne q1]
        by_cases q2 : b = 56 + 2
        · subst q2; rw [mset_atn hi, mset_ne (by decide)]
        · rw [mset_ne q2]
          by_cases q3 : b = 56 + 1
          · subst q3; rw [mset_atn hi]
          · rw [mset_ne q3]
    have y64 : ∀ i, i ≠ 13 → w3 264 i = w1 264 i := fun i hi => by rw [← hw3, mset_atn hi, mset_ne (by decide), mset_ne (by decide)]
    have y13 : w3 264 13 = 0 := by rw [← hw3, mset_at]
    have yo : ∀ b, b ≠ 264 → b ≠ 265 → w3 b = w1 b := fun b h1 h2 => by rw [← hw3, mset_ne h1, mset_ne h2, mset_ne h2]
    have y65 : ∀ i, i ≠ 1220 + 4 * j + 1 → i ≠ 1220 + 4 * j + 2 → w3 265 i = w1 265 i := fun i h1 h2 => by rw [← hw3, mset_ne (by decide), mset_atn h2, mset_atn h1]
    have y1 : w3 265 (1220 + 4 * j + 1) = nI v := by rw [← hw3, mset_ne (by decide), mset_atn (by omega), mset_at]
    have y2 : w3 265 (1220 + 4 * j + 2) = nI (T 7 0) := by rw [← hw3, mset_ne (by decide), mset_at]
    have z65 : ∀ i, i ≠ 1220 + 4 * j → w1 265 i = ν 265 i := fun i hi => by rw [g1.1 265 (by decide), mset_atn hi]
    have y0 : w3 265 (1220 + 4 * j) = nI κ := by rw [y65 _ (by omega) (by omega), g1.1 265 (by decide), mset_at]
    have hM3 : Mb ν0 w3 := ⟨fun b h1 h2 => by rw [yo b h1 h2]; exact r1.2.1.1 b h1 h2, fun i h1 h2 h3 h4 => by rw [y64 i h3]; exact r1.2.1.2 i h1 h2 h3 h4⟩
    have hC3 : Cr c B μ0 m3 a1 := by
      obtain ⟨⟨q1, q2⟩, q3, q4, q5, q6⟩ := r1.1
      refine ⟨⟨fun b hb => ?_, fun i i3 i4 => by rw [xo 1 (by decide) (by decide) (by decide)]; exact q2 i i3 i4⟩, by rw [xo 1 (by decide) (by decide) (by decide)]; exact q3, q4, by rw [xo 1 (by decide) (by decide) (by decide)]; exact q5, q6⟩
      rw [xo b (by unfold cS at hb; omega) (by unfold cS at hb; omega) (by unfold cS at hb; omega)]
      exact q1 b hb
    have hR3 : RT c B μ0 ν0 m3 w3 a1 p1 := ⟨hC3, hM3, by rw [y64 10 (by decide)]; exact r1.2.2.1, r1.2.2.2.1, r1.2.2.2.2⟩
    have hK3 : K12 ν0 w3 := fun i hi => by rw [y65 i (by omega) (by omega), z65 i (by omega)]; exact hK i hi
    have hE3 : Em (T 6) (T 7 0) m3 w3 := by
      obtain ⟨q1, q2, q3, q4⟩ := hE
      refine ⟨by rw [x56]; exact s1, by rw [y64 16 (by decide), g1.2 16 (by decide) (by decide), mset_ne (by decide)]; exact q2, fun i hi => by rw [xo 61 (by decide) (by decide) (by decide), f1 61 (by decide)]; exact q3 i hi, fun i hi => ?_⟩
      rw [y65 _ (by omega) (by omega), y65 _ (by omega) (by omega), z65 _ (by omega), z65 _ (by omega)]
      exact q4 i hi
    have hl3 : LN T m3 w3 := by
      obtain ⟨⟨q1, q2⟩, q3⟩ := hl
      refine ⟨⟨by rw [x56, l1, hT], q2⟩, fun i hi => ?_⟩
      rw [xi 57 i (by omega), xi 58 i (by omega), xi 59 i (by omega), xi 60 i (by omega), f1 57 (by decide), f1 58 (by decide), f1 59 (by decide), f1 60 (by decide), y65 _ (by omega) (by omega), y65 _ (by omega) (by omega), y65 _ (by omega) (by omega), y65 _ (by omega) (by omega), z65 _ (by omega), z65 _ (by omega), z65 _ (by omega), z65 _ (by omega)]
      exact q3 i hi
    have hLS : LSt c B μ0 ν0 (T 6) (T 7 0) 0 m3 w3 a1 p1 := ⟨hR3, hE3, y13, hK3, j, by omega, by rw [x56]; exact l1⟩
    have hp := X12_passes H hR3.2.1 hR3.2.2.1 hR3.2.2.2.1 hR3.2.2.2.2 (s := 78) (by decide) rfl
    rw [isW_id (s := 78) (s' := 28) rfl rfl] at hp
    refine Sim.l (X8_word H hC3 (s := 28) (by decide) rfl) (Sim.r hp ?_)
    dsimp only
    by_cases ei : isW c B 28 a1 = true
    · rw [if_pos ei, if_pos ei, if_pos ei, if_pos ei]
      have hle := isW_le hac1 ei
      have w28 : wlen 28 = 2 := rfl
      have hsk := sk_ge (c := c) (B := B) (i := a1 + wlen 28)
      have r4 : RT c B μ0 ν0 (mset m3 1 3 (nI (sk c B (a1 + wlen 28)))) (setPB w3 (a1 + wlen 78) a1) (sk c B (a1 + wlen 28)) (a1 + wlen 28) := ⟨hC3.mv H hle, hM3.pb, setPB_10, hle, rfl⟩
      have hL4 := hLS.tok r4 ef3 egPB
      refine (S_any H (S_atom H 8 0 (by decide) (by decide)) (ts := []) (by decide) hL4 (by omega)).b fun m5 q5 hq5 => ?_
      obtain ⟨b5, w5⟩ := q5
      rcases hq5 with ⟨rfl, st5, k5, a5, p5, hL5, hs5, ht5, hk5, e5, g5⟩ | ⟨rfl, w, hW, q1, q2, q3⟩
      · dsimp only at hL5 g5 ⊢
        rw [if_pos rfl]
        have E5 : EfL m3 m5 := ef3.L.trans e5
        have G5 : EgL w3 w5 := egPB.L.trans g5
        refine S_close H hj hT hL5 (hl3.efl E5 G5) hs5 ht5.1 (by omega) (Or.inr ht5.2) hκ hv ?_ ?_ ?_ ?_ ?_ ?_
        · rw [E5.1 57 (by decide) (by decide) (by decide)]; exact x57
        · rw [E5.1 58 (by decide) (by decide) (by decide)]; exact x58
        · rw [E5.1 59 (by decide) (by decide) (by decide)]; exact x59
        · rw [G5.2 _ (by omega)]; exact y0
        · rw [G5.2 _ (by omega)]; exact y1
        · rw [G5.2 _ (by omega)]; exact y2
      · dsimp only at q1 q2 q3 ⊢
        rw [if_neg fnt]
        exact Sim.fl (q_close hW) (fun m6 hm => Or.inr ⟨rfl, w, hm, q1, q2, q3⟩)
    · rw [if_neg ei, if_neg ei, if_neg ei, if_neg ei]
      have rB : RT c B μ0 ν0 m3 (setPB w3 a1 a1) a1 a1 := ⟨hC3, hM3.pb, setPB_10, hac1, hC3.2.2.2.2⟩
      have hL4 := hLS.tok rB Ef.refl egPB
      have G4 : EgL w3 (setPB w3 a1 a1) := egPB.L
      refine S_close H hj hT hL4 (hl3.efl EfL.refl G4) (fun i hi => rfl) (Nat.le_refl _) (by omega) (Or.inl (by rw [Nat.sub_self]; rfl)) hκ hv x57 x58 x59 ?_ ?_ ?_
      · rw [G4.2 _ (by omega)]; exact y0
      · rw [G4.2 _ (by omega)]; exact y1
      · rw [G4.2 _ (by omega)]; exact y2
  · dsimp only
    have hq : Cq c μ0 m1 a := by
      refine ⟨h1, ⟨T 7 0, by omega, ?_⟩, T 1 0, hl.1.2, ?_⟩
      · rw [f1 56 (by decide)]; exact hE.1
      · rw [f1 56 (by decide)]; exact hl.1.1
    rw [show nI (1220 + 4 * j) + 1 = nI (1220 + 4 * j + 1) from nI_1 _]
    refine Sim.r (wr_nI (by omega) (by decide)) (Sim.r (b := -1) (by rw [rd_nI (by omega) (by decide), mset_at]) (Sim.re (by decide) ?_))
    refine Sim.fl (q_open hq fun m2 h2 => qT H h2 (Ok.e fnt (q_close h2))) (fun m6 hm => Or.inr ⟨rfl, a, hm, mb65 k1, ?_, eg65 (by omega) (fun i hi => ?_)⟩)
    · show mset w1 265 (1220 + 4 * j + 1) (-1) 264 12 = nI a
      rw [mset_ne (by decide)]; exact k2
    · rw [g1.1 265 (by decide), mset_atn (by omega)]; exact hK i hi
end Lx
