/-! CARRY: who comes when, for all -/
section Cz
variable {n : Nat} {f : Int32} {μ : Mem} {L : Ld} {T : Tx} {a : Nat} {D : Nat → Nat → Nat} {B : Nat → Nat}
theorem X11_daysF (h : St n f L T μ) {p q : Nat} (hp : p < n) (hq : q ≤ 19) : Ok (f_X11_daysTo μ (nI p) (nI q)) (fun r => r.1 = comC (comeO T n L p q) ∧ Fr (sD 18) μ r.2) := by
  have hn := h.n6
  unfold f_X11_daysTo
  refine (X2_copyFrom h.c dis18).b fun ν hv => ?_
  refine Ok.s (wr_nI (by omega) (by decide)) ?_
  have hC0 : CL n f (mset ν 22 p (nI q)) 18 (upd2 L 4 p (nI q)) := hv.1.set (k := 4) (by decide) (by omega)
  have hw0 : WF n (upd2 L 4 p (nI q)) := hw_goal h.w hq
  have hK0 : Fr (sD 18) μ (mset ν 22 p (nI q)) := (hv.2.mono fun k hk => Or.inl hk).put (Or.inl (by unfold sA; omega))
  unfold f_X11_daysTo_l23
  refine Ok.loop (fun j z => z.1 = nI j ∧ (∃ g, CL n g z.2 18 (daysA false T n (upd2 L 4 p (nI q)) j).1) ∧ Fr (sD 18) μ z.2 ∧ comeO T n L p q = firstN (hereP T n L p q) (61 - j) j) (fun t => match t with | .inl ν => comeO T n L p q = none ∧ Fr (sD 18) μ ν | .inr r => r.1 = comC (comeO T n L p q) ∧ Fr (sD 18) μ r.2) 61 (by decide) ⟨rfl, ⟨_, hC0⟩, hK0, rfl⟩ (fun j z hj hI => ?_) (fun t ht => ?_)
  · obtain ⟨c, ν⟩ := z
    obtain ⟨e1, ⟨g, hC⟩, hK, hr⟩ := hI
    dsimp only at e1 hC hK hr
    subst e1
    show Ok (f_X11_daysTo_b23 ν (nI p) (nI q) (nI j)) _
    unfold f_X11_daysTo_b23
    by_cases hc : j = 61
    · subst hc
      exact Ok.t (by decide) (Ok.d ⟨hr, hK⟩)
    · refine Ok.e (nI_nlt (a := 60) (by omega) (by decide)) ?_
      refine Ok.s (hC.rdP (k := 3) (by decide) hp) ?_
      rw [show 61 - j = (61 - (j + 1)) + 1 by omega] at hr
      by_cases d : (daysA false T n (upd2 L 4 p (nI q)) j).1 3 p = nI q
      · refine Ok.t d (Ok.d ⟨?_, hK⟩)
        rw [hr, first_t (decide_eq_true d)]
        rfl
      · refine Ok.e d ?_
        rw [first_f (by unfold hereP; simp [d])] at hr
        have hwj : WF n (daysA false T n (upd2 L 4 p (nI q)) j).1 := hw0.days hn h.wt j
        refine (X2_liveOn hC hwj (by decide) (h.lc.fr fun j hj => hK _ (by unfold sD sA s5; omega)) h.wt false (k := 1) (by decide)).b fun r hv2 => ?_
        exact Ok.c (by omega) ⟨nI_1 _, ⟨_, hv2.2.1⟩, hK.trans hv2.2.2, hr⟩
  · cases t with
    | inl ν =>
      refine Ok.r ⟨?_, ht.2⟩
      rw [ht.1]; rfl
    | inr r => exact Ok.r ht
def sY (k : Nat) : Prop := sD 18 k ∨ k = 260
theorem St.sy (h : St n f L T μ) {ν : Mem} (hF : Fr sY μ ν) : St n f L T ν := h.kc (hF.mono fun k hk => by
  rcases hk with q | q
  · exact kcD q
  · unfold scC; omega)
/-- all are told -/
theorem X11_tell (h : St n f L T μ) (hB : ∀ i, i < n → μ 2 i = nI (B i) ∧ B i ≤ 19) (p1 : Int32) {Q : (Nat × Mem) ⊕ (Int32 × Mem) → Prop} (k : ∀ ν, ND ν n (cstA T n L B) → Fr sY μ ν → Ok (f_X11_carry_j102 ν p1) Q) : Ok (f_X11_carry_l39 μ p1 0) Q := by
  have hn := h.n6
  unfold f_X11_carry_l39
  refine Ok.loop (fun j z => z.1 = nI j ∧ Fr sY μ z.2 ∧ ∀ p, p < j → ∀ k, k < n → z.2 260 (6 * p + k) = nI (cstA T n L B p k)) (fun ν => ND ν n (cstA T n L B) ∧ Fr sY μ ν) n (by omega) ⟨rfl, Fr.refl, fun p hp => absurd hp (by omega)⟩ (fun j z hj hI => ?_) (fun ν hν => k ν hν.1 hν.2)
  obtain ⟨x, ν⟩ := z
  obtain ⟨e1, hF, hN⟩ := hI
  dsimp only at e1 hF hN
  subst e1
  show Ok (f_X11_carry_b39 ν p1 (nI j)) _
  have hS := h.sy hF
  unfold f_X11_carry_b39
  by_cases hc : j = n
  · subst hc
    exact Ok.t hS.c.ge1 (Ok.d ⟨hN, hF⟩)
  · have hj2 : j < n := by omega
    refine Ok.e (hS.c.lt1 hj2) ?_
    unfold f_X11_carry_l53
    refine Ok.loop (fun i z => z.1 = nI i ∧ Fr sY μ z.2 ∧ (∀ p, p < j → ∀ k, k < n → z.2 260 (6 * p + k) = nI (cstA T n L B p k)) ∧ ∀ k, k < i → z.2 260 (6 * j + k) = nI (cstA T n L B j k)) (fun ν => Fr sY μ ν ∧ ∀ p, p < j + 1 → ∀ k, k < n → ν 260 (6 * p + k) = nI (cstA T n L B p k)) n (by omega) ⟨rfl, hF, hN, fun k hk => absurd hk (by omega)⟩ (fun i z hi hI => ?_) (fun ν2 h2 => ?_)
    · obtain ⟨y, ν2⟩ := z
      obtain ⟨d1, d2, d3, d4⟩ := hI
      dsimp only at d1 d2 d3 d4
      subst d1
      show Ok (f_X11_carry_b53 ν2 p1 (nI j) (nI i)) _
      have hS2 := h.sy d2
      unfold f_X11_carry_b53
      by_cases hc2 : i = n
      · subst hc2
        refine Ok.t hS2.c.ge1 (Ok.d ⟨d2, fun p hp k hk => ?_⟩)
        by_cases e : p = j
        · subst e; exact d4 k hk
        · exact d3 p (by omega) k hk
      · have hi2 : i < n := by omega
        refine Ok.e (hS2.c.lt1 hi2) (Ok.s (a := nI (B i)) (by rw [rd_nI (by omega) (by decide), d2 2 (by unfold sY sD sA s5; omega), (hB i hi2).1]) ?_)
        refine (X11_daysF hS2 hj2 (hB i hi2).2).b fun r hr => ?_
        obtain ⟨v, ν3⟩ := r
        obtain ⟨rfl, hF3⟩ := hr
        dsimp only at hF3 ⊢
        unfold f_X9_tell
        rw [cst_C, show nI j * 6 = nI (6 * j) by rw [Int32.mul_comm, show (6 : Int32) = nI 6 from rfl, pk_mul], nI_add]
        refine Ok.s (bs (wr_nI (by omega) (by decide)) rfl) (Ok.c hi2 ⟨nI_1 _, (d2.trans (hF3.mono fun k hk => Or.inl hk)).put (Or.inr rfl), fun p hp k hk => ?_, fun k hk => ?_⟩)
        · show mset ν3 260 (6 * j + i) (nI (cstA T n L B j i)) 260 (6 * p + k) = nI (cstA T n L B p k)
          rw [mset_atn (by omega), hF3 260 (by unfold sD sA s5; omega)]
          exact d3 p hp k hk
        · show mset ν3 260 (6 * j + i) (nI (cstA T n L B j i)) 260 (6 * j + k) = nI (cstA T n L B j k)
          by_cases e : k = i
          · subst e; exact mset_at
          · rw [mset_atn (by omega), hF3 260 (by unfold sD sA s5; omega)]
            exact d4 k (by omega)
    · show Ok (f_X11_carry_j96_39 ν2 p1 (nI j)) _
      unfold f_X11_carry_j96_39
      exact Ok.c hj2 ⟨nI_1 _, h2.1, h2.2⟩
/-! the model's table -/
def NM (μ : Mem) (n : Nat) (D : Nat → Nat → Nat) : Prop := ∀ p, p < n → ∀ k, k < n → μ 273 (6 * p + k) = nI (D p k)
def LQ (μ : Mem) (n : Nat) (D : Nat → Nat → Nat) (lo : Nat) : Prop := ∀ p, lo ≤ p → p ≤ n → ∀ t, t < 64 → μ 274 (64 * p + t) = nI (lstA D n (n - p) t)
theorem shl6 : ∀ p, p < 8 → nI p <<< ((6 : Int32) &&& 31) = nI (64 * p) := by decide +kernel
theorem or_64 : ∀ t, t < 64 → ∀ k, k < 6 → t ||| 2 ^ k < 64 := by decide +kernel
theorem X12_leastOf {p t : Nat} (hn : n ≤ 6) {lo : Nat} (hl : LQ μ n D lo) (h1 : lo ≤ p) (h2 : p ≤ n) (ht : t < 64) : f_X12_leastOf μ (nI p) (nI t) = some (nI (lstA D n (n - p) t)) := by
  unfold f_X12_leastOf
  rw [shl6 p (by omega), nI_add]
  exact bs (a := nI (lstA D n (n - p) t)) (by rw [rd_nI (by omega) (by decide), hl p h1 h2 t ht]) rfl
theorem X12_leastBy {p t k : Nat} (hn : n ≤ 6) (hM : NM μ n D) (hd : ∀ p k, D p k ≤ 1000000) (hl : LQ μ n D (p + 1)) (hp : p < n) (hk : k < n) (ht : t < 64) : f_X12_leastBy μ (nI p) (nI t) (nI k) = some (nI (min 1000000 (D p k + lstA D n (n - (p + 1)) (t ||| 2 ^ k)))) := by
  unfold f_X12_leastBy
  have l2 := hd p k
  have l3 := lst_le (D := D) (n := n) (n - (p + 1)) (t ||| 2 ^ k)
  rw [show (6 : Int32) * nI p = nI (6 * p) from pk_mul 6 p, nI_add, nI_1, or_pw (by omega)]
  refine bs (a := nI (D p k)) (by rw [rd_nI (by omega) (by decide), hM p hp k hk]) (bs (X12_leastOf hn hl (Nat.le_refl _) (by omega) (or_64 t ht k (by omega))) (bs J9_min ?_))
  rw [nI_add, show (1000000 : Int32) = nI 1000000 from rfl, mn_nI (by decide) (by omega)]
def sZ (k : Nat) : Prop := k = 268 ∨ k = 272 ∨ k = 273 ∨ k = 274
theorem X12_lays (h : ML n f (μ 265) L) (hw : WF n L) (hT : LM (μ 265) T) (hW : WT T) (hB : ∀ i, i < n → μ 270 i = nI (B i) ∧ B i ≤ 19) : Ok (f_X12_laysLeast μ) (fun ν => NM ν n (cstA T n L B) ∧ LQ ν n (cstA T n L B) 0 ∧ Fr sZ μ ν) := by
  have hn := h.n6
  have o65 : ∀ ν, Fr sZ μ ν → ν 265 = μ 265 := fun ν hF => hF 265 (by unfold sZ; decide)
  unfold f_X12_laysLeast f_X12_laysLeast_l2
  refine Ok.loop (fun j z => z.1 = nI j ∧ Fr sZ μ z.2 ∧ ∀ p, p < j → ∀ k, k < n → z.2 273 (6 * p + k) = nI (cstA T n L B p k)) (fun ν => NM ν n (cstA T n L B) ∧ Fr sZ μ ν) n (by omega) ⟨rfl, Fr.refl, fun p hp => absurd hp (by omega)⟩ (fun j z hj hI => ?_) (fun ν hν => ?_)
  · obtain ⟨x, ν⟩ := z
    obtain ⟨e1, hF, hN⟩ := hI
    dsimp only at e1 hF hN
    subst e1
    show Ok (f_X12_laysLeast_b2 ν (nI j)) _
    unfold f_X12_laysLeast_b2
    refine Ok.s (X12_people (by rw [o65 ν hF]; exact h)) ?_
    by_cases hc : j = n
    · subst hc
      exact Ok.t (nI_le (Nat.le_refl _) (by omega)) (Ok.d ⟨hN, hF⟩)
    · have hj2 : j < n := by omega
      refine Ok.e (nI_ge hj2 (by omega)) ?_
      unfold f_X12_laysLeast_l12
      refine Ok.loop (fun i z => z.1 = nI i ∧ Fr sZ μ z.2 ∧ (∀ p, p < j → ∀ k, k < n → z.2 273 (6 * p + k) = nI (cstA T n L B p k)) ∧ ∀ k, k < i → z.2 273 (6 * j + k) = nI (cstA T n L B j k)) (fun ν => Fr sZ μ ν ∧ ∀ p, p < j + 1 → ∀ k, k < n → ν 273 (6 * p + k) = nI (cstA T n L B p k)) n (by omega) ⟨rfl, hF, hN, fun k hk => absurd hk (by omega)⟩ (fun i z hi hI => ?_) (fun ν2 h2 => ?_)
      · obtain ⟨y, ν2⟩ := z
        obtain ⟨d1, d2, d3, d4⟩ := hI
        dsimp only at d1 d2 d3 d4
        subst d1
        show Ok (f_X12_laysLeast_b12 ν2 (nI j) (nI i)) _
        have hM2 : ML n f (ν2 265) L := by rw [o65 ν2 d2]; exact h
        unfold f_X12_laysLeast_b12
        refine Ok.s (X12_people hM2) ?_
        by_cases hc2 : i = n
        · subst hc2
          refine Ok.t (nI_le (Nat.le_refl _) (by omega)) (Ok.d ⟨d2, fun p hp k hk => ?_⟩)
          by_cases e : p = j
          · subst e; exact d4 k hk
          · exact d3 p (by omega) k hk
        · have hi2 : i < n := by omega
          refine Ok.e (nI_ge hi2 (by omega)) (Ok.s (a := nI (B i)) (by rw [rd_nI (by omega) (by decide), d2 270 (by unfold sZ; decide), (hB i hi2).1]) ?_)
          refine (X12_comesTo hM2 hw (by rw [o65 ν2 d2]; exact hT) hW hj2 (hB i hi2).2).b fun r hr => ?_
          obtain ⟨v, ν3⟩ := r
          obtain ⟨rfl, hF3⟩ := hr
          dsimp only at hF3 ⊢
          rw [cst_M, show (6 : Int32) * nI j = nI (6 * j) from pk_mul 6 j, nI_add]
          refine Ok.s (wr_nI (by omega) (by decide)) (Ok.c hi2 ⟨nI_1 _, (d2.trans (hF3.mono fun k hk => (by unfold sK at hk; unfold sZ; omega : sZ k))).put (by unfold sZ; omega), fun p hp k hk => ?_, fun k hk => ?_⟩)
          · show mset ν3 273 (6 * j + i) (nI (cstA T n L B j i)) 273 (6 * p + k) = nI (cstA T n L B p k)
            rw [mset_atn (by omega), hF3 273 (by unfold sK; decide)]
            exact d3 p hp k hk
          · show mset ν3 273 (6 * j + i) (nI (cstA T n L B j i)) 273 (6 * j + k) = nI (cstA T n L B j k)
            by_cases e : k = i
            · subst e; exact mset_at
            · rw [mset_atn (by omega), hF3 273 (by unfold sK; decide)]
              exact d4 k (by omega)
      · show Ok (f_X12_laysLeast_j48_2 ν2 (nI j)) _
        unfold f_X12_laysLeast_j48_2
        exact Ok.c hj2 ⟨nI_1 _, h2.1, h2.2⟩
  · obtain ⟨hN, hF⟩ := hν
    generalize hD : cstA T n L B = D at hN
    have hd : ∀ p k, D p k ≤ 1000000 := fun p k => by rw [← hD]; exact cst_le
    unfold f_X12_laysLeast_j54 f_X12_laysLeast_l56
    refine Ok.loop (fun j z => z.1 = nI j ∧ Fr sZ μ z.2 ∧ NM z.2 n D ∧ ∀ t, t < j → z.2 274 (64 * n + t) = 0) (fun ν => Fr sZ μ ν ∧ NM ν n D ∧ LQ ν n D n) 64 (by decide) ⟨rfl, hF, hN, fun t ht => absurd ht (by omega)⟩ (fun j z hj hI => ?_) (fun ν2 hν2 => ?_)
    · obtain ⟨x, ν2⟩ := z
      obtain ⟨e1, d2, d3, d4⟩ := hI
      dsimp only at e1 d2 d3 d4
      subst e1
      show Ok (f_X12_laysLeast_b56 ν2 (nI j)) _
      unfold f_X12_laysLeast_b56
      by_cases hc : j = 64
      · subst hc
        refine Ok.t (by decide) (Ok.d ⟨d2, d3, fun p h1 h2 t ht => ?_⟩)
        obtain rfl : p = n := by omega
        rw [d4 t ht, Nat.sub_self]; rfl
      · refine Ok.e (nI_ge (b := 64) (by omega) (by decide)) (Ok.s (X12_people (by rw [o65 ν2 d2]; exact h)) ?_)
        rw [shl6 n (by omega), nI_add]
        refine Ok.s (wr_nI (by omega) (by decide)) (Ok.c (by omega) ⟨nI_1 _, d2.put (by unfold sZ; omega), fun p hp k hk => ?_, fun t ht => ?_⟩)
        · show mset ν2 274 (64 * n + j) 0 273 (6 * p + k) = nI (D p k)
          rw [mset_ne (by decide)]; exact d3 p hp k hk
        · show mset ν2 274 (64 * n + j) 0 274 (64 * n + t) = 0
          by_cases e : t = j
          · subst e; exact mset_at
          · rw [mset_atn (by omega)]; exact d4 t (by omega)
    · obtain ⟨g1, g2, g3⟩ := hν2
      unfold f_X12_laysLeast_j83
      refine Ok.s (X12_people (by rw [o65 ν2 g1]; exact h)) ?_
      unfold f_X12_laysLeast_l90
      refine Ok.loop (fun j z => z.1 = nI n - nI (j + 1) ∧ Fr sZ μ z.2 ∧ NM z.2 n D ∧ LQ z.2 n D (n - j)) (fun ν => NM ν n D ∧ LQ ν n D 0 ∧ Fr sZ μ ν) n (by omega) ⟨rfl, g1, g2, g3⟩ (fun j z hj hI => ?_) (fun ν3 h3 => Ok.r h3)
      obtain ⟨x, ν3⟩ := z
      obtain ⟨e1, d2, d3, d4⟩ := hI
      dsimp only at e1 d2 d3 d4
      subst e1
      show Ok (f_X12_laysLeast_b90 ν3 _) _
      unfold f_X12_laysLeast_b90
      by_cases hc : j = n
      · subst hc
        refine Ok.t (pk_sneg (by omega) (by omega)) (Ok.d ⟨d3, ?_, d2⟩)
        rw [Nat.sub_self] at d4
        exact d4
      · rw [pk_sub (by omega)]
        generalize hp : n - (j + 1) = p
        have hpn : p < n := by omega
        rw [show n - j = p + 1 by omega] at d4
        have ed : n - p = (n - (p + 1)) + 1 := by omega
        have ep : n - (n - (p + 1) + 1) = p := by omega
        have el : ∀ t, lstA D n (n - p) t = mnS t (fun k => D p k + lstA D n (n - (p + 1)) (t ||| 2 ^ k)) n := fun t => by
          rw [ed]
          show mnS t (fun k => D (n - (n - (p + 1) + 1)) k + lstA D n (n - (p + 1)) (t ||| 2 ^ k)) n = _
          rw [ep]
        refine Ok.e (nI_pos (by omega)) ?_
        unfold f_X12_laysLeast_l96
        refine Ok.loop (fun i z => z.1 = nI i ∧ Fr sZ μ z.2 ∧ NM z.2 n D ∧ LQ z.2 n D (p + 1) ∧ ∀ t, t < i → z.2 274 (64 * p + t) = nI (lstA D n (n - p) t)) (fun ν => Fr sZ μ ν ∧ NM ν n D ∧ LQ ν n D p) 64 (by decide) ⟨rfl, d2, d3, d4, fun t ht => absurd ht (by omega)⟩ (fun i z hi hI => ?_) (fun ν4 h4 => ?_)
        · obtain ⟨y, ν4⟩ := z
          obtain ⟨c1, c2, c3, c4, c5⟩ := hI
          dsimp only at c1 c2 c3 c4 c5
          subst c1
          show Ok (f_X12_laysLeast_b96 ν4 (nI p) (nI i)) _
          unfold f_X12_laysLeast_b96
          by_cases hc2 : i = 64
          · subst hc2
            refine Ok.t (by decide) (Ok.d ⟨c2, c3, fun q h1 h2 t ht => ?_⟩)
            by_cases e : q = p
            · subst e; exact c5 t ht
            · exact c4 q (by omega) h2 t ht
          · refine Ok.e (nI_ge (b := 64) (by omega) (by decide)) ?_
            have hM4 : ML n f (ν4 265) L := by rw [o65 ν4 c2]; exact h
            unfold f_X12_laysLeast_l109
            refine Ok.loop (fun k z => z.1 = nI (mnS i (fun k => D p k + lstA D n (n - (p + 1)) (i ||| 2 ^ k)) k) ∧ z.2 = nI k) (fun t => t = nI (lstA D n (n - p) i)) n (by omega) ⟨rfl, rfl⟩ (fun k z hk hI => ?_) (fun t ht => ?_)
            · obtain ⟨u, w⟩ := z
              obtain ⟨b1, b2⟩ := hI
              dsimp only at b1 b2
              subst b1 b2
              show Ok (f_X12_laysLeast_b109 ν4 (nI p) (nI i) (nI _) (nI k)) _
              unfold f_X12_laysLeast_b109 f_X12_laysLeast_j140_109
              refine Ok.s (X12_people hM4) ?_
              by_cases hc3 : k = n
              · subst hc3
                exact Ok.t (nI_le (Nat.le_refl _) (by omega)) (Ok.d (by rw [el]))
              · have hk2 : k < n := by omega
                refine Ok.e (nI_ge hk2 (by omega)) (Ok.s (X12_has (by omega)) ?_)
                rw [bt_tb (by omega)]
                by_cases hb : i.testBit k = true
                · exact Ok.t hb (Ok.c hk2 ⟨by dsimp only; rw [mnS_t hb], nI_1 _⟩)
                · refine Ok.e hb (Ok.s (X12_leastBy hn c3 hd c4 hpn hk2 (by omega)) (Ok.s J9_min (Ok.c hk2 ⟨?_, nI_1 _⟩)))
                  have l1 := mnS_le (t := i) (g := fun k => D p k + lstA D n (n - (p + 1)) (i ||| 2 ^ k)) k
                  dsimp only
                  rw [mnS_f hb, mn_nI (by omega) (by omega)]
                  congr 1
                  omega
            · subst ht
              show Ok (f_X12_laysLeast_j146_96 ν4 (nI p) (nI i) _) _
              unfold f_X12_laysLeast_j146_96
              rw [shl6 p (by omega), nI_add]
              refine Ok.s (wr_nI (by omega) (by decide)) (Ok.c (by omega) ⟨nI_1 _, c2.put (by unfold sZ; omega), fun q hq k hk => ?_, fun q h1 h2 t ht => ?_, fun t ht => ?_⟩)
              · show mset ν4 274 (64 * p + i) (nI (lstA D n (n - p) i)) 273 (6 * q + k) = nI (D q k)
                rw [mset_ne (by decide)]; exact c3 q hq k hk
              · show mset ν4 274 (64 * p + i) (nI (lstA D n (n - p) i)) 274 (64 * q + t) = nI (lstA D n (n - q) t)
                rw [mset_atn (by omega)]; exact c4 q h1 h2 t ht
              · show mset ν4 274 (64 * p + i) (nI (lstA D n (n - p) i)) 274 (64 * p + t) = nI (lstA D n (n - p) t)
                by_cases e : t = i
                · subst e; exact mset_at
                · rw [mset_atn (by omega)]; exact c5 t (by omega)
        · show Ok (f_X12_laysLeast_j164_90 ν4 (nI p)) _
          unfold f_X12_laysLeast_j164_90
          refine Ok.c (by omega) ⟨?_, h4.1, h4.2.1, ?_⟩
          · dsimp only
            rw [← hp, ← pk_sub (by omega), nI_succ (j + 1)]
            exact i32_s1 _ _
          · rw [show n - (j + 1) = p from hp]
            exact h4.2.2
end Cz
