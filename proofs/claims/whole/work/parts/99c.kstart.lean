/-! THE STATE AT THE LAW'S ENTRY -/
theorem va_cls9 {args : Array Value} {s : State} {ws : List Cond} (hts : ∀ w ∈ ws, w.before args s = true) (f : Nat → String × u_T × Nat) (N : Nat) (h : ∀ k, k < N → (∀ w ∈ u_ws (f k).1 (f k).2.1 (f k).2.2, w ∈ ws) ∧ Cond.instantiable (f k).1 (f k).2.2 ∈ ws) : ∃ D : va_G, ∀ k, k < N → u_Kn s (f k).1 (f k).2.1 (f k).2.2 (D.1 k) (D.2 k) := by
  have h0 : ∀ k : Nat, ∃ q : ClassId × (Nat → Nat), k < N → u_Kn s (f k).1 (f k).2.1 (f k).2.2 q.1 q.2 := by
    intro k
    by_cases hk : k < N
    · obtain ⟨c, iS, hq⟩ := u_known hts (h k hk).1 (hts _ (h k hk).2)
      exact ⟨(c, iS), fun _ => hq⟩
    · exact ⟨(0, fun _ => 0), fun z => absurd z hk⟩
  obtain ⟨q, hq⟩ := Classical.axiomOfChoice h0
  exact ⟨(fun k => (q k).1, fun k => (q k).2), fun k hk => hq k hk⟩
theorem kk_cls (s : State) {b : Nat} (hts : ∀ w ∈ lw_tbl, w.before #[Value.ref b] s = true) : ∃ D : va_G, ∀ (k : Nat) (q : vw_C), classes[k]? = some q → u_Kn s q.1 q.2.1 q.2.2 (D.1 k) (D.2 k) := by
  have hg : ∀ {ws : List Cond}, (∀ w ∈ ws, w ∈ gw) → ∀ w ∈ ws, w ∈ lw_tbl := fun h w hw => (List.mem_filter.mp (h w hw)).1
  obtain ⟨D, hD⟩ := va_cls9 hts (fun k => classes.getD k (RX0, TX0, 3)) 13 (fun k hk => by
    rcases (show k = 0 ∨ k = 1 ∨ k = 2 ∨ k = 3 ∨ k = 4 ∨ k = 5 ∨ k = 6 ∨ k = 7 ∨ k = 8 ∨ k = 9 ∨ k = 10 ∨ k = 11 ∨ k = 12 by omega) with rfl | rfl | rfl | rfl | rfl | rfl | rfl | rfl | rfl | rfl | rfl | rfl | rfl
    · exact ⟨hg in_0, kk_n0⟩
    · exact ⟨hg in_1, kk_n1⟩
    · exact ⟨hg in_2, kk_n2⟩
    · exact ⟨hg in_3, kk_n3⟩
    · exact ⟨hg in_4, kk_n4⟩
    · exact ⟨hg in_5, kk_n5⟩
    · exact ⟨hg in_0, kk_n0⟩
    · exact ⟨hg in_7, kk_n7⟩
    · exact ⟨hg in_8, kk_n8⟩
    · exact ⟨hg in_9, kk_n9⟩
    · exact ⟨hg in_10, kk_n10⟩
    · exact ⟨hg in_11, kk_n11⟩
    · exact ⟨hg in_12, kk_n12⟩)
  refine ⟨D, fun k q hq => ?_⟩
  have hk : k < 13 := (List.getElem?_eq_some_iff.mp hq).1
  have h := hD k hk
  rw [show classes.getD k (RX0, TX0, 3) = q by rw [List.getD_eq_getElem?_getD, hq]; rfl] at h
  exact h
theorem kk_arr {ty : FieldType} {args : Array Value} {s : State} (h : (Cond.arrayClass ty).before args s = true) : ∃ c : ClassId, ArrOfT s c ty ∧ s.vm.findClass ("[" ++ ty.toString) = some c := by
  obtain ⟨c, k, comp, h1, h2, h3⟩ := Cond.arrayClass_spec h
  exact ⟨c, fun n z => ⟨fun q h => (by cases h), k, h2, comp, h3⟩, h1⟩
theorem kk_arrQ {C : String} {args : Array Value} {s : State} (h : (Cond.arrayOver (.object C)).before args s = true) : ∃ c : ClassId, ArrOfT s c (.object C) ∧ va_RA s c (.object C) := by
  obtain ⟨comp, c, k, h1, -, h2, h3, h4⟩ := Cond.arrayOver_spec h
  exact ⟨c, fun n z => ⟨fun q h => (by cases h), k, h2, comp, h3⟩, k, comp, h2, h3, h1, h4⟩
theorem kk_str {b : Nat} {s : State} (hgv : (Cond.and given_1 narrow_1).before #[Value.ref b] s = true) {i : Nat} (hi : i < 79) : ∀ w ∈ kkS i, w.before #[Value.ref b] s = true := by
  have hF := flat_of_before _ hgv
  have go : kkS i = (kkF.drop (kkP.getD i 0)).take (4 + lenS_l.getD i 0) := by
    obtain ⟨a, r, ha, hr⟩ : ∃ a r, i = 10 * a + r ∧ r < 10 := ⟨i / 10, i % 10, by omega, by omega⟩
    subst ha
    rcases (show a = 0 ∨ a = 1 ∨ a = 2 ∨ a = 3 ∨ a = 4 ∨ a = 5 ∨ a = 6 ∨ a = 7 by omega) with rfl | rfl | rfl | rfl | rfl | rfl | rfl | rfl
    · exact kk_s0 r hr
    · exact kk_s10 r hr
    · exact kk_s20 r hr
    · exact kk_s30 r hr
    · exact kk_s40 r hr
    · exact kk_s50 r hr
    · exact kk_s60 r hr
    · exact kk_s70 r (by omega)
  intro w hw
  rw [go] at hw
  exact hF w (List.mem_of_mem_drop (List.mem_of_mem_take hw))
theorem kk_strs {b : Nat} {s : State} (hgv : (Cond.and given_1 narrow_1).before #[Value.ref b] s = true) {A : Nat → Prop} (hA : ∀ a : Nat, a < s.heap.size → ¬ A a) : ∃ adK adV : Nat → Nat, ∀ i : Nat, i < 79 → (kkT i).eval #[Value.ref b] s none [] s = some (.ref (adK i)) ∧ va_O "java/lang/String" (adK i) A s s.heap ∧ va_OF "java/lang/String" "coder" "B" (.int 0) (adK i) A s s.heap ∧ va_OF "java/lang/String" "value" "[B" (.ref (adV i)) (adK i) A s s.heap ∧ va_T .byte (adV i) (lenS_l.getD i 0) (fun j => .int ((bytS_l.getD i []).getD j 0)) A s s.heap := by
  have hl : ∀ i, i < 79 → lenS_l.getD i 0 < 2 ^ 31 := by decide +kernel
  have h0 : ∀ i : Nat, ∃ q : Nat × Nat, i < 79 → (kkT i).eval #[Value.ref b] s none [] s = some (.ref q.1) ∧ va_O "java/lang/String" q.1 A s s.heap ∧ va_OF "java/lang/String" "coder" "B" (.int 0) q.1 A s s.heap ∧ va_OF "java/lang/String" "value" "[B" (.ref q.2) q.1 A s s.heap ∧ va_T .byte q.2 (lenS_l.getD i 0) (fun j => .int ((bytS_l.getD i []).getD j 0)) A s s.heap := by
    intro i
    by_cases hi : i < 79
    · have hw := kk_str hgv hi
      have w1 : (Cond.exactly (kkT i) "java/lang/String").before #[Value.ref b] s = true := hw _ (List.mem_append_left _ List.mem_cons_self)
      have w2 : (Cond.eq (.field (kkT i) "java/lang/String" "coder" "B") (.int 0)).before #[Value.ref b] s = true := hw _ (List.mem_append_left _ (List.mem_cons_of_mem _ List.mem_cons_self))
      have w3 : (Cond.arrayOf (kkV i) .byte).before #[Value.ref b] s = true := hw _ (List.mem_append_left _ (List.mem_cons_of_mem _ (List.mem_cons_of_mem _ List.mem_cons_self)))
      have w4 : (Cond.eq (.length (kkV i)) (.int (Int32.ofNat (lenS_l.getD i 0)))).before #[Value.ref b] s = true := hw _ (List.mem_append_left _ (List.mem_cons_of_mem _ (List.mem_cons_of_mem _ (List.mem_cons_of_mem _ List.mem_cons_self))))
      have w5 : ∀ j, j < lenS_l.getD i 0 → (kkE i j).before #[Value.ref b] s = true := fun j hj => hw _ (List.mem_append_right _ (List.mem_map.mpr ⟨j, List.mem_range.mpr hj, rfl⟩))
      obtain ⟨a, c, cA, kA, q1, q2, q3, q4, q5, q6, -⟩ := Cond.exactly_spec (args := #[Value.ref b]) (first := s) (o := none) (s := s) (idx := []) (t := kkT i) (cls := "java/lang/String") w1
      obtain ⟨t, ht, hT⟩ := va_Tof (f := fun j => .int ((bytS_l.getD i []).getD j 0)) (A := A) (hl i hi) w3 (va_eqt w4) (fun j hj => va_eqt (w5 j hj)) hA
      exact ⟨(a, t), fun _ => ⟨q1, ⟨cA, q3, q5, by rw [q6]; exact q2, hA a (Array.getElem?_eq_some_iff.mp q3).1⟩, vk_OFof q1 (va_eqt w2) hA, vk_OFof q1 ht hA, hT⟩⟩
    · exact ⟨(0, 0), fun h => absurd h hi⟩
  obtain ⟨ad, had⟩ := Classical.axiomOfChoice h0
  exact ⟨fun i => (ad i).1, fun i => (ad i).2, fun i hi => had i hi⟩
theorem kk_start {s : State} {b : Nat} (l : Launch) (hts : ∀ w ∈ lw_tbl, w.before #[Value.ref b] s = true) (hgv : (Cond.and given_1 narrow_1).before #[Value.ref b] s = true) : ∃ G : Gl, G.1 = l ∧ G.2.1 = s.heap.size ∧ Kk G s := by
  have hA : ∀ a : Nat, a < s.heap.size → ¬ (fun q : Nat => s.heap.size ≤ q) a := fun a h z => Nat.not_le.mpr h z
  obtain ⟨D, hD⟩ := kk_cls s hts
  obtain ⟨c0, a0, n0⟩ := kk_arr (hts _ kk_aint)
  obtain ⟨c1, a1, n1⟩ := kk_arr (hts _ kk_abyte)
  obtain ⟨c2, a2, n2⟩ := kk_arr (hts _ kk_along)
  obtain ⟨c3, a3, n3⟩ := kk_arrQ (hts _ kk_AO)
  obtain ⟨adK, adV, hS⟩ := kk_strs hgv hA
  refine ⟨(l, s.heap.size, D, (fun k => if k = 0 then c0 else if k = 1 then c1 else if k = 2 then c2 else c3), adK, adV), rfl, rfl, ⟨hD, ?_⟩, Nat.le_refl _, ?_⟩
  · intro k q hq
    have hk : k < 4 := (List.getElem?_eq_some_iff.mp hq).1
    rcases (show k = 0 ∨ k = 1 ∨ k = 2 ∨ k = 3 by omega) with rfl | rfl | rfl | rfl
    · cases hq; exact ⟨a0, n0⟩
    · cases hq; exact ⟨a1, n1⟩
    · cases hq; exact ⟨a2, n2⟩
    · cases hq; exact ⟨a3, n3⟩
  · refine ⟨fun q hq => va_Nw.of rfl (hts _ (kk_nM _ (List.mem_map.mpr ⟨q, hq, rfl⟩))), fun q hq => va_Nw.of rfl (hts _ (kk_nF _ (List.mem_map.mpr ⟨q, hq, rfl⟩))), fun q hq => ?_, fun q hq => ?_, fun q hq => va_Nw.of rfl (hts _ (kk_cC _ (List.mem_map.mpr ⟨q, hq, rfl⟩))), fun q hq => va_Nw.of rfl (hts _ (kk_nD _ (List.mem_map.mpr ⟨q, hq, rfl⟩))), vx_Zqof (hts _ kk_lU) (hts _ kk_iU) (kk_at _ kk_fU hgv) hA, vx_Zqof (hts _ kk_lN) (hts _ kk_iN) (kk_at _ kk_fN hgv) hA, ⟨va_Zof (hts _ kk_lC) (hts _ kk_iC) (va_eqt (kk_at _ kk_fC hgv)) hA, va_Zqof (hts _ kk_lI) (hts _ kk_iI) (kk_at _ kk_fI hgv) hA, va_AO.of (hts _ kk_AO)⟩, fun i hi => (hS i hi).2⟩
    · obtain ⟨i, hi⟩ := List.mem_iff_getElem?.mp hq
      have hl : i < 79 := (List.getElem?_eq_some_iff.mp hi).1
      have e1 : ∀ i, i < 79 → (sT_l.getD i ("", 0, "", 0)).2.2.2 = i := by decide +kernel
      have e2 : sT_l.getD i ("", 0, "", 0) = q := by rw [List.getD_eq_getElem?_getD, hi]; rfl
      have e3 := e1 i hl
      rw [e2] at e3
      have h8 := (hS i hl).1
      unfold kkT at h8
      rw [e2] at h8
      rw [e3]
      exact vk_R.of (A := #[Value.ref b]) (hts _ (kk_sT _ (List.mem_map.mpr ⟨q, hq, rfl⟩))) h8
    · have hn : Cond.not (.castable q.1 q.2) ∈ kkF := by
        have h1 : Cond.not (.castable q.1 q.2) ∈ nC_l.map (fun q => Cond.not (.castable q.1 q.2)) := List.mem_map.mpr ⟨q, hq, rfl⟩
        rw [kk_nC] at h1
        obtain ⟨k, -, hk⟩ := List.mem_filterMap.mp h1
        exact List.mem_of_getElem? hk
      exact va_Nc.of (flat_of_before _ hgv _ hn)
