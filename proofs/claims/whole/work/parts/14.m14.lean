theorem d_X2_partiesOf_0 : decode F_X2_partiesOf.2.1 0 = .ok (.iconst 1, 1) := by decide +kernel
theorem d_X2_partiesOf_1 : decode F_X2_partiesOf.2.1 1 = .ok (.iload_n 1, 1) := by decide +kernel
theorem d_X2_partiesOf_2 : decode F_X2_partiesOf.2.1 2 = .ok (.invokestatic 135, 3) := by decide +kernel
theorem d_X2_partiesOf_5 : decode F_X2_partiesOf.2.1 5 = .ok (.ishl, 1) := by decide +kernel
theorem d_X2_partiesOf_6 : decode F_X2_partiesOf.2.1 6 = .ok (.iconst 1, 1) := by decide +kernel
theorem d_X2_partiesOf_7 : decode F_X2_partiesOf.2.1 7 = .ok (.aload_n 0, 1) := by decide +kernel
theorem d_X2_partiesOf_8 : decode F_X2_partiesOf.2.1 8 = .ok (.getfield 49, 3) := by decide +kernel
theorem d_X2_partiesOf_11 : decode F_X2_partiesOf.2.1 11 = .ok (.iload_n 1, 1) := by decide +kernel
theorem d_X2_partiesOf_12 : decode F_X2_partiesOf.2.1 12 = .ok (.iaload, 1) := by decide +kernel
theorem d_X2_partiesOf_13 : decode F_X2_partiesOf.2.1 13 = .ok (.ishl, 1) := by decide +kernel
theorem d_X2_partiesOf_14 : decode F_X2_partiesOf.2.1 14 = .ok (.ior, 1) := by decide +kernel
theorem d_X2_partiesOf_15 : decode F_X2_partiesOf.2.1 15 = .ok (.istore_n 2, 1) := by decide +kernel
theorem d_X2_partiesOf_16 : decode F_X2_partiesOf.2.1 16 = .ok (.aload_n 0, 1) := by decide +kernel
theorem d_X2_partiesOf_17 : decode F_X2_partiesOf.2.1 17 = .ok (.getfield 61, 3) := by decide +kernel
theorem d_X2_partiesOf_20 : decode F_X2_partiesOf.2.1 20 = .ok (.iload_n 1, 1) := by decide +kernel
theorem d_X2_partiesOf_21 : decode F_X2_partiesOf.2.1 21 = .ok (.iaload, 1) := by decide +kernel
theorem d_X2_partiesOf_22 : decode F_X2_partiesOf.2.1 22 = .ok (.iconst (-1), 1) := by decide +kernel
theorem d_X2_partiesOf_23 : decode F_X2_partiesOf.2.1 23 = .ok (.if_icmp .ne 7, 3) := by decide +kernel
theorem d_X2_partiesOf_26 : decode F_X2_partiesOf.2.1 26 = .ok (.iload_n 2, 1) := by decide +kernel
theorem d_X2_partiesOf_27 : decode F_X2_partiesOf.2.1 27 = .ok (.goto 13, 3) := by decide +kernel
theorem d_X2_partiesOf_30 : decode F_X2_partiesOf.2.1 30 = .ok (.iload_n 2, 1) := by decide +kernel
theorem d_X2_partiesOf_31 : decode F_X2_partiesOf.2.1 31 = .ok (.iconst 1, 1) := by decide +kernel
theorem d_X2_partiesOf_32 : decode F_X2_partiesOf.2.1 32 = .ok (.aload_n 0, 1) := by decide +kernel
theorem d_X2_partiesOf_33 : decode F_X2_partiesOf.2.1 33 = .ok (.getfield 61, 3) := by decide +kernel
theorem d_X2_partiesOf_36 : decode F_X2_partiesOf.2.1 36 = .ok (.iload_n 1, 1) := by decide +kernel
theorem d_X2_partiesOf_37 : decode F_X2_partiesOf.2.1 37 = .ok (.iaload, 1) := by decide +kernel
theorem d_X2_partiesOf_38 : decode F_X2_partiesOf.2.1 38 = .ok (.ishl, 1) := by decide +kernel
theorem d_X2_partiesOf_39 : decode F_X2_partiesOf.2.1 39 = .ok (.ior, 1) := by decide +kernel
theorem d_X2_partiesOf_40 : decode F_X2_partiesOf.2.1 40 = .ok (.ireturn, 1) := by decide +kernel
def f_X2_partiesOf_j40 (μ : Mem) (a0 : Nat) (k0 : Int32) : Option Int32 :=
some k0
def f_X2_partiesOf (μ : Mem) (a0 : Nat) (p1 : Int32) : Option Int32 :=
Option.bind (f_X11_ownerOf μ p1) fun t1 =>
Option.bind (rd μ (a0 + 7) 12 p1) fun t2 =>
Option.bind (rd μ (a0 + 11) 12 p1) fun t3 =>
if t3 = (-1) then
f_X2_partiesOf_j40 μ a0 ((1 <<< (t1 &&& 31)) ||| (1 <<< (t2 &&& 31)))
else
Option.bind (rd μ (a0 + 11) 12 p1) fun t4 =>
f_X2_partiesOf_j40 μ a0 (((1 <<< (t1 &&& 31)) ||| (1 <<< (t2 &&& 31))) ||| (1 <<< (t4 &&& 31)))
theorem s_X2_partiesOf_j40 {G : Gl} (hG : G.1.stackTraces = false) {C : Cx} {n : Nat} {μ : Mem} {a0 : Nat} {k0 : Int32} (ha0 : a0 ∈ landL) {r : Int32} (hf : f_X2_partiesOf_j40 μ a0 k0 = some r) (hK : FinR G C F_X2_partiesOf (some .int) (some (.int r)) μ) : V G C F_X2_partiesOf 40 [none, none, none] [.int k0] (pic G μ) n 0 0 := by
  unfold f_X2_partiesOf_j40 at hf
  cases hf
  exact R_i hK d_X2_partiesOf_40 (Nat.le_of_ble_eq_true rfl) (Nat.le_of_ble_eq_true rfl)
theorem s_X2_partiesOf_e {G : Gl} (hG : G.1.stackTraces = false) {C : Cx} {n : Nat} {μ : Mem} {a0 : Nat} {p1 : Int32} (ha0 : a0 ∈ landL) {r : Int32} (hf : f_X2_partiesOf μ a0 p1 = some r) (hK : FinR G C F_X2_partiesOf (some .int) (some (.int r)) μ) : V G C F_X2_partiesOf 0 [some (.ref (G.2.1 + a0)), some (.int p1), none] [] (pic G μ) n 0 0 := by
  unfold f_X2_partiesOf at hf
  refine V_iconst (v := 1) d_X2_partiesOf_0 ic_1 ?_
  refine V_iload_n d_X2_partiesOf_1 rfl rfl ?_
  obtain ⟨t1, ht1, hf⟩ := ob hf
  refine B_callSN1 (s_X11_ownerOf hG ht1) m_X11_ownerOf ks_RX2_135 d_X2_partiesOf_2 rfl (Nat.le_of_ble_eq_true rfl) ⟨rfl, rfl, Nat.le_of_ble_eq_true rfl, Nat.le_of_ble_eq_true rfl, Nat.le_of_ble_eq_true rfl⟩ (fun n => ?_)
  refine V_ishl d_X2_partiesOf_5 ?_
  refine V_iconst (v := 1) d_X2_partiesOf_6 ic_1 ?_
  refine V_aload_n d_X2_partiesOf_7 rfl rfl ?_
  refine B_get (kLand _ ha0) fl_RX2_49 d_X2_partiesOf_8 g_2_12 ?_
  refine V_iload_n d_X2_partiesOf_11 rfl rfl ?_
  obtain ⟨t2, ht2, hf⟩ := ob hf
  refine B_iald (kLand_7 _ ha0) ht2 d_X2_partiesOf_12 ?_
  refine V_ishl d_X2_partiesOf_13 ?_
  refine V_ior d_X2_partiesOf_14 ?_
  refine V_istore_n (ls' := [_, _, _]) d_X2_partiesOf_15 rfl rfl rfl ?_
  refine V_aload_n d_X2_partiesOf_16 rfl rfl ?_
  refine B_get (kLand _ ha0) fl_RX2_61 d_X2_partiesOf_17 g_2_16 ?_
  refine V_iload_n d_X2_partiesOf_20 rfl rfl ?_
  obtain ⟨t3, ht3, hf⟩ := ob hf
  refine B_iald (kLand_11 _ ha0) ht3 d_X2_partiesOf_21 ?_
  refine V_iconst (v := (-1)) d_X2_partiesOf_22 ic_m1 ?_
  refine V_icmp_ne (tgt := 30) d_X2_partiesOf_23 (by decide) (fun c23 => ?_) (fun c23 => ?_)
  · replace hf := iteF c23 hf
    refine V_iload_n d_X2_partiesOf_30 rfl rfl ?_
    refine V_iconst (v := 1) d_X2_partiesOf_31 ic_1 ?_
    refine V_aload_n d_X2_partiesOf_32 rfl rfl ?_
    refine B_get (kLand _ ha0) fl_RX2_61 d_X2_partiesOf_33 g_2_16 ?_
    refine V_iload_n d_X2_partiesOf_36 rfl rfl ?_
    obtain ⟨t4, ht4, hf⟩ := ob hf
    refine B_iald (kLand_11 _ ha0) ht4 d_X2_partiesOf_37 ?_
    refine V_ishl d_X2_partiesOf_38 ?_
    refine V_ior d_X2_partiesOf_39 ?_
    refine V_less (ls' := [none, none, none]) trivial ?_
    exact s_X2_partiesOf_j40 hG ha0 hf hK
  · replace hf := iteT c23 hf
    refine V_iload_n d_X2_partiesOf_26 rfl rfl ?_
    refine V_goto (tgt := 40) d_X2_partiesOf_27 (by decide) ?_
    refine V_less (ls' := [none, none, none]) trivial ?_
    exact s_X2_partiesOf_j40 hG ha0 hf hK
theorem s_X2_partiesOf {G : Gl} (hG : G.1.stackTraces = false) {μ : Mem} {a0 : Nat} {p1 : Int32} (ha0 : a0 ∈ landL) {r : Int32} (hf : f_X2_partiesOf μ a0 p1 = some r) : Rt G yX2_partiesOf F_X2_partiesOf (some .int) [.ref (G.2.1 + a0), .int p1] μ (some (.int r)) μ := fun n => Sd.of hG ⟨by decide +kernel, rfl, rfl⟩ rfl (Nat.le_of_ble_eq_true rfl) rfl (fun C hK => s_X2_partiesOf_e hG ha0 hf hK)
theorem d_X2_isInEachPledge_0 : decode F_X2_isInEachPledge.2.1 0 = .ok (.iconst 0, 1) := by decide +kernel
theorem d_X2_isInEachPledge_1 : decode F_X2_isInEachPledge.2.1 1 = .ok (.istore_n 2, 1) := by decide +kernel
theorem d_X2_isInEachPledge_2 : decode F_X2_isInEachPledge.2.1 2 = .ok (.iload_n 2, 1) := by decide +kernel
theorem d_X2_isInEachPledge_3 : decode F_X2_isInEachPledge.2.1 3 = .ok (.iconst 2, 1) := by decide +kernel
theorem d_X2_isInEachPledge_4 : decode F_X2_isInEachPledge.2.1 4 = .ok (.aload_n 0, 1) := by decide +kernel
theorem d_X2_isInEachPledge_5 : decode F_X2_isInEachPledge.2.1 5 = .ok (.getfield 9, 3) := by decide +kernel
theorem d_X2_isInEachPledge_8 : decode F_X2_isInEachPledge.2.1 8 = .ok (.imul, 1) := by decide +kernel
theorem d_X2_isInEachPledge_9 : decode F_X2_isInEachPledge.2.1 9 = .ok (.if_icmp .ge 29, 3) := by decide +kernel
theorem d_X2_isInEachPledge_12 : decode F_X2_isInEachPledge.2.1 12 = .ok (.aload_n 0, 1) := by decide +kernel
theorem d_X2_isInEachPledge_13 : decode F_X2_isInEachPledge.2.1 13 = .ok (.iload_n 2, 1) := by decide +kernel
theorem d_X2_isInEachPledge_14 : decode F_X2_isInEachPledge.2.1 14 = .ok (.invokevirtual 106, 3) := by decide +kernel
theorem d_X2_isInEachPledge_17 : decode F_X2_isInEachPledge.2.1 17 = .ok (.ifCond .eq 15, 3) := by decide +kernel
theorem d_X2_isInEachPledge_20 : decode F_X2_isInEachPledge.2.1 20 = .ok (.iload_n 1, 1) := by decide +kernel
theorem d_X2_isInEachPledge_21 : decode F_X2_isInEachPledge.2.1 21 = .ok (.aload_n 0, 1) := by decide +kernel
theorem d_X2_isInEachPledge_22 : decode F_X2_isInEachPledge.2.1 22 = .ok (.iload_n 2, 1) := by decide +kernel
theorem d_X2_isInEachPledge_23 : decode F_X2_isInEachPledge.2.1 23 = .ok (.invokevirtual 172, 3) := by decide +kernel
theorem d_X2_isInEachPledge_26 : decode F_X2_isInEachPledge.2.1 26 = .ok (.iand, 1) := by decide +kernel
theorem d_X2_isInEachPledge_27 : decode F_X2_isInEachPledge.2.1 27 = .ok (.ifCond .ne 5, 3) := by decide +kernel
theorem d_X2_isInEachPledge_30 : decode F_X2_isInEachPledge.2.1 30 = .ok (.iconst 0, 1) := by decide +kernel
theorem d_X2_isInEachPledge_31 : decode F_X2_isInEachPledge.2.1 31 = .ok (.ireturn, 1) := by decide +kernel
theorem d_X2_isInEachPledge_32 : decode F_X2_isInEachPledge.2.1 32 = .ok (.iinc 2 1, 3) := by decide +kernel
theorem d_X2_isInEachPledge_35 : decode F_X2_isInEachPledge.2.1 35 = .ok (.goto (-33), 3) := by decide +kernel
theorem d_X2_isInEachPledge_38 : decode F_X2_isInEachPledge.2.1 38 = .ok (.iconst 1, 1) := by decide +kernel
theorem d_X2_isInEachPledge_39 : decode F_X2_isInEachPledge.2.1 39 = .ok (.ireturn, 1) := by decide +kernel
def f_X2_isInEachPledge_j32_2 (μ : Mem) (a0 : Nat) (l1 : Int32) (l2 : Int32) : Option (Int32 ⊕ (Unit ⊕ Bool)) :=
some (.inl (l2 + 1))
def f_X2_isInEachPledge_b2 (μ : Mem) (a0 : Nat) (l1 : Int32) (l2 : Int32) : Option (Int32 ⊕ (Unit ⊕ Bool)) :=
if (2 * (μ a0 0)) ≤ l2 then
some (.inr (.inl ()))
else
Option.bind (f_X2_isPledged μ a0 l2) fun t1 =>
if t1 = true then
Option.bind (f_X2_partiesOf μ a0 l2) fun t2 =>
if (l1 &&& t2) = 0 then
some (.inr (.inr false))
else
f_X2_isInEachPledge_j32_2 μ a0 l1 l2
else
f_X2_isInEachPledge_j32_2 μ a0 l1 l2
def f_X2_isInEachPledge_j38 (μ : Mem) (a0 : Nat) : Option Bool :=
some true
def f_X2_isInEachPledge_l2 (μ : Mem) (a0 : Nat) (l1 : Int32) (l2 : Int32) : Option Bool := Option.bind (loopN 10000 (fun z : Int32 => f_X2_isInEachPledge_b2 μ a0 l1 z) l2) fun t : (Unit ⊕ Bool) => Sum.elim (fun e => f_X2_isInEachPledge_j38 μ a0) (fun x => some x) t
def f_X2_isInEachPledge (μ : Mem) (a0 : Nat) (p1 : Int32) : Option Bool :=
f_X2_isInEachPledge_l2 μ a0 p1 0
theorem s_X2_isInEachPledge_j32_2 {G : Gl} (hG : G.1.stackTraces = false) {C : Cx} {n : Nat} {μ : Mem} {a0 : Nat} {l1 : Int32} {l2 : Int32} (ha0 : a0 ∈ landL) {y : (Int32 ⊕ (Unit ⊕ Bool))} (hf : f_X2_isInEachPledge_j32_2 μ a0 l1 l2 = some y) (hK : (∀ z', y = .inl z' → ∀ n, V G C F_X2_isInEachPledge 2 [some (.ref (G.2.1 + a0)), some (.int l1), some (.int z')] [] (pic G μ) n 0 0) ∧ (∀ x', y = .inr x' → ((∀ x'', x' = .inl x'' → ∀ n, V G C F_X2_isInEachPledge 38 [none, none, none] [] (pic G μ) n 0 0) ∧ (∀ x''', x' = .inr x''' → FinR G C F_X2_isInEachPledge (some .boolean) (some (.int (b2i x'''))) μ)))) : V G C F_X2_isInEachPledge 32 [some (.ref (G.2.1 + a0)), some (.int l1), some (.int l2)] [] (pic G μ) n 0 0 := by
  unfold f_X2_isInEachPledge_j32_2 at hf
  refine V_iinc (v := (l2 + 1)) (ls' := [_, _, _]) d_X2_isInEachPledge_32 rfl (by rw [ic_1]) rfl ?_
  refine V_goto (tgt := 2) d_X2_isInEachPledge_35 (by decide) ?_
  refine V_less (ls' := [some _, some _, some _]) ⟨rfl, rfl, rfl, trivial⟩ ?_
  cases hf
  exact hK.1 _ rfl _
theorem s_X2_isInEachPledge_b2 {G : Gl} (hG : G.1.stackTraces = false) {C : Cx} {n : Nat} {μ : Mem} {a0 : Nat} {l1 : Int32} {l2 : Int32} (ha0 : a0 ∈ landL) {y : (Int32 ⊕ (Unit ⊕ Bool))} (hf : f_X2_isInEachPledge_b2 μ a0 l1 l2 = some y) (hK : (∀ z', y = .inl z' → ∀ n, V G C F_X2_isInEachPledge 2 [some (.ref (G.2.1 + a0)), some (.int l1), some (.int z')] [] (pic G μ) n 0 0) ∧ (∀ x', y = .inr x' → ((∀ x'', x' = .inl x'' → ∀ n, V G C F_X2_isInEachPledge 38 [none, none, none] [] (pic G μ) n 0 0) ∧ (∀ x''', x' = .inr x''' → FinR G C F_X2_isInEachPledge (some .boolean) (some (.int (b2i x'''))) μ)))) : V G C F_X2_isInEachPledge 2 [some (.ref (G.2.1 + a0)), some (.int l1), some (.int l2)] [] (pic G μ) n 0 0 := by
  unfold f_X2_isInEachPledge_b2 at hf
  refine V_iload_n d_X2_isInEachPledge_2 rfl rfl ?_
  refine V_iconst (v := 2) d_X2_isInEachPledge_3 ic_2 ?_
  refine V_aload_n d_X2_isInEachPledge_4 rfl rfl ?_
  refine B_get (kLand _ ha0) fl_RX2_9 d_X2_isInEachPledge_5 g_2_0 ?_
  refine V_imul d_X2_isInEachPledge_8 ?_
  refine V_icmp_ge (tgt := 38) d_X2_isInEachPledge_9 (by decide) (fun c9 => ?_) (fun c9 => ?_)
  · replace hf := iteT c9 hf
    refine V_less (ls' := [none, none, none]) trivial ?_
    cases hf
    exact (hK.2 _ rfl).1 _ rfl _
  · replace hf := iteF c9 hf
    refine V_aload_n d_X2_isInEachPledge_12 rfl rfl ?_
    refine V_iload_n d_X2_isInEachPledge_13 rfl rfl ?_
    obtain ⟨t1, ht1, hf⟩ := ob hf
    refine B_callV1 (s_X2_isPledged hG ha0 ht1) (kLand _ ha0) clX2 m_X2_isPledged kv_RX2_106 d_X2_isInEachPledge_14 rfl (Nat.le_of_ble_eq_true rfl) ⟨rfl, rfl, Nat.le_of_ble_eq_true rfl, Nat.le_of_ble_eq_true rfl, Nat.le_of_ble_eq_true rfl⟩ (fun n => ?_)
    refine V_if_eq (tgt := 32) d_X2_isInEachPledge_17 (by decide) (fun c17 => ?_) (fun c17 => ?_)
    · replace hf := iteF (b2i_nt (b2i_eq0 c17)) hf
      refine V_less (ls' := [some _, some _, some _]) ⟨rfl, rfl, rfl, trivial⟩ ?_
      exact s_X2_isInEachPledge_j32_2 hG ha0 hf hK
    · replace hf := iteT (b2i_ne0 c17) hf
      refine V_iload_n d_X2_isInEachPledge_20 rfl rfl ?_
      refine V_aload_n d_X2_isInEachPledge_21 rfl rfl ?_
      refine V_iload_n d_X2_isInEachPledge_22 rfl rfl ?_
      obtain ⟨t2, ht2, hf⟩ := ob hf
      refine B_callV1 (s_X2_partiesOf hG ha0 ht2) (kLand _ ha0) clX2 m_X2_partiesOf kv_RX2_172 d_X2_isInEachPledge_23 rfl (Nat.le_of_ble_eq_true rfl) ⟨rfl, rfl, Nat.le_of_ble_eq_true rfl, Nat.le_of_ble_eq_true rfl, Nat.le_of_ble_eq_true rfl⟩ (fun n => ?_)
      refine V_iand d_X2_isInEachPledge_26 ?_
      refine V_if_ne (tgt := 32) d_X2_isInEachPledge_27 (by decide) (fun c27 => ?_) (fun c27 => ?_)
      · replace hf := iteF c27 hf
        refine V_less (ls' := [some _, some _, some _]) ⟨rfl, rfl, rfl, trivial⟩ ?_
        exact s_X2_isInEachPledge_j32_2 hG ha0 hf hK
      · replace hf := iteT c27 hf
        refine V_iconst (v := 0) d_X2_isInEachPledge_30 ic_0 ?_
        cases hf
        exact R_z ((hK.2 _ rfl).2 _ rfl) d_X2_isInEachPledge_31 (Nat.le_of_ble_eq_true rfl) (Nat.le_of_ble_eq_true rfl)
theorem s_X2_isInEachPledge_j38 {G : Gl} (hG : G.1.stackTraces = false) {C : Cx} {n : Nat} {μ : Mem} {a0 : Nat} (ha0 : a0 ∈ landL) {r : Bool} (hf : f_X2_isInEachPledge_j38 μ a0 = some r) (hK : FinR G C F_X2_isInEachPledge (some .boolean) (some (.int (b2i r))) μ) : V G C F_X2_isInEachPledge 38 [none, none, none] [] (pic G μ) n 0 0 := by
  unfold f_X2_isInEachPledge_j38 at hf
  refine V_iconst (v := 1) d_X2_isInEachPledge_38 ic_1 ?_
  cases hf
  exact R_z hK d_X2_isInEachPledge_39 (Nat.le_of_ble_eq_true rfl) (Nat.le_of_ble_eq_true rfl)
theorem s_X2_isInEachPledge_l2 {G : Gl} (hG : G.1.stackTraces = false) {C : Cx} {n : Nat} {μ : Mem} {a0 : Nat} {l1 : Int32} {l2 : Int32} (ha0 : a0 ∈ landL) {r : Bool} (hf : f_X2_isInEachPledge_l2 μ a0 l1 l2 = some r) (hK : FinR G C F_X2_isInEachPledge (some .boolean) (some (.int (b2i r))) μ) : V G C F_X2_isInEachPledge 2 [some (.ref (G.2.1 + a0)), some (.int l1), some (.int l2)] [] (pic G μ) n 0 0 := by
  unfold f_X2_isInEachPledge_l2 at hf
  obtain ⟨t, hl, hf⟩ := ob hf
  refine loopV (P := fun z => ∀ n, V G C F_X2_isInEachPledge 2 [some (.ref (G.2.1 + a0)), some (.int l1), some (.int z)] [] (pic G μ) n 0 0) (t := t) ?_ _ _ hl n
  intro z y' hy hI hT n
  refine s_X2_isInEachPledge_b2 hG ha0 hy ⟨hI, fun x9 ex => ?_⟩
  have ex2 := hT x9 ex
  subst ex2
  refine ⟨fun e he => ?_, fun x2 hx => ?_⟩
  · subst he
    intro n
    exact s_X2_isInEachPledge_j38 hG ha0 hf hK
  · subst hx
    cases hf
    exact hK
theorem s_X2_isInEachPledge_e {G : Gl} (hG : G.1.stackTraces = false) {C : Cx} {n : Nat} {μ : Mem} {a0 : Nat} {p1 : Int32} (ha0 : a0 ∈ landL) {r : Bool} (hf : f_X2_isInEachPledge μ a0 p1 = some r) (hK : FinR G C F_X2_isInEachPledge (some .boolean) (some (.int (b2i r))) μ) : V G C F_X2_isInEachPledge 0 [some (.ref (G.2.1 + a0)), some (.int p1), none] [] (pic G μ) n 0 0 := by
  unfold f_X2_isInEachPledge at hf
  refine V_iconst (v := 0) d_X2_isInEachPledge_0 ic_0 ?_
  refine V_istore_n (ls' := [_, _, _]) d_X2_isInEachPledge_1 rfl rfl rfl ?_
  refine V_less (ls' := [some _, some _, some _]) ⟨rfl, rfl, rfl, trivial⟩ ?_
  exact s_X2_isInEachPledge_l2 hG ha0 hf hK
theorem s_X2_isInEachPledge {G : Gl} (hG : G.1.stackTraces = false) {μ : Mem} {a0 : Nat} {p1 : Int32} (ha0 : a0 ∈ landL) {r : Bool} (hf : f_X2_isInEachPledge μ a0 p1 = some r) : Rt G yX2_isInEachPledge F_X2_isInEachPledge (some .boolean) [.ref (G.2.1 + a0), .int p1] μ (some (.int (b2i r))) μ := fun n => Sd.of hG ⟨by decide +kernel, rfl, rfl⟩ rfl (Nat.le_of_ble_eq_true rfl) rfl (fun C hK => s_X2_isInEachPledge_e hG ha0 hf hK)
theorem d_X8_runOf_0 : decode F_X8_runOf.2.1 0 = .ok (.aload_n 0, 1) := by decide +kernel
theorem d_X8_runOf_1 : decode F_X8_runOf.2.1 1 = .ok (.getfield 22, 3) := by decide +kernel
theorem d_X8_runOf_4 : decode F_X8_runOf.2.1 4 = .ok (.istore_n 3, 1) := by decide +kernel
theorem d_X8_runOf_5 : decode F_X8_runOf.2.1 5 = .ok (.iload_n 3, 1) := by decide +kernel
theorem d_X8_runOf_6 : decode F_X8_runOf.2.1 6 = .ok (.aload_n 0, 1) := by decide +kernel
theorem d_X8_runOf_7 : decode F_X8_runOf.2.1 7 = .ok (.getfield 19, 3) := by decide +kernel
theorem d_X8_runOf_10 : decode F_X8_runOf.2.1 10 = .ok (.if_icmp .ge 29, 3) := by decide +kernel
theorem d_X8_runOf_13 : decode F_X8_runOf.2.1 13 = .ok (.aload_n 0, 1) := by decide +kernel
theorem d_X8_runOf_14 : decode F_X8_runOf.2.1 14 = .ok (.getfield 9, 3) := by decide +kernel
theorem d_X8_runOf_17 : decode F_X8_runOf.2.1 17 = .ok (.iload_n 3, 1) := by decide +kernel
theorem d_X8_runOf_18 : decode F_X8_runOf.2.1 18 = .ok (.iaload, 1) := by decide +kernel
theorem d_X8_runOf_19 : decode F_X8_runOf.2.1 19 = .ok (.iload_n 1, 1) := by decide +kernel
theorem d_X8_runOf_20 : decode F_X8_runOf.2.1 20 = .ok (.if_icmp .lt 19, 3) := by decide +kernel
theorem d_X8_runOf_23 : decode F_X8_runOf.2.1 23 = .ok (.aload_n 0, 1) := by decide +kernel
theorem d_X8_runOf_24 : decode F_X8_runOf.2.1 24 = .ok (.getfield 9, 3) := by decide +kernel
theorem d_X8_runOf_27 : decode F_X8_runOf.2.1 27 = .ok (.iload_n 3, 1) := by decide +kernel
theorem d_X8_runOf_28 : decode F_X8_runOf.2.1 28 = .ok (.iaload, 1) := by decide +kernel
theorem d_X8_runOf_29 : decode F_X8_runOf.2.1 29 = .ok (.iload_n 2, 1) := by decide +kernel
theorem d_X8_runOf_30 : decode F_X8_runOf.2.1 30 = .ok (.if_icmp .gt 9, 3) := by decide +kernel
theorem d_X8_runOf_33 : decode F_X8_runOf.2.1 33 = .ok (.iinc 3 1, 3) := by decide +kernel
theorem d_X8_runOf_36 : decode F_X8_runOf.2.1 36 = .ok (.goto (-31), 3) := by decide +kernel
theorem d_X8_runOf_39 : decode F_X8_runOf.2.1 39 = .ok (.iload_n 3, 1) := by decide +kernel
theorem d_X8_runOf_40 : decode F_X8_runOf.2.1 40 = .ok (.aload_n 0, 1) := by decide +kernel
theorem d_X8_runOf_41 : decode F_X8_runOf.2.1 41 = .ok (.getfield 22, 3) := by decide +kernel
theorem d_X8_runOf_44 : decode F_X8_runOf.2.1 44 = .ok (.isub, 1) := by decide +kernel
theorem d_X8_runOf_45 : decode F_X8_runOf.2.1 45 = .ok (.ireturn, 1) := by decide +kernel
def f_X8_runOf_b5 (μ : Mem) (l1 : Int32) (l2 : Int32) (l3 : Int32) : Option (Int32 ⊕ Int32) :=
if (μ 1 2) ≤ l3 then
some (.inr l3)
else
Option.bind (rd μ 2 400 l3) fun t1 =>
if t1 < l1 then
some (.inr l3)
else
Option.bind (rd μ 2 400 l3) fun t2 =>
if l2 < t2 then
some (.inr l3)
else
some (.inl (l3 + 1))
def f_X8_runOf_j39 (μ : Mem) (l3 : Int32) : Option Int32 :=
some (l3 - (μ 1 3))
def f_X8_runOf_l5 (μ : Mem) (l1 : Int32) (l2 : Int32) (l3 : Int32) : Option Int32 := Option.bind (loopN 10000 (fun z : Int32 => f_X8_runOf_b5 μ l1 l2 z) l3) fun t : Int32 => f_X8_runOf_j39 μ t
def f_X8_runOf (μ : Mem) (p1 : Int32) (p2 : Int32) : Option Int32 :=
f_X8_runOf_l5 μ p1 p2 (μ 1 3)
theorem s_X8_runOf_b5 {G : Gl} (hG : G.1.stackTraces = false) {C : Cx} {n : Nat} {μ : Mem} {l1 : Int32} {l2 : Int32} {l3 : Int32} {y : (Int32 ⊕ Int32)} (hf : f_X8_runOf_b5 μ l1 l2 l3 = some y) (hK : (∀ z', y = .inl z' → ∀ n, V G C F_X8_runOf 5 [some (.ref (G.2.1 + 1)), some (.int l1), some (.int l2), some (.int z')] [] (pic G μ) n 0 0) ∧ (∀ x', y = .inr x' → ∀ n, V G C F_X8_runOf 39 [some (.ref (G.2.1 + 1)), none, none, some (.int x')] [] (pic G μ) n 0 0)) : V G C F_X8_runOf 5 [some (.ref (G.2.1 + 1)), some (.int l1), some (.int l2), some (.int l3)] [] (pic G μ) n 0 0 := by
  unfold f_X8_runOf_b5 at hf
  refine V_iload_n d_X8_runOf_5 rfl rfl ?_
  refine V_aload_n d_X8_runOf_6 rfl rfl ?_
  refine B_get k_1 fl_RX8_19 d_X8_runOf_7 g_8_2 ?_
  refine V_icmp_ge (tgt := 39) d_X8_runOf_10 (by decide) (fun c10 => ?_) (fun c10 => ?_)
  · replace hf := iteT c10 hf
    refine V_less (ls' := [some _, none, none, some _]) ⟨rfl, rfl, trivial⟩ ?_
    cases hf
    exact hK.2 _ rfl _
  · replace hf := iteF c10 hf
    refine V_aload_n d_X8_runOf_13 rfl rfl ?_
    refine B_get k_1 fl_RX8_9 d_X8_runOf_14 g_8_0 ?_
    refine V_iload_n d_X8_runOf_17 rfl rfl ?_
    obtain ⟨t1, ht1, hf⟩ := ob hf
    refine B_iald k_2 ht1 d_X8_runOf_18 ?_
    refine V_iload_n d_X8_runOf_19 rfl rfl ?_
    refine V_icmp_lt (tgt := 39) d_X8_runOf_20 (by decide) (fun c20 => ?_) (fun c20 => ?_)
    · replace hf := iteT c20 hf
      refine V_less (ls' := [some _, none, none, some _]) ⟨rfl, rfl, trivial⟩ ?_
      cases hf
      exact hK.2 _ rfl _
    · replace hf := iteF c20 hf
      refine V_aload_n d_X8_runOf_23 rfl rfl ?_
      refine B_get k_1 fl_RX8_9 d_X8_runOf_24 g_8_0 ?_
      refine V_iload_n d_X8_runOf_27 rfl rfl ?_
      obtain ⟨t2, ht2, hf⟩ := ob hf
      refine B_iald k_2 ht2 d_X8_runOf_28 ?_
      refine V_iload_n d_X8_runOf_29 rfl rfl ?_
      refine V_icmp_gt (tgt := 39) d_X8_runOf_30 (by decide) (fun c30 => ?_) (fun c30 => ?_)
      · replace hf := iteT c30 hf
        refine V_less (ls' := [some _, none, none, some _]) ⟨rfl, rfl, trivial⟩ ?_
        cases hf
        exact hK.2 _ rfl _
      · replace hf := iteF c30 hf
        refine V_iinc (v := (l3 + 1)) (ls' := [_, _, _, _]) d_X8_runOf_33 rfl (by rw [ic_1]) rfl ?_
        refine V_goto (tgt := 5) d_X8_runOf_36 (by decide) ?_
        refine V_less (ls' := [some _, some _, some _, some _]) ⟨rfl, rfl, rfl, rfl, trivial⟩ ?_
        cases hf
        exact hK.1 _ rfl _
theorem s_X8_runOf_j39 {G : Gl} (hG : G.1.stackTraces = false) {C : Cx} {n : Nat} {μ : Mem} {l3 : Int32} {r : Int32} (hf : f_X8_runOf_j39 μ l3 = some r) (hK : FinR G C F_X8_runOf (some .int) (some (.int r)) μ) : V G C F_X8_runOf 39 [some (.ref (G.2.1 + 1)), none, none, some (.int l3)] [] (pic G μ) n 0 0 := by
  unfold f_X8_runOf_j39 at hf
  refine V_iload_n d_X8_runOf_39 rfl rfl ?_
  refine V_aload_n d_X8_runOf_40 rfl rfl ?_
  refine B_get k_1 fl_RX8_22 d_X8_runOf_41 g_8_3 ?_
  refine V_isub d_X8_runOf_44 ?_
  cases hf
  exact R_i hK d_X8_runOf_45 (Nat.le_of_ble_eq_true rfl) (Nat.le_of_ble_eq_true rfl)
theorem s_X8_runOf_l5 {G : Gl} (hG : G.1.stackTraces = false) {C : Cx} {n : Nat} {μ : Mem} {l1 : Int32} {l2 : Int32} {l3 : Int32} {r : Int32} (hf : f_X8_runOf_l5 μ l1 l2 l3 = some r) (hK : FinR G C F_X8_runOf (some .int) (some (.int r)) μ) : V G C F_X8_runOf 5 [some (.ref (G.2.1 + 1)), some (.int l1), some (.int l2), some (.int l3)] [] (pic G μ) n 0 0 := by
  unfold f_X8_runOf_l5 at hf
  obtain ⟨t, hl, hf⟩ := ob hf
  refine loopV (P := fun z => ∀ n, V G C F_X8_runOf 5 [some (.ref (G.2.1 + 1)), some (.int l1), some (.int l2), some (.int z)] [] (pic G μ) n 0 0) (t := t) ?_ _ _ hl n
  intro z y' hy hI hT n
  refine s_X8_runOf_b5 hG hy ⟨hI, fun x9 ex => ?_⟩
  have ex2 := hT x9 ex
  subst ex2
  intro n
  exact s_X8_runOf_j39 hG hf hK
theorem s_X8_runOf_e {G : Gl} (hG : G.1.stackTraces = false) {C : Cx} {n : Nat} {μ : Mem} {p1 : Int32} {p2 : Int32} {r : Int32} (hf : f_X8_runOf μ p1 p2 = some r) (hK : FinR G C F_X8_runOf (some .int) (some (.int r)) μ) : V G C F_X8_runOf 0 [some (.ref (G.2.1 + 1)), some (.int p1), some (.int p2), none] [] (pic G μ) n 0 0 := by
  unfold f_X8_runOf at hf
  refine V_aload_n d_X8_runOf_0 rfl rfl ?_
  refine B_get k_1 fl_RX8_22 d_X8_runOf_1 g_8_3 ?_
  refine V_istore_n (ls' := [_, _, _, _]) d_X8_runOf_4 rfl rfl rfl ?_
  refine V_less (ls' := [some _, some _, some _, some _]) ⟨rfl, rfl, rfl, rfl, trivial⟩ ?_
  exact s_X8_runOf_l5 hG hf hK
theorem s_X8_runOf {G : Gl} (hG : G.1.stackTraces = false) {μ : Mem} {p1 : Int32} {p2 : Int32} {r : Int32} (hf : f_X8_runOf μ p1 p2 = some r) : Rt G yX8_runOf F_X8_runOf (some .int) [.ref (G.2.1 + 1), .int p1, .int p2] μ (some (.int r)) μ := fun n => Sd.of hG ⟨by decide +kernel, rfl, rfl⟩ rfl (Nat.le_of_ble_eq_true rfl) rfl (fun C hK => s_X8_runOf_e hG hf hK)
theorem d_X8_moveTo_0 : decode F_X8_moveTo.2.1 0 = .ok (.aload_n 0, 1) := by decide +kernel
theorem d_X8_moveTo_1 : decode F_X8_moveTo.2.1 1 = .ok (.iload_n 1, 1) := by decide +kernel
theorem d_X8_moveTo_2 : decode F_X8_moveTo.2.1 2 = .ok (.putfield 22, 3) := by decide +kernel
theorem d_X8_moveTo_5 : decode F_X8_moveTo.2.1 5 = .ok (.aload_n 0, 1) := by decide +kernel
theorem d_X8_moveTo_6 : decode F_X8_moveTo.2.1 6 = .ok (.getfield 22, 3) := by decide +kernel
theorem d_X8_moveTo_9 : decode F_X8_moveTo.2.1 9 = .ok (.aload_n 0, 1) := by decide +kernel
theorem d_X8_moveTo_10 : decode F_X8_moveTo.2.1 10 = .ok (.getfield 19, 3) := by decide +kernel
theorem d_X8_moveTo_13 : decode F_X8_moveTo.2.1 13 = .ok (.if_icmp .ge 30, 3) := by decide +kernel
theorem d_X8_moveTo_16 : decode F_X8_moveTo.2.1 16 = .ok (.aload_n 0, 1) := by decide +kernel
theorem d_X8_moveTo_17 : decode F_X8_moveTo.2.1 17 = .ok (.getfield 9, 3) := by decide +kernel
theorem d_X8_moveTo_20 : decode F_X8_moveTo.2.1 20 = .ok (.aload_n 0, 1) := by decide +kernel
theorem d_X8_moveTo_21 : decode F_X8_moveTo.2.1 21 = .ok (.getfield 22, 3) := by decide +kernel
theorem d_X8_moveTo_24 : decode F_X8_moveTo.2.1 24 = .ok (.iaload, 1) := by decide +kernel
theorem d_X8_moveTo_25 : decode F_X8_moveTo.2.1 25 = .ok (.bipush 32, 2) := by decide +kernel
theorem d_X8_moveTo_27 : decode F_X8_moveTo.2.1 27 = .ok (.if_icmp .ne 16, 3) := by decide +kernel
theorem d_X8_moveTo_30 : decode F_X8_moveTo.2.1 30 = .ok (.aload_n 0, 1) := by decide +kernel
theorem d_X8_moveTo_31 : decode F_X8_moveTo.2.1 31 = .ok (.dup, 1) := by decide +kernel
theorem d_X8_moveTo_32 : decode F_X8_moveTo.2.1 32 = .ok (.getfield 22, 3) := by decide +kernel
theorem d_X8_moveTo_35 : decode F_X8_moveTo.2.1 35 = .ok (.iconst 1, 1) := by decide +kernel
theorem d_X8_moveTo_36 : decode F_X8_moveTo.2.1 36 = .ok (.iadd, 1) := by decide +kernel
theorem d_X8_moveTo_37 : decode F_X8_moveTo.2.1 37 = .ok (.putfield 22, 3) := by decide +kernel
theorem d_X8_moveTo_40 : decode F_X8_moveTo.2.1 40 = .ok (.goto (-35), 3) := by decide +kernel
theorem d_X8_moveTo_43 : decode F_X8_moveTo.2.1 43 = .ok (.return_, 1) := by decide +kernel
def f_X8_moveTo_b5 (μ : Mem) : Option (Mem ⊕ Mem) :=
if (μ 1 2) ≤ (μ 1 3) then
some (.inr μ)
else
Option.bind (rd μ 2 400 (μ 1 3)) fun t1 =>
if t1 = 32 then
some (.inl (mset μ 1 3 ((μ 1 3) + 1)))
else
some (.inr μ)
def f_X8_moveTo_j43 (μ : Mem) : Option Mem :=
some μ
def f_X8_moveTo_l5 (μ : Mem) : Option Mem := Option.bind (loopN 10000 (fun z : Mem => f_X8_moveTo_b5 z) μ) fun t : Mem => f_X8_moveTo_j43 t
def f_X8_moveTo (μ : Mem) (p1 : Int32) : Option Mem :=
f_X8_moveTo_l5 (mset μ 1 3 p1)
theorem s_X8_moveTo_b5 {G : Gl} (hG : G.1.stackTraces = false) {C : Cx} {n : Nat} {μ : Mem}  {y : (Mem ⊕ Mem)} (hf : f_X8_moveTo_b5 μ = some y) (hK : (∀ z', y = .inl z' → ∀ n, V G C F_X8_moveTo 5 [some (.ref (G.2.1 + 1)), none] [] (pic G z') n 0 0) ∧ (∀ x', y = .inr x' → ∀ n, V G C F_X8_moveTo 43 [none, none] [] (pic G x') n 0 0)) : V G C F_X8_moveTo 5 [some (.ref (G.2.1 + 1)), none] [] (pic G μ) n 0 0 := by
  unfold f_X8_moveTo_b5 at hf
  refine V_aload_n d_X8_moveTo_5 rfl rfl ?_
  refine B_get k_1 fl_RX8_22 d_X8_moveTo_6 g_8_3 ?_
  refine V_aload_n d_X8_moveTo_9 rfl rfl ?_
  refine B_get k_1 fl_RX8_19 d_X8_moveTo_10 g_8_2 ?_
  refine V_icmp_ge (tgt := 43) d_X8_moveTo_13 (by decide) (fun c13 => ?_) (fun c13 => ?_)
  · replace hf := iteT c13 hf
    refine V_less (ls' := [none, none]) trivial ?_
    cases hf
    exact hK.2 _ rfl _
  · replace hf := iteF c13 hf
    refine V_aload_n d_X8_moveTo_16 rfl rfl ?_
    refine B_get k_1 fl_RX8_9 d_X8_moveTo_17 g_8_0 ?_
    refine V_aload_n d_X8_moveTo_20 rfl rfl ?_
    refine B_get k_1 fl_RX8_22 d_X8_moveTo_21 g_8_3 ?_
    obtain ⟨t1, ht1, hf⟩ := ob hf
    refine B_iald k_2 ht1 d_X8_moveTo_24 ?_
    refine V_bipush (v := 32) d_X8_moveTo_25 bp_32 ?_
    refine V_icmp_ne (tgt := 43) d_X8_moveTo_27 (by decide) (fun c27 => ?_) (fun c27 => ?_)
    · replace hf := iteF c27 hf
      refine V_less (ls' := [none, none]) trivial ?_
      cases hf
      exact hK.2 _ rfl _
    · replace hf := iteT c27 hf
      refine V_aload_n d_X8_moveTo_30 rfl rfl ?_
      refine V_dup d_X8_moveTo_31 rfl ?_
      refine B_get k_1 fl_RX8_22 d_X8_moveTo_32 g_8_3 ?_
      refine V_iconst (v := 1) d_X8_moveTo_35 ic_1 ?_
      refine V_iadd d_X8_moveTo_36 ?_
      refine B_putI k_1 fl_RX8_22 pt_8_3 (Nat.le_of_ble_eq_true rfl) p_8_3 d_X8_moveTo_37 ?_
      refine V_goto (tgt := 5) d_X8_moveTo_40 (by decide) ?_
      refine V_less (ls' := [some _, none]) ⟨rfl, trivial⟩ ?_
      cases hf
      exact hK.1 _ rfl _
theorem s_X8_moveTo_j43 {G : Gl} (hG : G.1.stackTraces = false) {C : Cx} {n : Nat} {μ : Mem}  {r : Mem} (hf : f_X8_moveTo_j43 μ = some r) (hK : FinR G C F_X8_moveTo none none r) : V G C F_X8_moveTo 43 [none, none] [] (pic G μ) n 0 0 := by
  unfold f_X8_moveTo_j43 at hf
  cases hf
  exact R_v hK d_X8_moveTo_43 (Nat.le_of_ble_eq_true rfl) (Nat.le_of_ble_eq_true rfl)
theorem s_X8_moveTo_l5 {G : Gl} (hG : G.1.stackTraces = false) {C : Cx} {n : Nat} {μ : Mem}  {r : Mem} (hf : f_X8_moveTo_l5 μ = some r) (hK : FinR G C F_X8_moveTo none none r) : V G C F_X8_moveTo 5 [some (.ref (G.2.1 + 1)), none] [] (pic G μ) n 0 0 := by
  unfold f_X8_moveTo_l5 at hf
  obtain ⟨t, hl, hf⟩ := ob hf
  refine loopV (P := fun z => ∀ n, V G C F_X8_moveTo 5 [some (.ref (G.2.1 + 1)), none] [] (pic G z) n 0 0) (t := t) ?_ _ _ hl n
  intro z y' hy hI hT n
  refine s_X8_moveTo_b5 hG hy ⟨hI, fun x9 ex => ?_⟩
  have ex2 := hT x9 ex
  subst ex2
  intro n
  exact s_X8_moveTo_j43 hG hf hK
theorem s_X8_moveTo_e {G : Gl} (hG : G.1.stackTraces = false) {C : Cx} {n : Nat} {μ : Mem} {p1 : Int32} {r : Mem} (hf : f_X8_moveTo μ p1 = some r) (hK : FinR G C F_X8_moveTo none none r) : V G C F_X8_moveTo 0 [some (.ref (G.2.1 + 1)), some (.int p1)] [] (pic G μ) n 0 0 := by
  unfold f_X8_moveTo at hf
  refine V_aload_n d_X8_moveTo_0 rfl rfl ?_
  refine V_iload_n d_X8_moveTo_1 rfl rfl ?_
  refine B_putI k_1 fl_RX8_22 pt_8_3 (Nat.le_of_ble_eq_true rfl) p_8_3 d_X8_moveTo_2 ?_
  refine V_less (ls' := [some _, none]) ⟨rfl, trivial⟩ ?_
  exact s_X8_moveTo_l5 hG hf hK
theorem s_X8_moveTo {G : Gl} (hG : G.1.stackTraces = false) {μ : Mem} {p1 : Int32} {r : Mem} (hf : f_X8_moveTo μ p1 = some r) : Rt G yX8_moveTo F_X8_moveTo none [.ref (G.2.1 + 1), .int p1] μ none r := fun n => Sd.of hG ⟨by decide +kernel, rfl, rfl⟩ rfl (Nat.le_of_ble_eq_true rfl) rfl (fun C hK => s_X8_moveTo_e hG hf hK)
theorem d_X8_refuse_0 : decode F_X8_refuse.2.1 0 = .ok (.aload_n 0, 1) := by decide +kernel
theorem d_X8_refuse_1 : decode F_X8_refuse.2.1 1 = .ok (.getfield 25, 3) := by decide +kernel
theorem d_X8_refuse_4 : decode F_X8_refuse.2.1 4 = .ok (.iconst (-1), 1) := by decide +kernel
theorem d_X8_refuse_5 : decode F_X8_refuse.2.1 5 = .ok (.if_icmp .ne 8, 3) := by decide +kernel
theorem d_X8_refuse_8 : decode F_X8_refuse.2.1 8 = .ok (.aload_n 0, 1) := by decide +kernel
theorem d_X8_refuse_9 : decode F_X8_refuse.2.1 9 = .ok (.iload_n 1, 1) := by decide +kernel
theorem d_X8_refuse_10 : decode F_X8_refuse.2.1 10 = .ok (.putfield 25, 3) := by decide +kernel
theorem d_X8_refuse_13 : decode F_X8_refuse.2.1 13 = .ok (.return_, 1) := by decide +kernel
def f_X8_refuse_j13 (μ : Mem) : Option Mem :=
some μ
def f_X8_refuse (μ : Mem) (p1 : Int32) : Option Mem :=
if (μ 1 4) = (-1) then
f_X8_refuse_j13 (mset μ 1 4 p1)
else
f_X8_refuse_j13 μ
theorem s_X8_refuse_j13 {G : Gl} (hG : G.1.stackTraces = false) {C : Cx} {n : Nat} {μ : Mem}  {r : Mem} (hf : f_X8_refuse_j13 μ = some r) (hK : FinR G C F_X8_refuse none none r) : V G C F_X8_refuse 13 [none, none] [] (pic G μ) n 0 0 := by
  unfold f_X8_refuse_j13 at hf
  cases hf
  exact R_v hK d_X8_refuse_13 (Nat.le_of_ble_eq_true rfl) (Nat.le_of_ble_eq_true rfl)
theorem s_X8_refuse_e {G : Gl} (hG : G.1.stackTraces = false) {C : Cx} {n : Nat} {μ : Mem} {p1 : Int32} {r : Mem} (hf : f_X8_refuse μ p1 = some r) (hK : FinR G C F_X8_refuse none none r) : V G C F_X8_refuse 0 [some (.ref (G.2.1 + 1)), some (.int p1)] [] (pic G μ) n 0 0 := by
  unfold f_X8_refuse at hf
  refine V_aload_n d_X8_refuse_0 rfl rfl ?_
  refine B_get k_1 fl_RX8_25 d_X8_refuse_1 g_8_4 ?_
  refine V_iconst (v := (-1)) d_X8_refuse_4 ic_m1 ?_
  refine V_icmp_ne (tgt := 13) d_X8_refuse_5 (by decide) (fun c5 => ?_) (fun c5 => ?_)
  · replace hf := iteF c5 hf
    refine V_less (ls' := [none, none]) trivial ?_
    exact s_X8_refuse_j13 hG hf hK
  · replace hf := iteT c5 hf
    refine V_aload_n d_X8_refuse_8 rfl rfl ?_
    refine V_iload_n d_X8_refuse_9 rfl rfl ?_
    refine B_putI k_1 fl_RX8_25 pt_8_4 (Nat.le_of_ble_eq_true rfl) p_8_4 d_X8_refuse_10 ?_
    refine V_less (ls' := [none, none]) trivial ?_
    exact s_X8_refuse_j13 hG hf hK
theorem s_X8_refuse {G : Gl} (hG : G.1.stackTraces = false) {μ : Mem} {p1 : Int32} {r : Mem} (hf : f_X8_refuse μ p1 = some r) : Rt G yX8_refuse F_X8_refuse none [.ref (G.2.1 + 1), .int p1] μ none r := fun n => Sd.of hG ⟨by decide +kernel, rfl, rfl⟩ rfl (Nat.le_of_ble_eq_true rfl) rfl (fun C hK => s_X8_refuse_e hG hf hK)
theorem d_X11_isOutside_0 : decode F_X11_isOutside.2.1 0 = .ok (.iload_n 0, 1) := by decide +kernel
theorem d_X11_isOutside_1 : decode F_X11_isOutside.2.1 1 = .ok (.iload_n 1, 1) := by decide +kernel
theorem d_X11_isOutside_2 : decode F_X11_isOutside.2.1 2 = .ok (.if_icmp .lt 8, 3) := by decide +kernel
theorem d_X11_isOutside_5 : decode F_X11_isOutside.2.1 5 = .ok (.iload_n 0, 1) := by decide +kernel
theorem d_X11_isOutside_6 : decode F_X11_isOutside.2.1 6 = .ok (.iload_n 2, 1) := by decide +kernel
theorem d_X11_isOutside_7 : decode F_X11_isOutside.2.1 7 = .ok (.if_icmp .le 7, 3) := by decide +kernel
theorem d_X11_isOutside_10 : decode F_X11_isOutside.2.1 10 = .ok (.iconst 1, 1) := by decide +kernel
theorem d_X11_isOutside_11 : decode F_X11_isOutside.2.1 11 = .ok (.goto 4, 3) := by decide +kernel
theorem d_X11_isOutside_14 : decode F_X11_isOutside.2.1 14 = .ok (.iconst 0, 1) := by decide +kernel
theorem d_X11_isOutside_15 : decode F_X11_isOutside.2.1 15 = .ok (.ireturn, 1) := by decide +kernel
def f_X11_isOutside (μ : Mem) (p0 : Int32) (p1 : Int32) (p2 : Int32) : Option Bool :=
some (if p0 < p1 then true else (if p0 ≤ p2 then false else true))
theorem s_X11_isOutside_e {G : Gl} (hG : G.1.stackTraces = false) {C : Cx} {n : Nat} {μ : Mem} {p0 : Int32} {p1 : Int32} {p2 : Int32} {r : Bool} (hf : f_X11_isOutside μ p0 p1 p2 = some r) (hK : FinR G C F_X11_isOutside (some .boolean) (some (.int (b2i r))) μ) : V G C F_X11_isOutside 0 [some (.int p0), some (.int p1), some (.int p2)] [] (pic G μ) n 0 0 := by
  unfold f_X11_isOutside at hf
  refine V_iload_n d_X11_isOutside_0 rfl rfl ?_
  refine V_iload_n d_X11_isOutside_1 rfl rfl ?_
  have hJj1 : ∀ j1 : Bool, j1 = (if p0 < p1 then true else (if p0 ≤ p2 then false else true)) → V G C F_X11_isOutside 15 [none, none, none] [.int (b2i j1)] (pic G μ) n 0 0 := by
    intro j1 ej1
    subst ej1
    cases hf
    exact R_z hK d_X11_isOutside_15 (Nat.le_of_ble_eq_true rfl) (Nat.le_of_ble_eq_true rfl)
  refine V_icmp_lt (tgt := 10) d_X11_isOutside_2 (by decide) (fun c2 => ?_) (fun c2 => ?_)
  · refine V_iconst (v := 1) d_X11_isOutside_10 ic_1 ?_
    refine V_goto (tgt := 15) d_X11_isOutside_11 (by decide) ?_
    refine V_less (ls' := [none, none, none]) trivial ?_
    exact hJj1 true (by rw [if_pos c2])
  · refine V_iload_n d_X11_isOutside_5 rfl rfl ?_
    refine V_iload_n d_X11_isOutside_6 rfl rfl ?_
    refine V_icmp_le (tgt := 14) d_X11_isOutside_7 (by decide) (fun c7 => ?_) (fun c7 => ?_)
    · refine V_iconst (v := 0) d_X11_isOutside_14 ic_0 ?_
      refine V_less (ls' := [none, none, none]) trivial ?_
      exact hJj1 false (by rw [if_neg c2, if_pos c7])
    · refine V_iconst (v := 1) d_X11_isOutside_10 ic_1 ?_
      refine V_goto (tgt := 15) d_X11_isOutside_11 (by decide) ?_
      refine V_less (ls' := [none, none, none]) trivial ?_
      exact hJj1 true (by rw [if_neg c2, if_neg c7])
theorem s_X11_isOutside {G : Gl} (hG : G.1.stackTraces = false) {μ : Mem} {p0 : Int32} {p1 : Int32} {p2 : Int32} {r : Bool} (hf : f_X11_isOutside μ p0 p1 p2 = some r) : Rt G yX11_isOutside F_X11_isOutside (some .boolean) [.int p0, .int p1, .int p2] μ (some (.int (b2i r))) μ := fun n => Sd.of hG ⟨by decide +kernel, rfl, rfl⟩ rfl (Nat.le_of_ble_eq_true rfl) rfl (fun C hK => s_X11_isOutside_e hG hf hK)
theorem d_X8_takeNumber_0 : decode F_X8_takeNumber.2.1 0 = .ok (.aload_n 0, 1) := by decide +kernel
theorem d_X8_takeNumber_1 : decode F_X8_takeNumber.2.1 1 = .ok (.bipush 48, 2) := by decide +kernel
theorem d_X8_takeNumber_3 : decode F_X8_takeNumber.2.1 3 = .ok (.bipush 57, 2) := by decide +kernel
theorem d_X8_takeNumber_5 : decode F_X8_takeNumber.2.1 5 = .ok (.invokevirtual 36, 3) := by decide +kernel
theorem d_X8_takeNumber_8 : decode F_X8_takeNumber.2.1 8 = .ok (.istore_n 3, 1) := by decide +kernel
theorem d_X8_takeNumber_9 : decode F_X8_takeNumber.2.1 9 = .ok (.iload_n 3, 1) := by decide +kernel
theorem d_X8_takeNumber_10 : decode F_X8_takeNumber.2.1 10 = .ok (.iconst 1, 1) := by decide +kernel
theorem d_X8_takeNumber_11 : decode F_X8_takeNumber.2.1 11 = .ok (.if_icmp .lt 8, 3) := by decide +kernel
theorem d_X8_takeNumber_14 : decode F_X8_takeNumber.2.1 14 = .ok (.iload_n 3, 1) := by decide +kernel
theorem d_X8_takeNumber_15 : decode F_X8_takeNumber.2.1 15 = .ok (.iconst 3, 1) := by decide +kernel
theorem d_X8_takeNumber_16 : decode F_X8_takeNumber.2.1 16 = .ok (.if_icmp .le 13, 3) := by decide +kernel
theorem d_X8_takeNumber_19 : decode F_X8_takeNumber.2.1 19 = .ok (.aload_n 0, 1) := by decide +kernel
theorem d_X8_takeNumber_20 : decode F_X8_takeNumber.2.1 20 = .ok (.aload_n 0, 1) := by decide +kernel
theorem d_X8_takeNumber_21 : decode F_X8_takeNumber.2.1 21 = .ok (.getfield 22, 3) := by decide +kernel
theorem d_X8_takeNumber_24 : decode F_X8_takeNumber.2.1 24 = .ok (.invokevirtual 52, 3) := by decide +kernel
theorem d_X8_takeNumber_27 : decode F_X8_takeNumber.2.1 27 = .ok (.iload_n 1, 1) := by decide +kernel
theorem d_X8_takeNumber_28 : decode F_X8_takeNumber.2.1 28 = .ok (.ireturn, 1) := by decide +kernel
theorem d_X8_takeNumber_29 : decode F_X8_takeNumber.2.1 29 = .ok (.iconst 0, 1) := by decide +kernel
theorem d_X8_takeNumber_30 : decode F_X8_takeNumber.2.1 30 = .ok (.istore 4, 2) := by decide +kernel
theorem d_X8_takeNumber_32 : decode F_X8_takeNumber.2.1 32 = .ok (.iconst 0, 1) := by decide +kernel
theorem d_X8_takeNumber_33 : decode F_X8_takeNumber.2.1 33 = .ok (.istore 5, 2) := by decide +kernel
theorem d_X8_takeNumber_35 : decode F_X8_takeNumber.2.1 35 = .ok (.iload 5, 2) := by decide +kernel
theorem d_X8_takeNumber_37 : decode F_X8_takeNumber.2.1 37 = .ok (.iload_n 3, 1) := by decide +kernel
theorem d_X8_takeNumber_38 : decode F_X8_takeNumber.2.1 38 = .ok (.if_icmp .ge 32, 3) := by decide +kernel
theorem d_X8_takeNumber_41 : decode F_X8_takeNumber.2.1 41 = .ok (.bipush 10, 2) := by decide +kernel
theorem d_X8_takeNumber_43 : decode F_X8_takeNumber.2.1 43 = .ok (.iload 4, 2) := by decide +kernel
theorem d_X8_takeNumber_45 : decode F_X8_takeNumber.2.1 45 = .ok (.imul, 1) := by decide +kernel
theorem d_X8_takeNumber_46 : decode F_X8_takeNumber.2.1 46 = .ok (.aload_n 0, 1) := by decide +kernel
theorem d_X8_takeNumber_47 : decode F_X8_takeNumber.2.1 47 = .ok (.getfield 9, 3) := by decide +kernel
theorem d_X8_takeNumber_50 : decode F_X8_takeNumber.2.1 50 = .ok (.aload_n 0, 1) := by decide +kernel
theorem d_X8_takeNumber_51 : decode F_X8_takeNumber.2.1 51 = .ok (.getfield 22, 3) := by decide +kernel
theorem d_X8_takeNumber_54 : decode F_X8_takeNumber.2.1 54 = .ok (.iload 5, 2) := by decide +kernel
theorem d_X8_takeNumber_56 : decode F_X8_takeNumber.2.1 56 = .ok (.iadd, 1) := by decide +kernel
theorem d_X8_takeNumber_57 : decode F_X8_takeNumber.2.1 57 = .ok (.iaload, 1) := by decide +kernel
theorem d_X8_takeNumber_58 : decode F_X8_takeNumber.2.1 58 = .ok (.iadd, 1) := by decide +kernel
theorem d_X8_takeNumber_59 : decode F_X8_takeNumber.2.1 59 = .ok (.bipush 48, 2) := by decide +kernel
theorem d_X8_takeNumber_61 : decode F_X8_takeNumber.2.1 61 = .ok (.isub, 1) := by decide +kernel
theorem d_X8_takeNumber_62 : decode F_X8_takeNumber.2.1 62 = .ok (.istore 4, 2) := by decide +kernel
theorem d_X8_takeNumber_64 : decode F_X8_takeNumber.2.1 64 = .ok (.iinc 5 1, 3) := by decide +kernel
theorem d_X8_takeNumber_67 : decode F_X8_takeNumber.2.1 67 = .ok (.goto (-32), 3) := by decide +kernel
theorem d_X8_takeNumber_70 : decode F_X8_takeNumber.2.1 70 = .ok (.iload 4, 2) := by decide +kernel
theorem d_X8_takeNumber_72 : decode F_X8_takeNumber.2.1 72 = .ok (.iload_n 1, 1) := by decide +kernel
theorem d_X8_takeNumber_73 : decode F_X8_takeNumber.2.1 73 = .ok (.iload_n 2, 1) := by decide +kernel
theorem d_X8_takeNumber_74 : decode F_X8_takeNumber.2.1 74 = .ok (.invokestatic 59, 3) := by decide +kernel
theorem d_X8_takeNumber_77 : decode F_X8_takeNumber.2.1 77 = .ok (.ifCond .eq 13, 3) := by decide +kernel
theorem d_X8_takeNumber_80 : decode F_X8_takeNumber.2.1 80 = .ok (.aload_n 0, 1) := by decide +kernel
theorem d_X8_takeNumber_81 : decode F_X8_takeNumber.2.1 81 = .ok (.aload_n 0, 1) := by decide +kernel
theorem d_X8_takeNumber_82 : decode F_X8_takeNumber.2.1 82 = .ok (.getfield 22, 3) := by decide +kernel
theorem d_X8_takeNumber_85 : decode F_X8_takeNumber.2.1 85 = .ok (.invokevirtual 52, 3) := by decide +kernel
theorem d_X8_takeNumber_88 : decode F_X8_takeNumber.2.1 88 = .ok (.iload_n 1, 1) := by decide +kernel
theorem d_X8_takeNumber_89 : decode F_X8_takeNumber.2.1 89 = .ok (.ireturn, 1) := by decide +kernel
theorem d_X8_takeNumber_90 : decode F_X8_takeNumber.2.1 90 = .ok (.aload_n 0, 1) := by decide +kernel
theorem d_X8_takeNumber_91 : decode F_X8_takeNumber.2.1 91 = .ok (.aload_n 0, 1) := by decide +kernel
theorem d_X8_takeNumber_92 : decode F_X8_takeNumber.2.1 92 = .ok (.getfield 22, 3) := by decide +kernel
theorem d_X8_takeNumber_95 : decode F_X8_takeNumber.2.1 95 = .ok (.iload_n 3, 1) := by decide +kernel
theorem d_X8_takeNumber_96 : decode F_X8_takeNumber.2.1 96 = .ok (.iadd, 1) := by decide +kernel
theorem d_X8_takeNumber_97 : decode F_X8_takeNumber.2.1 97 = .ok (.invokevirtual 32, 3) := by decide +kernel
theorem d_X8_takeNumber_100 : decode F_X8_takeNumber.2.1 100 = .ok (.iload 4, 2) := by decide +kernel
theorem d_X8_takeNumber_102 : decode F_X8_takeNumber.2.1 102 = .ok (.ireturn, 1) := by decide +kernel
def f_X8_takeNumber_j19 (μ : Mem) (l1 : Int32) : Option (Int32 × Mem) :=
Option.bind (f_X8_refuse μ (μ 1 3)) fun q1 =>
some (l1, q1)
def f_X8_takeNumber_b35 (μ : Mem) (l1 : Int32) (l2 : Int32) (l3 : Int32) (l4 : Int32) (l5 : Int32) : Option ((Int32 × Int32) ⊕ Int32) :=
if l3 ≤ l5 then
some (.inr l4)
else
Option.bind (rd μ 2 400 ((μ 1 3) + l5)) fun t1 =>
some (.inl ((((10 * l4) + t1) - 48), (l5 + 1)))
def f_X8_takeNumber_j70 (μ : Mem) (l1 : Int32) (l2 : Int32) (l3 : Int32) (l4 : Int32) : Option (Int32 × Mem) :=
Option.bind (f_X11_isOutside μ l4 l1 l2) fun t1 =>
if t1 = true then
Option.bind (f_X8_refuse μ (μ 1 3)) fun q3 =>
some (l1, q3)
else
Option.bind (f_X8_moveTo μ ((μ 1 3) + l3)) fun q2 =>
some (l4, q2)
def f_X8_takeNumber_l35 (μ : Mem) (l1 : Int32) (l2 : Int32) (l3 : Int32) (l4 : Int32) (l5 : Int32) : Option (Int32 × Mem) := Option.bind (loopN 10000 (fun z : (Int32 × Int32) => f_X8_takeNumber_b35 μ l1 l2 l3 z.1 z.2) (l4, l5)) fun t : Int32 => f_X8_takeNumber_j70 μ l1 l2 l3 t
def f_X8_takeNumber (μ : Mem) (p1 : Int32) (p2 : Int32) : Option (Int32 × Mem) :=
Option.bind (f_X8_runOf μ 48 57) fun t1 =>
if t1 < 1 then
f_X8_takeNumber_j19 μ p1
else
if t1 ≤ 3 then
f_X8_takeNumber_l35 μ p1 p2 t1 0 0
else
f_X8_takeNumber_j19 μ p1
theorem s_X8_takeNumber_j19 {G : Gl} (hG : G.1.stackTraces = false) {C : Cx} {n : Nat} {μ : Mem} {l1 : Int32} {r : (Int32 × Mem)} (hf : f_X8_takeNumber_j19 μ l1 = some r) (hK : FinR G C F_X8_takeNumber (some .int) (some (.int r.1)) r.2) : V G C F_X8_takeNumber 19 [some (.ref (G.2.1 + 1)), some (.int l1), none, none, none, none] [] (pic G μ) n 0 0 := by
  unfold f_X8_takeNumber_j19 at hf
  refine V_aload_n d_X8_takeNumber_19 rfl rfl ?_
  refine V_aload_n d_X8_takeNumber_20 rfl rfl ?_
  refine B_get k_1 fl_RX8_22 d_X8_takeNumber_21 g_8_3 ?_
  obtain ⟨q1, hq1, hf⟩ := ob hf
  refine B_callV0 (s_X8_refuse hG hq1) k_1 clX8 m_X8_refuse kv_RX8_52 d_X8_takeNumber_24 rfl (Nat.le_of_ble_eq_true rfl) ⟨rfl, rfl, Nat.le_of_ble_eq_true rfl, Nat.le_of_ble_eq_true rfl, Nat.le_of_ble_eq_true rfl⟩ (fun n => ?_)
  refine V_iload_n d_X8_takeNumber_27 rfl rfl ?_
  cases hf
  exact R_i hK d_X8_takeNumber_28 (Nat.le_of_ble_eq_true rfl) (Nat.le_of_ble_eq_true rfl)
theorem s_X8_takeNumber_b35 {G : Gl} (hG : G.1.stackTraces = false) {C : Cx} {n : Nat} {μ : Mem} {l1 : Int32} {l2 : Int32} {l3 : Int32} {l4 : Int32} {l5 : Int32} {y : ((Int32 × Int32) ⊕ Int32)} (hf : f_X8_takeNumber_b35 μ l1 l2 l3 l4 l5 = some y) (hK : (∀ z', y = .inl z' → ∀ n, V G C F_X8_takeNumber 35 [some (.ref (G.2.1 + 1)), some (.int l1), some (.int l2), some (.int l3), some (.int z'.1), some (.int z'.2)] [] (pic G μ) n 0 0) ∧ (∀ x', y = .inr x' → ∀ n, V G C F_X8_takeNumber 70 [some (.ref (G.2.1 + 1)), some (.int l1), some (.int l2), some (.int l3), some (.int x'), none] [] (pic G μ) n 0 0)) : V G C F_X8_takeNumber 35 [some (.ref (G.2.1 + 1)), some (.int l1), some (.int l2), some (.int l3), some (.int l4), some (.int l5)] [] (pic G μ) n 0 0 := by
  unfold f_X8_takeNumber_b35 at hf
  refine V_iload d_X8_takeNumber_35 rfl ?_
  refine V_iload_n d_X8_takeNumber_37 rfl rfl ?_
  refine V_icmp_ge (tgt := 70) d_X8_takeNumber_38 (by decide) (fun c38 => ?_) (fun c38 => ?_)
  · replace hf := iteT c38 hf
    refine V_less (ls' := [some _, some _, some _, some _, some _, none]) ⟨rfl, rfl, rfl, rfl, rfl, trivial⟩ ?_
    cases hf
    exact hK.2 _ rfl _
  · replace hf := iteF c38 hf
    refine V_bipush (v := 10) d_X8_takeNumber_41 bp_10 ?_
    refine V_iload d_X8_takeNumber_43 rfl ?_
    refine V_imul d_X8_takeNumber_45 ?_
    refine V_aload_n d_X8_takeNumber_46 rfl rfl ?_
    refine B_get k_1 fl_RX8_9 d_X8_takeNumber_47 g_8_0 ?_
    refine V_aload_n d_X8_takeNumber_50 rfl rfl ?_
    refine B_get k_1 fl_RX8_22 d_X8_takeNumber_51 g_8_3 ?_
    refine V_iload d_X8_takeNumber_54 rfl ?_
    refine V_iadd d_X8_takeNumber_56 ?_
    obtain ⟨t1, ht1, hf⟩ := ob hf
    refine B_iald k_2 ht1 d_X8_takeNumber_57 ?_
    refine V_iadd d_X8_takeNumber_58 ?_
    refine V_bipush (v := 48) d_X8_takeNumber_59 bp_48 ?_
    refine V_isub d_X8_takeNumber_61 ?_
    refine V_istore (ls' := [_, _, _, _, _, _]) d_X8_takeNumber_62 rfl rfl ?_
    refine V_iinc (v := (l5 + 1)) (ls' := [_, _, _, _, _, _]) d_X8_takeNumber_64 rfl (by rw [ic_1]) rfl ?_
    refine V_goto (tgt := 35) d_X8_takeNumber_67 (by decide) ?_
    refine V_less (ls' := [some _, some _, some _, some _, some _, some _]) ⟨rfl, rfl, rfl, rfl, rfl, rfl, trivial⟩ ?_
    cases hf
    exact hK.1 _ rfl _
theorem s_X8_takeNumber_j70 {G : Gl} (hG : G.1.stackTraces = false) {C : Cx} {n : Nat} {μ : Mem} {l1 : Int32} {l2 : Int32} {l3 : Int32} {l4 : Int32} {r : (Int32 × Mem)} (hf : f_X8_takeNumber_j70 μ l1 l2 l3 l4 = some r) (hK : FinR G C F_X8_takeNumber (some .int) (some (.int r.1)) r.2) : V G C F_X8_takeNumber 70 [some (.ref (G.2.1 + 1)), some (.int l1), some (.int l2), some (.int l3), some (.int l4), none] [] (pic G μ) n 0 0 := by
  unfold f_X8_takeNumber_j70 at hf
  refine V_iload d_X8_takeNumber_70 rfl ?_
  refine V_iload_n d_X8_takeNumber_72 rfl rfl ?_
  refine V_iload_n d_X8_takeNumber_73 rfl rfl ?_
  obtain ⟨t1, ht1, hf⟩ := ob hf
  refine B_callSN1 (s_X11_isOutside hG ht1) m_X11_isOutside ks_RX8_59 d_X8_takeNumber_74 rfl (Nat.le_of_ble_eq_true rfl) ⟨rfl, rfl, Nat.le_of_ble_eq_true rfl, Nat.le_of_ble_eq_true rfl, Nat.le_of_ble_eq_true rfl⟩ (fun n => ?_)
  refine V_if_eq (tgt := 90) d_X8_takeNumber_77 (by decide) (fun c77 => ?_) (fun c77 => ?_)
  · replace hf := iteF (b2i_nt (b2i_eq0 c77)) hf
    refine V_aload_n d_X8_takeNumber_90 rfl rfl ?_
    refine V_aload_n d_X8_takeNumber_91 rfl rfl ?_
    refine B_get k_1 fl_RX8_22 d_X8_takeNumber_92 g_8_3 ?_
    refine V_iload_n d_X8_takeNumber_95 rfl rfl ?_
    refine V_iadd d_X8_takeNumber_96 ?_
    obtain ⟨q2, hq2, hf⟩ := ob hf
    refine B_callV0 (s_X8_moveTo hG hq2) k_1 clX8 m_X8_moveTo kv_RX8_32 d_X8_takeNumber_97 rfl (Nat.le_of_ble_eq_true rfl) ⟨rfl, rfl, Nat.le_of_ble_eq_true rfl, Nat.le_of_ble_eq_true rfl, Nat.le_of_ble_eq_true rfl⟩ (fun n => ?_)
    refine V_iload d_X8_takeNumber_100 rfl ?_
    cases hf
    exact R_i hK d_X8_takeNumber_102 (Nat.le_of_ble_eq_true rfl) (Nat.le_of_ble_eq_true rfl)
  · replace hf := iteT (b2i_ne0 c77) hf
    refine V_aload_n d_X8_takeNumber_80 rfl rfl ?_
    refine V_aload_n d_X8_takeNumber_81 rfl rfl ?_
    refine B_get k_1 fl_RX8_22 d_X8_takeNumber_82 g_8_3 ?_
    obtain ⟨q3, hq3, hf⟩ := ob hf
    refine B_callV0 (s_X8_refuse hG hq3) k_1 clX8 m_X8_refuse kv_RX8_52 d_X8_takeNumber_85 rfl (Nat.le_of_ble_eq_true rfl) ⟨rfl, rfl, Nat.le_of_ble_eq_true rfl, Nat.le_of_ble_eq_true rfl, Nat.le_of_ble_eq_true rfl⟩ (fun n => ?_)
    refine V_iload_n d_X8_takeNumber_88 rfl rfl ?_
    cases hf
    exact R_i hK d_X8_takeNumber_89 (Nat.le_of_ble_eq_true rfl) (Nat.le_of_ble_eq_true rfl)
theorem s_X8_takeNumber_l35 {G : Gl} (hG : G.1.stackTraces = false) {C : Cx} {n : Nat} {μ : Mem} {l1 : Int32} {l2 : Int32} {l3 : Int32} {l4 : Int32} {l5 : Int32} {r : (Int32 × Mem)} (hf : f_X8_takeNumber_l35 μ l1 l2 l3 l4 l5 = some r) (hK : FinR G C F_X8_takeNumber (some .int) (some (.int r.1)) r.2) : V G C F_X8_takeNumber 35 [some (.ref (G.2.1 + 1)), some (.int l1), some (.int l2), some (.int l3), some (.int l4), some (.int l5)] [] (pic G μ) n 0 0 := by
  unfold f_X8_takeNumber_l35 at hf
  obtain ⟨t, hl, hf⟩ := ob hf
  refine loopV (P := fun z => ∀ n, V G C F_X8_takeNumber 35 [some (.ref (G.2.1 + 1)), some (.int l1), some (.int l2), some (.int l3), some (.int z.1), some (.int z.2)] [] (pic G μ) n 0 0) (t := t) ?_ _ _ hl n
  intro z y' hy hI hT n
  refine s_X8_takeNumber_b35 hG hy ⟨hI, fun x9 ex => ?_⟩
  have ex2 := hT x9 ex
  subst ex2
  intro n
  exact s_X8_takeNumber_j70 hG hf hK
theorem s_X8_takeNumber_e {G : Gl} (hG : G.1.stackTraces = false) {C : Cx} {n : Nat} {μ : Mem} {p1 : Int32} {p2 : Int32} {r : (Int32 × Mem)} (hf : f_X8_takeNumber μ p1 p2 = some r) (hK : FinR G C F_X8_takeNumber (some .int) (some (.int r.1)) r.2) : V G C F_X8_takeNumber 0 [some (.ref (G.2.1 + 1)), some (.int p1), some (.int p2), none, none, none] [] (pic G μ) n 0 0 := by
  unfold f_X8_takeNumber at hf
  refine V_aload_n d_X8_takeNumber_0 rfl rfl ?_
  refine V_bipush (v := 48) d_X8_takeNumber_1 bp_48 ?_
  refine V_bipush (v := 57) d_X8_takeNumber_3 bp_57 ?_
  obtain ⟨t1, ht1, hf⟩ := ob hf
  refine B_callV1 (s_X8_runOf hG ht1) k_1 clX8 m_X8_runOf kv_RX8_36 d_X8_takeNumber_5 rfl (Nat.le_of_ble_eq_true rfl) ⟨rfl, rfl, Nat.le_of_ble_eq_true rfl, Nat.le_of_ble_eq_true rfl, Nat.le_of_ble_eq_true rfl⟩ (fun n => ?_)
  refine V_istore_n (ls' := [_, _, _, _, _, _]) d_X8_takeNumber_8 rfl rfl rfl ?_
  refine V_iload_n d_X8_takeNumber_9 rfl rfl ?_
  refine V_iconst (v := 1) d_X8_takeNumber_10 ic_1 ?_
  refine V_icmp_lt (tgt := 19) d_X8_takeNumber_11 (by decide) (fun c11 => ?_) (fun c11 => ?_)
  · replace hf := iteT c11 hf
    refine V_less (ls' := [some _, some _, none, none, none, none]) ⟨rfl, rfl, trivial⟩ ?_
    exact s_X8_takeNumber_j19 hG hf hK
  · replace hf := iteF c11 hf
    refine V_iload_n d_X8_takeNumber_14 rfl rfl ?_
    refine V_iconst (v := 3) d_X8_takeNumber_15 ic_3 ?_
    refine V_icmp_le (tgt := 29) d_X8_takeNumber_16 (by decide) (fun c16 => ?_) (fun c16 => ?_)
    · replace hf := iteT c16 hf
      refine V_iconst (v := 0) d_X8_takeNumber_29 ic_0 ?_
      refine V_istore (ls' := [_, _, _, _, _, _]) d_X8_takeNumber_30 rfl rfl ?_
      refine V_iconst (v := 0) d_X8_takeNumber_32 ic_0 ?_
      refine V_istore (ls' := [_, _, _, _, _, _]) d_X8_takeNumber_33 rfl rfl ?_
      refine V_less (ls' := [some _, some _, some _, some _, some _, some _]) ⟨rfl, rfl, rfl, rfl, rfl, rfl, trivial⟩ ?_
      exact s_X8_takeNumber_l35 hG hf hK
    · replace hf := iteF c16 hf
      refine V_less (ls' := [some _, some _, none, none, none, none]) ⟨rfl, rfl, trivial⟩ ?_
      exact s_X8_takeNumber_j19 hG hf hK
theorem s_X8_takeNumber {G : Gl} (hG : G.1.stackTraces = false) {μ : Mem} {p1 : Int32} {p2 : Int32} {r : (Int32 × Mem)} (hf : f_X8_takeNumber μ p1 p2 = some r) : Rt G yX8_takeNumber F_X8_takeNumber (some .int) [.ref (G.2.1 + 1), .int p1, .int p2] μ (some (.int r.1)) r.2 := fun n => Sd.of hG ⟨by decide +kernel, rfl, rfl⟩ rfl (Nat.le_of_ble_eq_true rfl) rfl (fun C hK => s_X8_takeNumber_e hG hf hK)
theorem d_X8_isRight_0 : decode F_X8_isRight.2.1 0 = .ok (.aload_n 0, 1) := by decide +kernel
theorem d_X8_isRight_1 : decode F_X8_isRight.2.1 1 = .ok (.getfield 25, 3) := by decide +kernel
theorem d_X8_isRight_4 : decode F_X8_isRight.2.1 4 = .ok (.iconst (-1), 1) := by decide +kernel
theorem d_X8_isRight_5 : decode F_X8_isRight.2.1 5 = .ok (.if_icmp .ne 7, 3) := by decide +kernel
theorem d_X8_isRight_8 : decode F_X8_isRight.2.1 8 = .ok (.iconst 1, 1) := by decide +kernel
theorem d_X8_isRight_9 : decode F_X8_isRight.2.1 9 = .ok (.goto 4, 3) := by decide +kernel
theorem d_X8_isRight_12 : decode F_X8_isRight.2.1 12 = .ok (.iconst 0, 1) := by decide +kernel
theorem d_X8_isRight_13 : decode F_X8_isRight.2.1 13 = .ok (.ireturn, 1) := by decide +kernel
def f_X8_isRight (μ : Mem) : Option Bool :=
some (if (μ 1 4) = (-1) then true else false)
theorem s_X8_isRight_e {G : Gl} (hG : G.1.stackTraces = false) {C : Cx} {n : Nat} {μ : Mem}  {r : Bool} (hf : f_X8_isRight μ = some r) (hK : FinR G C F_X8_isRight (some .boolean) (some (.int (b2i r))) μ) : V G C F_X8_isRight 0 [some (.ref (G.2.1 + 1))] [] (pic G μ) n 0 0 := by
  unfold f_X8_isRight at hf
  refine V_aload_n d_X8_isRight_0 rfl rfl ?_
  refine B_get k_1 fl_RX8_25 d_X8_isRight_1 g_8_4 ?_
  refine V_iconst (v := (-1)) d_X8_isRight_4 ic_m1 ?_
  have hJj1 : ∀ j1 : Bool, j1 = (if (μ 1 4) = (-1) then true else false) → V G C F_X8_isRight 13 [none] [.int (b2i j1)] (pic G μ) n 0 0 := by
    intro j1 ej1
    subst ej1
    cases hf
    exact R_z hK d_X8_isRight_13 (Nat.le_of_ble_eq_true rfl) (Nat.le_of_ble_eq_true rfl)
  refine V_icmp_ne (tgt := 12) d_X8_isRight_5 (by decide) (fun c5 => ?_) (fun c5 => ?_)
  · refine V_iconst (v := 0) d_X8_isRight_12 ic_0 ?_
    refine V_less (ls' := [none]) trivial ?_
    exact hJj1 false (by rw [if_neg c5])
  · refine V_iconst (v := 1) d_X8_isRight_8 ic_1 ?_
    refine V_goto (tgt := 13) d_X8_isRight_9 (by decide) ?_
    refine V_less (ls' := [none]) trivial ?_
    exact hJj1 true (by rw [if_pos c5])
theorem s_X8_isRight {G : Gl} (hG : G.1.stackTraces = false) {μ : Mem} {r : Bool} (hf : f_X8_isRight μ = some r) : Rt G yX8_isRight F_X8_isRight (some .boolean) [.ref (G.2.1 + 1)] μ (some (.int (b2i r))) μ := fun n => Sd.of hG ⟨by decide +kernel, rfl, rfl⟩ rfl (Nat.le_of_ble_eq_true rfl) rfl (fun C hK => s_X8_isRight_e hG hf hK)
theorem d_X3_takeLaceInShoe_0 : decode F_X3_takeLaceInShoe.2.1 0 = .ok (.aload_n 0, 1) := by decide +kernel
theorem d_X3_takeLaceInShoe_1 : decode F_X3_takeLaceInShoe.2.1 1 = .ok (.getfield 15, 3) := by decide +kernel
theorem d_X3_takeLaceInShoe_4 : decode F_X3_takeLaceInShoe.2.1 4 = .ok (.getfield 19, 3) := by decide +kernel
theorem d_X3_takeLaceInShoe_7 : decode F_X3_takeLaceInShoe.2.1 7 = .ok (.istore_n 1, 1) := by decide +kernel
theorem d_X3_takeLaceInShoe_8 : decode F_X3_takeLaceInShoe.2.1 8 = .ok (.aload_n 0, 1) := by decide +kernel
theorem d_X3_takeLaceInShoe_9 : decode F_X3_takeLaceInShoe.2.1 9 = .ok (.getfield 15, 3) := by decide +kernel
theorem d_X3_takeLaceInShoe_12 : decode F_X3_takeLaceInShoe.2.1 12 = .ok (.iconst 0, 1) := by decide +kernel
theorem d_X3_takeLaceInShoe_13 : decode F_X3_takeLaceInShoe.2.1 13 = .ok (.iconst 2, 1) := by decide +kernel
theorem d_X3_takeLaceInShoe_14 : decode F_X3_takeLaceInShoe.2.1 14 = .ok (.aload_n 0, 1) := by decide +kernel
theorem d_X3_takeLaceInShoe_15 : decode F_X3_takeLaceInShoe.2.1 15 = .ok (.getfield 9, 3) := by decide +kernel
theorem d_X3_takeLaceInShoe_18 : decode F_X3_takeLaceInShoe.2.1 18 = .ok (.getfield 68, 3) := by decide +kernel
theorem d_X3_takeLaceInShoe_21 : decode F_X3_takeLaceInShoe.2.1 21 = .ok (.imul, 1) := by decide +kernel
theorem d_X3_takeLaceInShoe_22 : decode F_X3_takeLaceInShoe.2.1 22 = .ok (.iconst 1, 1) := by decide +kernel
theorem d_X3_takeLaceInShoe_23 : decode F_X3_takeLaceInShoe.2.1 23 = .ok (.isub, 1) := by decide +kernel
theorem d_X3_takeLaceInShoe_24 : decode F_X3_takeLaceInShoe.2.1 24 = .ok (.invokevirtual 53, 3) := by decide +kernel
theorem d_X3_takeLaceInShoe_27 : decode F_X3_takeLaceInShoe.2.1 27 = .ok (.istore_n 2, 1) := by decide +kernel
theorem d_X3_takeLaceInShoe_28 : decode F_X3_takeLaceInShoe.2.1 28 = .ok (.aload_n 0, 1) := by decide +kernel
theorem d_X3_takeLaceInShoe_29 : decode F_X3_takeLaceInShoe.2.1 29 = .ok (.getfield 15, 3) := by decide +kernel
theorem d_X3_takeLaceInShoe_32 : decode F_X3_takeLaceInShoe.2.1 32 = .ok (.invokevirtual 78, 3) := by decide +kernel
theorem d_X3_takeLaceInShoe_35 : decode F_X3_takeLaceInShoe.2.1 35 = .ok (.ifCond .eq 23, 3) := by decide +kernel
theorem d_X3_takeLaceInShoe_38 : decode F_X3_takeLaceInShoe.2.1 38 = .ok (.aload_n 0, 1) := by decide +kernel
theorem d_X3_takeLaceInShoe_39 : decode F_X3_takeLaceInShoe.2.1 39 = .ok (.getfield 9, 3) := by decide +kernel
theorem d_X3_takeLaceInShoe_42 : decode F_X3_takeLaceInShoe.2.1 42 = .ok (.getfield 115, 3) := by decide +kernel
theorem d_X3_takeLaceInShoe_45 : decode F_X3_takeLaceInShoe.2.1 45 = .ok (.iload_n 2, 1) := by decide +kernel
theorem d_X3_takeLaceInShoe_46 : decode F_X3_takeLaceInShoe.2.1 46 = .ok (.iaload, 1) := by decide +kernel
theorem d_X3_takeLaceInShoe_47 : decode F_X3_takeLaceInShoe.2.1 47 = .ok (.ifCond .eq 11, 3) := by decide +kernel
theorem d_X3_takeLaceInShoe_50 : decode F_X3_takeLaceInShoe.2.1 50 = .ok (.aload_n 0, 1) := by decide +kernel
theorem d_X3_takeLaceInShoe_51 : decode F_X3_takeLaceInShoe.2.1 51 = .ok (.getfield 15, 3) := by decide +kernel
theorem d_X3_takeLaceInShoe_54 : decode F_X3_takeLaceInShoe.2.1 54 = .ok (.iload_n 1, 1) := by decide +kernel
theorem d_X3_takeLaceInShoe_55 : decode F_X3_takeLaceInShoe.2.1 55 = .ok (.invokevirtual 65, 3) := by decide +kernel
theorem d_X3_takeLaceInShoe_58 : decode F_X3_takeLaceInShoe.2.1 58 = .ok (.iload_n 2, 1) := by decide +kernel
theorem d_X3_takeLaceInShoe_59 : decode F_X3_takeLaceInShoe.2.1 59 = .ok (.ireturn, 1) := by decide +kernel
def f_X3_takeLaceInShoe_j58 (μ : Mem) (l2 : Int32) : Option (Int32 × Mem) :=
some (l2, μ)
def f_X3_takeLaceInShoe (μ : Mem) : Option (Int32 × Mem) :=
Option.bind (f_X8_takeNumber μ 0 ((2 * (μ 18 0)) - 1)) fun q1 =>
Option.bind (f_X8_isRight q1.2) fun t2 =>
if t2 = true then
Option.bind (rd q1.2 24 12 q1.1) fun t3 =>
if t3 = 0 then
f_X3_takeLaceInShoe_j58 q1.2 q1.1
else
Option.bind (f_X8_refuse q1.2 (μ 1 3)) fun q4 =>
f_X3_takeLaceInShoe_j58 q4 q1.1
else
f_X3_takeLaceInShoe_j58 q1.2 q1.1
theorem s_X3_takeLaceInShoe_j58 {G : Gl} (hG : G.1.stackTraces = false) {C : Cx} {n : Nat} {μ : Mem} {l2 : Int32} {r : (Int32 × Mem)} (hf : f_X3_takeLaceInShoe_j58 μ l2 = some r) (hK : FinR G C F_X3_takeLaceInShoe (some .int) (some (.int r.1)) r.2) : V G C F_X3_takeLaceInShoe 58 [none, none, some (.int l2)] [] (pic G μ) n 0 0 := by
  unfold f_X3_takeLaceInShoe_j58 at hf
  refine V_iload_n d_X3_takeLaceInShoe_58 rfl rfl ?_
  cases hf
  exact R_i hK d_X3_takeLaceInShoe_59 (Nat.le_of_ble_eq_true rfl) (Nat.le_of_ble_eq_true rfl)
theorem s_X3_takeLaceInShoe_e {G : Gl} (hG : G.1.stackTraces = false) {C : Cx} {n : Nat} {μ : Mem}  {r : (Int32 × Mem)} (hf : f_X3_takeLaceInShoe μ = some r) (hK : FinR G C F_X3_takeLaceInShoe (some .int) (some (.int r.1)) r.2) : V G C F_X3_takeLaceInShoe 0 [some (.ref (G.2.1 + 72)), none, none] [] (pic G μ) n 0 0 := by
  unfold f_X3_takeLaceInShoe at hf
  refine V_aload_n d_X3_takeLaceInShoe_0 rfl rfl ?_
  refine B_get k_72 fl_RX3_15 d_X3_takeLaceInShoe_1 g_3_0 ?_
  refine B_getN k_1 fn_RX3_19 d_X3_takeLaceInShoe_4 g_8_3 ?_
  refine V_istore_n (ls' := [_, _, _]) d_X3_takeLaceInShoe_7 rfl rfl rfl ?_
  refine V_aload_n d_X3_takeLaceInShoe_8 rfl rfl ?_
  refine B_get k_72 fl_RX3_15 d_X3_takeLaceInShoe_9 g_3_0 ?_
  refine V_iconst (v := 0) d_X3_takeLaceInShoe_12 ic_0 ?_
  refine V_iconst (v := 2) d_X3_takeLaceInShoe_13 ic_2 ?_
  refine V_aload_n d_X3_takeLaceInShoe_14 rfl rfl ?_
  refine B_get k_72 fl_RX3_9 d_X3_takeLaceInShoe_15 g_3_2 ?_
  refine B_get k_18 fl_RX3_68 d_X3_takeLaceInShoe_18 g_2_0 ?_
  refine V_imul d_X3_takeLaceInShoe_21 ?_
  refine V_iconst (v := 1) d_X3_takeLaceInShoe_22 ic_1 ?_
  refine V_isub d_X3_takeLaceInShoe_23 ?_
  obtain ⟨q1, hq1, hf⟩ := ob hf
  refine B_callV1 (s_X8_takeNumber hG hq1) k_1 clX8 m_X8_takeNumber kv_RX3_53 d_X3_takeLaceInShoe_24 rfl (Nat.le_of_ble_eq_true rfl) ⟨rfl, rfl, Nat.le_of_ble_eq_true rfl, Nat.le_of_ble_eq_true rfl, Nat.le_of_ble_eq_true rfl⟩ (fun n => ?_)
  refine V_istore_n (ls' := [_, _, _]) d_X3_takeLaceInShoe_27 rfl rfl rfl ?_
  refine V_aload_n d_X3_takeLaceInShoe_28 rfl rfl ?_
  refine B_get k_72 fl_RX3_15 d_X3_takeLaceInShoe_29 g_3_0 ?_
  obtain ⟨t2, ht2, hf⟩ := ob hf
  refine B_callV1 (s_X8_isRight hG ht2) k_1 clX8 m_X8_isRight kv_RX3_78 d_X3_takeLaceInShoe_32 rfl (Nat.le_of_ble_eq_true rfl) ⟨rfl, rfl, Nat.le_of_ble_eq_true rfl, Nat.le_of_ble_eq_true rfl, Nat.le_of_ble_eq_true rfl⟩ (fun n => ?_)
  refine V_if_eq (tgt := 58) d_X3_takeLaceInShoe_35 (by decide) (fun c35 => ?_) (fun c35 => ?_)
  · replace hf := iteF (b2i_nt (b2i_eq0 c35)) hf
    refine V_less (ls' := [none, none, some _]) ⟨rfl, trivial⟩ ?_
    exact s_X3_takeLaceInShoe_j58 hG hf hK
  · replace hf := iteT (b2i_ne0 c35) hf
    refine V_aload_n d_X3_takeLaceInShoe_38 rfl rfl ?_
    refine B_get k_72 fl_RX3_9 d_X3_takeLaceInShoe_39 g_3_2 ?_
    refine B_get k_18 fl_RX3_115 d_X3_takeLaceInShoe_42 g_2_11 ?_
    refine V_iload_n d_X3_takeLaceInShoe_45 rfl rfl ?_
    obtain ⟨t3, ht3, hf⟩ := ob hf
    refine B_iald k_24 ht3 d_X3_takeLaceInShoe_46 ?_
    refine V_if_eq (tgt := 58) d_X3_takeLaceInShoe_47 (by decide) (fun c47 => ?_) (fun c47 => ?_)
    · replace hf := iteT c47 hf
      refine V_less (ls' := [none, none, some _]) ⟨rfl, trivial⟩ ?_
      exact s_X3_takeLaceInShoe_j58 hG hf hK
    · replace hf := iteF c47 hf
      refine V_aload_n d_X3_takeLaceInShoe_50 rfl rfl ?_
      refine B_get k_72 fl_RX3_15 d_X3_takeLaceInShoe_51 g_3_0 ?_
      refine V_iload_n d_X3_takeLaceInShoe_54 rfl rfl ?_
      obtain ⟨q4, hq4, hf⟩ := ob hf
      refine B_callV0 (s_X8_refuse hG hq4) k_1 clX8 m_X8_refuse kv_RX3_65 d_X3_takeLaceInShoe_55 rfl (Nat.le_of_ble_eq_true rfl) ⟨rfl, rfl, Nat.le_of_ble_eq_true rfl, Nat.le_of_ble_eq_true rfl, Nat.le_of_ble_eq_true rfl⟩ (fun n => ?_)
      refine V_less (ls' := [none, none, some _]) ⟨rfl, trivial⟩ ?_
      exact s_X3_takeLaceInShoe_j58 hG hf hK
theorem s_X3_takeLaceInShoe {G : Gl} (hG : G.1.stackTraces = false) {μ : Mem} {r : (Int32 × Mem)} (hf : f_X3_takeLaceInShoe μ = some r) : Rt G yX3_takeLaceInShoe F_X3_takeLaceInShoe (some .int) [.ref (G.2.1 + 72)] μ (some (.int r.1)) r.2 := fun n => Sd.of hG ⟨by decide +kernel, rfl, rfl⟩ rfl (Nat.le_of_ble_eq_true rfl) rfl (fun C hK => s_X3_takeLaceInShoe_e hG hf hK)
theorem d_X3_takeOther_0 : decode F_X3_takeOther.2.1 0 = .ok (.aload_n 0, 1) := by decide +kernel
theorem d_X3_takeOther_1 : decode F_X3_takeOther.2.1 1 = .ok (.getfield 15, 3) := by decide +kernel
theorem d_X3_takeOther_4 : decode F_X3_takeOther.2.1 4 = .ok (.getfield 19, 3) := by decide +kernel
theorem d_X3_takeOther_7 : decode F_X3_takeOther.2.1 7 = .ok (.istore_n 3, 1) := by decide +kernel
theorem d_X3_takeOther_8 : decode F_X3_takeOther.2.1 8 = .ok (.aload_n 0, 1) := by decide +kernel
theorem d_X3_takeOther_9 : decode F_X3_takeOther.2.1 9 = .ok (.getfield 15, 3) := by decide +kernel
theorem d_X3_takeOther_12 : decode F_X3_takeOther.2.1 12 = .ok (.iconst 0, 1) := by decide +kernel
theorem d_X3_takeOther_13 : decode F_X3_takeOther.2.1 13 = .ok (.aload_n 0, 1) := by decide +kernel
theorem d_X3_takeOther_14 : decode F_X3_takeOther.2.1 14 = .ok (.getfield 9, 3) := by decide +kernel
theorem d_X3_takeOther_17 : decode F_X3_takeOther.2.1 17 = .ok (.getfield 68, 3) := by decide +kernel
theorem d_X3_takeOther_20 : decode F_X3_takeOther.2.1 20 = .ok (.iconst 1, 1) := by decide +kernel
theorem d_X3_takeOther_21 : decode F_X3_takeOther.2.1 21 = .ok (.isub, 1) := by decide +kernel
theorem d_X3_takeOther_22 : decode F_X3_takeOther.2.1 22 = .ok (.invokevirtual 53, 3) := by decide +kernel
theorem d_X3_takeOther_25 : decode F_X3_takeOther.2.1 25 = .ok (.istore 4, 2) := by decide +kernel
theorem d_X3_takeOther_27 : decode F_X3_takeOther.2.1 27 = .ok (.iload 4, 2) := by decide +kernel
theorem d_X3_takeOther_29 : decode F_X3_takeOther.2.1 29 = .ok (.iload_n 1, 1) := by decide +kernel
theorem d_X3_takeOther_30 : decode F_X3_takeOther.2.1 30 = .ok (.if_icmp .eq 9, 3) := by decide +kernel
theorem d_X3_takeOther_33 : decode F_X3_takeOther.2.1 33 = .ok (.iload 4, 2) := by decide +kernel
theorem d_X3_takeOther_35 : decode F_X3_takeOther.2.1 35 = .ok (.iload_n 2, 1) := by decide +kernel
theorem d_X3_takeOther_36 : decode F_X3_takeOther.2.1 36 = .ok (.if_icmp .ne 11, 3) := by decide +kernel
theorem d_X3_takeOther_39 : decode F_X3_takeOther.2.1 39 = .ok (.aload_n 0, 1) := by decide +kernel
theorem d_X3_takeOther_40 : decode F_X3_takeOther.2.1 40 = .ok (.getfield 15, 3) := by decide +kernel
theorem d_X3_takeOther_43 : decode F_X3_takeOther.2.1 43 = .ok (.iload_n 3, 1) := by decide +kernel
theorem d_X3_takeOther_44 : decode F_X3_takeOther.2.1 44 = .ok (.invokevirtual 65, 3) := by decide +kernel
theorem d_X3_takeOther_47 : decode F_X3_takeOther.2.1 47 = .ok (.iload 4, 2) := by decide +kernel
theorem d_X3_takeOther_49 : decode F_X3_takeOther.2.1 49 = .ok (.ireturn, 1) := by decide +kernel
def f_X3_takeOther_j47 (μ : Mem) (l4 : Int32) : Option (Int32 × Mem) :=
some (l4, μ)
def f_X3_takeOther_j39 (μ : Mem) (l3 : Int32) (l4 : Int32) : Option (Int32 × Mem) :=
Option.bind (f_X8_refuse μ l3) fun q1 =>
f_X3_takeOther_j47 q1 l4
def f_X3_takeOther (μ : Mem) (p1 : Int32) (p2 : Int32) : Option (Int32 × Mem) :=
Option.bind (f_X8_takeNumber μ 0 ((μ 18 0) - 1)) fun q1 =>
if q1.1 = p1 then
f_X3_takeOther_j39 q1.2 (μ 1 3) q1.1
else
if q1.1 = p2 then
f_X3_takeOther_j39 q1.2 (μ 1 3) q1.1
else
f_X3_takeOther_j47 q1.2 q1.1
theorem s_X3_takeOther_j47 {G : Gl} (hG : G.1.stackTraces = false) {C : Cx} {n : Nat} {μ : Mem} {l4 : Int32} {r : (Int32 × Mem)} (hf : f_X3_takeOther_j47 μ l4 = some r) (hK : FinR G C F_X3_takeOther (some .int) (some (.int r.1)) r.2) : V G C F_X3_takeOther 47 [none, none, none, none, some (.int l4)] [] (pic G μ) n 0 0 := by
  unfold f_X3_takeOther_j47 at hf
  refine V_iload d_X3_takeOther_47 rfl ?_
  cases hf
  exact R_i hK d_X3_takeOther_49 (Nat.le_of_ble_eq_true rfl) (Nat.le_of_ble_eq_true rfl)
theorem s_X3_takeOther_j39 {G : Gl} (hG : G.1.stackTraces = false) {C : Cx} {n : Nat} {μ : Mem} {l3 : Int32} {l4 : Int32} {r : (Int32 × Mem)} (hf : f_X3_takeOther_j39 μ l3 l4 = some r) (hK : FinR G C F_X3_takeOther (some .int) (some (.int r.1)) r.2) : V G C F_X3_takeOther 39 [some (.ref (G.2.1 + 72)), none, none, some (.int l3), some (.int l4)] [] (pic G μ) n 0 0 := by
  unfold f_X3_takeOther_j39 at hf
  refine V_aload_n d_X3_takeOther_39 rfl rfl ?_
  refine B_get k_72 fl_RX3_15 d_X3_takeOther_40 g_3_0 ?_
  refine V_iload_n d_X3_takeOther_43 rfl rfl ?_
  obtain ⟨q1, hq1, hf⟩ := ob hf
  refine B_callV0 (s_X8_refuse hG hq1) k_1 clX8 m_X8_refuse kv_RX3_65 d_X3_takeOther_44 rfl (Nat.le_of_ble_eq_true rfl) ⟨rfl, rfl, Nat.le_of_ble_eq_true rfl, Nat.le_of_ble_eq_true rfl, Nat.le_of_ble_eq_true rfl⟩ (fun n => ?_)
  refine V_less (ls' := [none, none, none, none, some _]) ⟨rfl, trivial⟩ ?_
  exact s_X3_takeOther_j47 hG hf hK
theorem s_X3_takeOther_e {G : Gl} (hG : G.1.stackTraces = false) {C : Cx} {n : Nat} {μ : Mem} {p1 : Int32} {p2 : Int32} {r : (Int32 × Mem)} (hf : f_X3_takeOther μ p1 p2 = some r) (hK : FinR G C F_X3_takeOther (some .int) (some (.int r.1)) r.2) : V G C F_X3_takeOther 0 [some (.ref (G.2.1 + 72)), some (.int p1), some (.int p2), none, none] [] (pic G μ) n 0 0 := by
  unfold f_X3_takeOther at hf
  refine V_aload_n d_X3_takeOther_0 rfl rfl ?_
  refine B_get k_72 fl_RX3_15 d_X3_takeOther_1 g_3_0 ?_
  refine B_getN k_1 fn_RX3_19 d_X3_takeOther_4 g_8_3 ?_
  refine V_istore_n (ls' := [_, _, _, _, _]) d_X3_takeOther_7 rfl rfl rfl ?_
  refine V_aload_n d_X3_takeOther_8 rfl rfl ?_
  refine B_get k_72 fl_RX3_15 d_X3_takeOther_9 g_3_0 ?_
  refine V_iconst (v := 0) d_X3_takeOther_12 ic_0 ?_
  refine V_aload_n d_X3_takeOther_13 rfl rfl ?_
  refine B_get k_72 fl_RX3_9 d_X3_takeOther_14 g_3_2 ?_
  refine B_get k_18 fl_RX3_68 d_X3_takeOther_17 g_2_0 ?_
  refine V_iconst (v := 1) d_X3_takeOther_20 ic_1 ?_
  refine V_isub d_X3_takeOther_21 ?_
  obtain ⟨q1, hq1, hf⟩ := ob hf
  refine B_callV1 (s_X8_takeNumber hG hq1) k_1 clX8 m_X8_takeNumber kv_RX3_53 d_X3_takeOther_22 rfl (Nat.le_of_ble_eq_true rfl) ⟨rfl, rfl, Nat.le_of_ble_eq_true rfl, Nat.le_of_ble_eq_true rfl, Nat.le_of_ble_eq_true rfl⟩ (fun n => ?_)
  refine V_istore (ls' := [_, _, _, _, _]) d_X3_takeOther_25 rfl rfl ?_
  refine V_iload d_X3_takeOther_27 rfl ?_
  refine V_iload_n d_X3_takeOther_29 rfl rfl ?_
  refine V_icmp_eq (tgt := 39) d_X3_takeOther_30 (by decide) (fun c30 => ?_) (fun c30 => ?_)
  · replace hf := iteT c30 hf
    refine V_less (ls' := [some _, none, none, some _, some _]) ⟨rfl, rfl, rfl, trivial⟩ ?_
    exact s_X3_takeOther_j39 hG hf hK
  · replace hf := iteF c30 hf
    refine V_iload d_X3_takeOther_33 rfl ?_
    refine V_iload_n d_X3_takeOther_35 rfl rfl ?_
    refine V_icmp_ne (tgt := 47) d_X3_takeOther_36 (by decide) (fun c36 => ?_) (fun c36 => ?_)
    · replace hf := iteF c36 hf
      refine V_less (ls' := [none, none, none, none, some _]) ⟨rfl, trivial⟩ ?_
      exact s_X3_takeOther_j47 hG hf hK
    · replace hf := iteT c36 hf
      refine V_less (ls' := [some _, none, none, some _, some _]) ⟨rfl, rfl, rfl, trivial⟩ ?_
      exact s_X3_takeOther_j39 hG hf hK
theorem s_X3_takeOther {G : Gl} (hG : G.1.stackTraces = false) {μ : Mem} {p1 : Int32} {p2 : Int32} {r : (Int32 × Mem)} (hf : f_X3_takeOther μ p1 p2 = some r) : Rt G yX3_takeOther F_X3_takeOther (some .int) [.ref (G.2.1 + 72), .int p1, .int p2] μ (some (.int r.1)) r.2 := fun n => Sd.of hG ⟨by decide +kernel, rfl, rfl⟩ rfl (Nat.le_of_ble_eq_true rfl) rfl (fun C hK => s_X3_takeOther_e hG hf hK)
theorem d_X3_readMud_0 : decode F_X3_readMud.2.1 0 = .ok (.aload_n 0, 1) := by decide +kernel
theorem d_X3_readMud_1 : decode F_X3_readMud.2.1 1 = .ok (.getfield 15, 3) := by decide +kernel
theorem d_X3_readMud_4 : decode F_X3_readMud.2.1 4 = .ok (.iconst 0, 1) := by decide +kernel
theorem d_X3_readMud_5 : decode F_X3_readMud.2.1 5 = .ok (.bipush 19, 2) := by decide +kernel
theorem d_X3_readMud_7 : decode F_X3_readMud.2.1 7 = .ok (.invokevirtual 53, 3) := by decide +kernel
theorem d_X3_readMud_10 : decode F_X3_readMud.2.1 10 = .ok (.istore_n 1, 1) := by decide +kernel
theorem d_X3_readMud_11 : decode F_X3_readMud.2.1 11 = .ok (.aload_n 0, 1) := by decide +kernel
theorem d_X3_readMud_12 : decode F_X3_readMud.2.1 12 = .ok (.getfield 15, 3) := by decide +kernel
theorem d_X3_readMud_15 : decode F_X3_readMud.2.1 15 = .ok (.iconst 0, 1) := by decide +kernel
theorem d_X3_readMud_16 : decode F_X3_readMud.2.1 16 = .ok (.bipush 9, 2) := by decide +kernel
theorem d_X3_readMud_18 : decode F_X3_readMud.2.1 18 = .ok (.invokevirtual 53, 3) := by decide +kernel
theorem d_X3_readMud_21 : decode F_X3_readMud.2.1 21 = .ok (.istore_n 2, 1) := by decide +kernel
theorem d_X3_readMud_22 : decode F_X3_readMud.2.1 22 = .ok (.aload_n 0, 1) := by decide +kernel
theorem d_X3_readMud_23 : decode F_X3_readMud.2.1 23 = .ok (.getfield 15, 3) := by decide +kernel
theorem d_X3_readMud_26 : decode F_X3_readMud.2.1 26 = .ok (.invokevirtual 78, 3) := by decide +kernel
theorem d_X3_readMud_29 : decode F_X3_readMud.2.1 29 = .ok (.ifCond .eq 13, 3) := by decide +kernel
theorem d_X3_readMud_32 : decode F_X3_readMud.2.1 32 = .ok (.aload_n 0, 1) := by decide +kernel
theorem d_X3_readMud_33 : decode F_X3_readMud.2.1 33 = .ok (.getfield 9, 3) := by decide +kernel
theorem d_X3_readMud_36 : decode F_X3_readMud.2.1 36 = .ok (.getfield 110, 3) := by decide +kernel
theorem d_X3_readMud_39 : decode F_X3_readMud.2.1 39 = .ok (.iload_n 1, 1) := by decide +kernel
theorem d_X3_readMud_40 : decode F_X3_readMud.2.1 40 = .ok (.iload_n 2, 1) := by decide +kernel
theorem d_X3_readMud_41 : decode F_X3_readMud.2.1 41 = .ok (.iastore, 1) := by decide +kernel
theorem d_X3_readMud_42 : decode F_X3_readMud.2.1 42 = .ok (.return_, 1) := by decide +kernel
def f_X3_readMud_j42 (μ : Mem) : Option Mem :=
some μ
def f_X3_readMud (μ : Mem) : Option Mem :=
Option.bind (f_X8_takeNumber μ 0 19) fun q1 =>
Option.bind (f_X8_takeNumber q1.2 0 9) fun q2 =>
Option.bind (f_X8_isRight q2.2) fun t3 =>
if t3 = true then
Option.bind (wr q2.2 30 20 q1.1 q2.1) fun μ4 =>
f_X3_readMud_j42 μ4
else
f_X3_readMud_j42 q2.2
theorem s_X3_readMud_j42 {G : Gl} (hG : G.1.stackTraces = false) {C : Cx} {n : Nat} {μ : Mem}  {r : Mem} (hf : f_X3_readMud_j42 μ = some r) (hK : FinR G C F_X3_readMud none none r) : V G C F_X3_readMud 42 [none, none, none] [] (pic G μ) n 0 0 := by
  unfold f_X3_readMud_j42 at hf
  cases hf
  exact R_v hK d_X3_readMud_42 (Nat.le_of_ble_eq_true rfl) (Nat.le_of_ble_eq_true rfl)
theorem s_X3_readMud_e {G : Gl} (hG : G.1.stackTraces = false) {C : Cx} {n : Nat} {μ : Mem}  {r : Mem} (hf : f_X3_readMud μ = some r) (hK : FinR G C F_X3_readMud none none r) : V G C F_X3_readMud 0 [some (.ref (G.2.1 + 72)), none, none] [] (pic G μ) n 0 0 := by
  unfold f_X3_readMud at hf
  refine V_aload_n d_X3_readMud_0 rfl rfl ?_
  refine B_get k_72 fl_RX3_15 d_X3_readMud_1 g_3_0 ?_
  refine V_iconst (v := 0) d_X3_readMud_4 ic_0 ?_
  refine V_bipush (v := 19) d_X3_readMud_5 bp_19 ?_
  obtain ⟨q1, hq1, hf⟩ := ob hf
  refine B_callV1 (s_X8_takeNumber hG hq1) k_1 clX8 m_X8_takeNumber kv_RX3_53 d_X3_readMud_7 rfl (Nat.le_of_ble_eq_true rfl) ⟨rfl, rfl, Nat.le_of_ble_eq_true rfl, Nat.le_of_ble_eq_true rfl, Nat.le_of_ble_eq_true rfl⟩ (fun n => ?_)
  refine V_istore_n (ls' := [_, _, _]) d_X3_readMud_10 rfl rfl rfl ?_
  refine V_aload_n d_X3_readMud_11 rfl rfl ?_
  refine B_get k_72 fl_RX3_15 d_X3_readMud_12 g_3_0 ?_
  refine V_iconst (v := 0) d_X3_readMud_15 ic_0 ?_
  refine V_bipush (v := 9) d_X3_readMud_16 bp_9 ?_
  obtain ⟨q2, hq2, hf⟩ := ob hf
  refine B_callV1 (s_X8_takeNumber hG hq2) k_1 clX8 m_X8_takeNumber kv_RX3_53 d_X3_readMud_18 rfl (Nat.le_of_ble_eq_true rfl) ⟨rfl, rfl, Nat.le_of_ble_eq_true rfl, Nat.le_of_ble_eq_true rfl, Nat.le_of_ble_eq_true rfl⟩ (fun n => ?_)
  refine V_istore_n (ls' := [_, _, _]) d_X3_readMud_21 rfl rfl rfl ?_
  refine V_aload_n d_X3_readMud_22 rfl rfl ?_
  refine B_get k_72 fl_RX3_15 d_X3_readMud_23 g_3_0 ?_
  obtain ⟨t3, ht3, hf⟩ := ob hf
  refine B_callV1 (s_X8_isRight hG ht3) k_1 clX8 m_X8_isRight kv_RX3_78 d_X3_readMud_26 rfl (Nat.le_of_ble_eq_true rfl) ⟨rfl, rfl, Nat.le_of_ble_eq_true rfl, Nat.le_of_ble_eq_true rfl, Nat.le_of_ble_eq_true rfl⟩ (fun n => ?_)
  refine V_if_eq (tgt := 42) d_X3_readMud_29 (by decide) (fun c29 => ?_) (fun c29 => ?_)
  · replace hf := iteF (b2i_nt (b2i_eq0 c29)) hf
    refine V_less (ls' := [none, none, none]) trivial ?_
    exact s_X3_readMud_j42 hG hf hK
  · replace hf := iteT (b2i_ne0 c29) hf
    refine V_aload_n d_X3_readMud_32 rfl rfl ?_
    refine B_get k_72 fl_RX3_9 d_X3_readMud_33 g_3_2 ?_
    refine B_get k_18 fl_RX3_110 d_X3_readMud_36 g_2_17 ?_
    refine V_iload_n d_X3_readMud_39 rfl rfl ?_
    refine V_iload_n d_X3_readMud_40 rfl rfl ?_
    obtain ⟨μ4, hμ4, hf⟩ := ob hf
    refine B_iast k_30 hμ4 d_X3_readMud_41 ?_
    refine V_less (ls' := [none, none, none]) trivial ?_
    exact s_X3_readMud_j42 hG hf hK
theorem s_X3_readMud {G : Gl} (hG : G.1.stackTraces = false) {μ : Mem} {r : Mem} (hf : f_X3_readMud μ = some r) : Rt G yX3_readMud F_X3_readMud none [.ref (G.2.1 + 72)] μ none r := fun n => Sd.of hG ⟨by decide +kernel, rfl, rfl⟩ rfl (Nat.le_of_ble_eq_true rfl) rfl (fun C hK => s_X3_readMud_e hG hf hK)
theorem d_X3_readGoal_0 : decode F_X3_readGoal.2.1 0 = .ok (.aload_n 0, 1) := by decide +kernel
theorem d_X3_readGoal_1 : decode F_X3_readGoal.2.1 1 = .ok (.getfield 15, 3) := by decide +kernel
theorem d_X3_readGoal_4 : decode F_X3_readGoal.2.1 4 = .ok (.iconst 0, 1) := by decide +kernel
theorem d_X3_readGoal_5 : decode F_X3_readGoal.2.1 5 = .ok (.aload_n 0, 1) := by decide +kernel
theorem d_X3_readGoal_6 : decode F_X3_readGoal.2.1 6 = .ok (.getfield 9, 3) := by decide +kernel
theorem d_X3_readGoal_9 : decode F_X3_readGoal.2.1 9 = .ok (.getfield 68, 3) := by decide +kernel
theorem d_X3_readGoal_12 : decode F_X3_readGoal.2.1 12 = .ok (.iconst 1, 1) := by decide +kernel
theorem d_X3_readGoal_13 : decode F_X3_readGoal.2.1 13 = .ok (.isub, 1) := by decide +kernel
theorem d_X3_readGoal_14 : decode F_X3_readGoal.2.1 14 = .ok (.invokevirtual 53, 3) := by decide +kernel
theorem d_X3_readGoal_17 : decode F_X3_readGoal.2.1 17 = .ok (.istore_n 1, 1) := by decide +kernel
theorem d_X3_readGoal_18 : decode F_X3_readGoal.2.1 18 = .ok (.aload_n 0, 1) := by decide +kernel
theorem d_X3_readGoal_19 : decode F_X3_readGoal.2.1 19 = .ok (.getfield 15, 3) := by decide +kernel
theorem d_X3_readGoal_22 : decode F_X3_readGoal.2.1 22 = .ok (.iconst 0, 1) := by decide +kernel
theorem d_X3_readGoal_23 : decode F_X3_readGoal.2.1 23 = .ok (.bipush 19, 2) := by decide +kernel
theorem d_X3_readGoal_25 : decode F_X3_readGoal.2.1 25 = .ok (.invokevirtual 53, 3) := by decide +kernel
theorem d_X3_readGoal_28 : decode F_X3_readGoal.2.1 28 = .ok (.istore_n 2, 1) := by decide +kernel
theorem d_X3_readGoal_29 : decode F_X3_readGoal.2.1 29 = .ok (.aload_n 0, 1) := by decide +kernel
theorem d_X3_readGoal_30 : decode F_X3_readGoal.2.1 30 = .ok (.getfield 15, 3) := by decide +kernel
theorem d_X3_readGoal_33 : decode F_X3_readGoal.2.1 33 = .ok (.invokevirtual 78, 3) := by decide +kernel
theorem d_X3_readGoal_36 : decode F_X3_readGoal.2.1 36 = .ok (.ifCond .eq 13, 3) := by decide +kernel
theorem d_X3_readGoal_39 : decode F_X3_readGoal.2.1 39 = .ok (.aload_n 0, 1) := by decide +kernel
theorem d_X3_readGoal_40 : decode F_X3_readGoal.2.1 40 = .ok (.getfield 9, 3) := by decide +kernel
theorem d_X3_readGoal_43 : decode F_X3_readGoal.2.1 43 = .ok (.getfield 113, 3) := by decide +kernel
theorem d_X3_readGoal_46 : decode F_X3_readGoal.2.1 46 = .ok (.iload_n 1, 1) := by decide +kernel
theorem d_X3_readGoal_47 : decode F_X3_readGoal.2.1 47 = .ok (.iload_n 2, 1) := by decide +kernel
theorem d_X3_readGoal_48 : decode F_X3_readGoal.2.1 48 = .ok (.iastore, 1) := by decide +kernel
theorem d_X3_readGoal_49 : decode F_X3_readGoal.2.1 49 = .ok (.return_, 1) := by decide +kernel
def f_X3_readGoal_j49 (μ : Mem) : Option Mem :=
some μ
def f_X3_readGoal (μ : Mem) : Option Mem :=
Option.bind (f_X8_takeNumber μ 0 ((μ 18 0) - 1)) fun q1 =>
Option.bind (f_X8_takeNumber q1.2 0 19) fun q2 =>
Option.bind (f_X8_isRight q2.2) fun t3 =>
if t3 = true then
Option.bind (wr q2.2 22 6 q1.1 q2.1) fun μ4 =>
f_X3_readGoal_j49 μ4
else
f_X3_readGoal_j49 q2.2
theorem s_X3_readGoal_j49 {G : Gl} (hG : G.1.stackTraces = false) {C : Cx} {n : Nat} {μ : Mem}  {r : Mem} (hf : f_X3_readGoal_j49 μ = some r) (hK : FinR G C F_X3_readGoal none none r) : V G C F_X3_readGoal 49 [none, none, none] [] (pic G μ) n 0 0 := by
  unfold f_X3_readGoal_j49 at hf
  cases hf
  exact R_v hK d_X3_readGoal_49 (Nat.le_of_ble_eq_true rfl) (Nat.le_of_ble_eq_true rfl)
theorem s_X3_readGoal_e {G : Gl} (hG : G.1.stackTraces = false) {C : Cx} {n : Nat} {μ : Mem}  {r : Mem} (hf : f_X3_readGoal μ = some r) (hK : FinR G C F_X3_readGoal none none r) : V G C F_X3_readGoal 0 [some (.ref (G.2.1 + 72)), none, none] [] (pic G μ) n 0 0 := by
  unfold f_X3_readGoal at hf
  refine V_aload_n d_X3_readGoal_0 rfl rfl ?_
  refine B_get k_72 fl_RX3_15 d_X3_readGoal_1 g_3_0 ?_
  refine V_iconst (v := 0) d_X3_readGoal_4 ic_0 ?_
  refine V_aload_n d_X3_readGoal_5 rfl rfl ?_
  refine B_get k_72 fl_RX3_9 d_X3_readGoal_6 g_3_2 ?_
  refine B_get k_18 fl_RX3_68 d_X3_readGoal_9 g_2_0 ?_
  refine V_iconst (v := 1) d_X3_readGoal_12 ic_1 ?_
  refine V_isub d_X3_readGoal_13 ?_
  obtain ⟨q1, hq1, hf⟩ := ob hf
  refine B_callV1 (s_X8_takeNumber hG hq1) k_1 clX8 m_X8_takeNumber kv_RX3_53 d_X3_readGoal_14 rfl (Nat.le_of_ble_eq_true rfl) ⟨rfl, rfl, Nat.le_of_ble_eq_true rfl, Nat.le_of_ble_eq_true rfl, Nat.le_of_ble_eq_true rfl⟩ (fun n => ?_)
  refine V_istore_n (ls' := [_, _, _]) d_X3_readGoal_17 rfl rfl rfl ?_
  refine V_aload_n d_X3_readGoal_18 rfl rfl ?_
  refine B_get k_72 fl_RX3_15 d_X3_readGoal_19 g_3_0 ?_
  refine V_iconst (v := 0) d_X3_readGoal_22 ic_0 ?_
  refine V_bipush (v := 19) d_X3_readGoal_23 bp_19 ?_
  obtain ⟨q2, hq2, hf⟩ := ob hf
  refine B_callV1 (s_X8_takeNumber hG hq2) k_1 clX8 m_X8_takeNumber kv_RX3_53 d_X3_readGoal_25 rfl (Nat.le_of_ble_eq_true rfl) ⟨rfl, rfl, Nat.le_of_ble_eq_true rfl, Nat.le_of_ble_eq_true rfl, Nat.le_of_ble_eq_true rfl⟩ (fun n => ?_)
  refine V_istore_n (ls' := [_, _, _]) d_X3_readGoal_28 rfl rfl rfl ?_
  refine V_aload_n d_X3_readGoal_29 rfl rfl ?_
  refine B_get k_72 fl_RX3_15 d_X3_readGoal_30 g_3_0 ?_
  obtain ⟨t3, ht3, hf⟩ := ob hf
  refine B_callV1 (s_X8_isRight hG ht3) k_1 clX8 m_X8_isRight kv_RX3_78 d_X3_readGoal_33 rfl (Nat.le_of_ble_eq_true rfl) ⟨rfl, rfl, Nat.le_of_ble_eq_true rfl, Nat.le_of_ble_eq_true rfl, Nat.le_of_ble_eq_true rfl⟩ (fun n => ?_)
  refine V_if_eq (tgt := 49) d_X3_readGoal_36 (by decide) (fun c36 => ?_) (fun c36 => ?_)
  · replace hf := iteF (b2i_nt (b2i_eq0 c36)) hf
    refine V_less (ls' := [none, none, none]) trivial ?_
    exact s_X3_readGoal_j49 hG hf hK
  · replace hf := iteT (b2i_ne0 c36) hf
    refine V_aload_n d_X3_readGoal_39 rfl rfl ?_
    refine B_get k_72 fl_RX3_9 d_X3_readGoal_40 g_3_2 ?_
    refine B_get k_18 fl_RX3_113 d_X3_readGoal_43 g_2_9 ?_
    refine V_iload_n d_X3_readGoal_46 rfl rfl ?_
    refine V_iload_n d_X3_readGoal_47 rfl rfl ?_
    obtain ⟨μ4, hμ4, hf⟩ := ob hf
    refine B_iast k_22 hμ4 d_X3_readGoal_48 ?_
    refine V_less (ls' := [none, none, none]) trivial ?_
    exact s_X3_readGoal_j49 hG hf hK
theorem s_X3_readGoal {G : Gl} (hG : G.1.stackTraces = false) {μ : Mem} {r : Mem} (hf : f_X3_readGoal μ = some r) : Rt G yX3_readGoal F_X3_readGoal none [.ref (G.2.1 + 72)] μ none r := fun n => Sd.of hG ⟨by decide +kernel, rfl, rfl⟩ rfl (Nat.le_of_ble_eq_true rfl) rfl (fun C hK => s_X3_readGoal_e hG hf hK)
theorem d_X4_clear_0 : decode F_X4_clear.2.1 0 = .ok (.aload_n 0, 1) := by decide +kernel
theorem d_X4_clear_1 : decode F_X4_clear.2.1 1 = .ok (.iconst 0, 1) := by decide +kernel
theorem d_X4_clear_2 : decode F_X4_clear.2.1 2 = .ok (.putfield 9, 3) := by decide +kernel
theorem d_X4_clear_5 : decode F_X4_clear.2.1 5 = .ok (.aload_n 0, 1) := by decide +kernel
theorem d_X4_clear_6 : decode F_X4_clear.2.1 6 = .ok (.iconst 0, 1) := by decide +kernel
theorem d_X4_clear_7 : decode F_X4_clear.2.1 7 = .ok (.putfield 15, 3) := by decide +kernel
theorem d_X4_clear_10 : decode F_X4_clear.2.1 10 = .ok (.aload_n 0, 1) := by decide +kernel
theorem d_X4_clear_11 : decode F_X4_clear.2.1 11 = .ok (.iconst 0, 1) := by decide +kernel
theorem d_X4_clear_12 : decode F_X4_clear.2.1 12 = .ok (.putfield 19, 3) := by decide +kernel
theorem d_X4_clear_15 : decode F_X4_clear.2.1 15 = .ok (.return_, 1) := by decide +kernel
def f_X4_clear (μ : Mem) (a0 : Nat) : Option Mem :=
some (mset (mset (mset μ a0 0 (b2i false)) a0 1 0) a0 2 0)
theorem s_X4_clear_e {G : Gl} (hG : G.1.stackTraces = false) {C : Cx} {n : Nat} {μ : Mem} {a0 : Nat} (ha0 : a0 ∈ lawL) {r : Mem} (hf : f_X4_clear μ a0 = some r) (hK : FinR G C F_X4_clear none none r) : V G C F_X4_clear 0 [some (.ref (G.2.1 + a0))] [] (pic G μ) n 0 0 := by
  unfold f_X4_clear at hf
  refine V_aload_n d_X4_clear_0 rfl rfl ?_
  refine V_iconst (v := 0) d_X4_clear_1 ic_0 ?_
  refine B_putZ (v := false) (kLaw _ ha0) fl_RX4_9 pt_4_0 (Nat.le_of_ble_eq_true rfl) p_4_0 d_X4_clear_2 ?_
  refine V_aload_n d_X4_clear_5 rfl rfl ?_
  refine V_iconst (v := 0) d_X4_clear_6 ic_0 ?_
  refine B_putI (kLaw _ ha0) fl_RX4_15 pt_4_1 (Nat.le_of_ble_eq_true rfl) p_4_1 d_X4_clear_7 ?_
  refine V_aload_n d_X4_clear_10 rfl rfl ?_
  refine V_iconst (v := 0) d_X4_clear_11 ic_0 ?_
  refine B_putI (kLaw _ ha0) fl_RX4_19 pt_4_2 (Nat.le_of_ble_eq_true rfl) p_4_2 d_X4_clear_12 ?_
  cases hf
  exact R_v hK d_X4_clear_15 (Nat.le_of_ble_eq_true rfl) (Nat.le_of_ble_eq_true rfl)
theorem s_X4_clear {G : Gl} (hG : G.1.stackTraces = false) {μ : Mem} {a0 : Nat} (ha0 : a0 ∈ lawL) {r : Mem} (hf : f_X4_clear μ a0 = some r) : Rt G yX4_clear F_X4_clear none [.ref (G.2.1 + a0)] μ none r := fun n => Sd.of hG ⟨by decide +kernel, rfl, rfl⟩ rfl (Nat.le_of_ble_eq_true rfl) rfl (fun C hK => s_X4_clear_e hG ha0 hf hK)
theorem d_X4_openLine_0 : decode F_X4_openLine.2.1 0 = .ok (.aload_n 0, 1) := by decide +kernel
theorem d_X4_openLine_1 : decode F_X4_openLine.2.1 1 = .ok (.getfield 15, 3) := by decide +kernel
theorem d_X4_openLine_4 : decode F_X4_openLine.2.1 4 = .ok (.bipush 12, 2) := by decide +kernel
theorem d_X4_openLine_6 : decode F_X4_openLine.2.1 6 = .ok (.if_icmp .ge 36, 3) := by decide +kernel
theorem d_X4_openLine_9 : decode F_X4_openLine.2.1 9 = .ok (.aload_n 0, 1) := by decide +kernel
theorem d_X4_openLine_10 : decode F_X4_openLine.2.1 10 = .ok (.getfield 22, 3) := by decide +kernel
theorem d_X4_openLine_13 : decode F_X4_openLine.2.1 13 = .ok (.aload_n 0, 1) := by decide +kernel
theorem d_X4_openLine_14 : decode F_X4_openLine.2.1 14 = .ok (.getfield 15, 3) := by decide +kernel
theorem d_X4_openLine_17 : decode F_X4_openLine.2.1 17 = .ok (.iload_n 1, 1) := by decide +kernel
theorem d_X4_openLine_18 : decode F_X4_openLine.2.1 18 = .ok (.iastore, 1) := by decide +kernel
theorem d_X4_openLine_19 : decode F_X4_openLine.2.1 19 = .ok (.aload_n 0, 1) := by decide +kernel
theorem d_X4_openLine_20 : decode F_X4_openLine.2.1 20 = .ok (.getfield 26, 3) := by decide +kernel
theorem d_X4_openLine_23 : decode F_X4_openLine.2.1 23 = .ok (.aload_n 0, 1) := by decide +kernel
theorem d_X4_openLine_24 : decode F_X4_openLine.2.1 24 = .ok (.getfield 15, 3) := by decide +kernel
theorem d_X4_openLine_27 : decode F_X4_openLine.2.1 27 = .ok (.iload_n 2, 1) := by decide +kernel
theorem d_X4_openLine_28 : decode F_X4_openLine.2.1 28 = .ok (.iastore, 1) := by decide +kernel
theorem d_X4_openLine_29 : decode F_X4_openLine.2.1 29 = .ok (.aload_n 0, 1) := by decide +kernel
theorem d_X4_openLine_30 : decode F_X4_openLine.2.1 30 = .ok (.getfield 29, 3) := by decide +kernel
theorem d_X4_openLine_33 : decode F_X4_openLine.2.1 33 = .ok (.aload_n 0, 1) := by decide +kernel
theorem d_X4_openLine_34 : decode F_X4_openLine.2.1 34 = .ok (.getfield 15, 3) := by decide +kernel
theorem d_X4_openLine_37 : decode F_X4_openLine.2.1 37 = .ok (.aload_n 0, 1) := by decide +kernel
theorem d_X4_openLine_38 : decode F_X4_openLine.2.1 38 = .ok (.getfield 19, 3) := by decide +kernel
theorem d_X4_openLine_41 : decode F_X4_openLine.2.1 41 = .ok (.iastore, 1) := by decide +kernel
theorem d_X4_openLine_42 : decode F_X4_openLine.2.1 42 = .ok (.return_, 1) := by decide +kernel
def f_X4_openLine_j42 (μ : Mem) (a0 : Nat) : Option Mem :=
some μ
def f_X4_openLine (μ : Mem) (a0 : Nat) (p1 : Int32) (p2 : Int32) : Option Mem :=
if 12 ≤ (μ a0 1) then
f_X4_openLine_j42 μ a0
else
Option.bind (wr μ (a0 + 1) 12 (μ a0 1) p1) fun μ1 =>
Option.bind (wr μ1 (a0 + 2) 12 (μ1 a0 1) p2) fun μ2 =>
Option.bind (wr μ2 (a0 + 3) 12 (μ2 a0 1) (μ2 a0 2)) fun μ3 =>
f_X4_openLine_j42 μ3 a0
theorem s_X4_openLine_j42 {G : Gl} (hG : G.1.stackTraces = false) {C : Cx} {n : Nat} {μ : Mem} {a0 : Nat} (ha0 : a0 ∈ lawL) {r : Mem} (hf : f_X4_openLine_j42 μ a0 = some r) (hK : FinR G C F_X4_openLine none none r) : V G C F_X4_openLine 42 [none, none, none] [] (pic G μ) n 0 0 := by
  unfold f_X4_openLine_j42 at hf
  cases hf
  exact R_v hK d_X4_openLine_42 (Nat.le_of_ble_eq_true rfl) (Nat.le_of_ble_eq_true rfl)
theorem s_X4_openLine_e {G : Gl} (hG : G.1.stackTraces = false) {C : Cx} {n : Nat} {μ : Mem} {a0 : Nat} {p1 : Int32} {p2 : Int32} (ha0 : a0 ∈ lawL) {r : Mem} (hf : f_X4_openLine μ a0 p1 p2 = some r) (hK : FinR G C F_X4_openLine none none r) : V G C F_X4_openLine 0 [some (.ref (G.2.1 + a0)), some (.int p1), some (.int p2)] [] (pic G μ) n 0 0 := by
  unfold f_X4_openLine at hf
  refine V_aload_n d_X4_openLine_0 rfl rfl ?_
  refine B_get (kLaw _ ha0) fl_RX4_15 d_X4_openLine_1 g_4_1 ?_
  refine V_bipush (v := 12) d_X4_openLine_4 bp_12 ?_
  refine V_icmp_ge (tgt := 42) d_X4_openLine_6 (by decide) (fun c6 => ?_) (fun c6 => ?_)
  · replace hf := iteT c6 hf
    refine V_less (ls' := [none, none, none]) trivial ?_
    exact s_X4_openLine_j42 hG ha0 hf hK
  · replace hf := iteF c6 hf
    refine V_aload_n d_X4_openLine_9 rfl rfl ?_
    refine B_get (kLaw _ ha0) fl_RX4_22 d_X4_openLine_10 g_4_3 ?_
    refine V_aload_n d_X4_openLine_13 rfl rfl ?_
    refine B_get (kLaw _ ha0) fl_RX4_15 d_X4_openLine_14 g_4_1 ?_
    refine V_iload_n d_X4_openLine_17 rfl rfl ?_
    obtain ⟨μ1, hμ1, hf⟩ := ob hf
    refine B_iast (kLaw_1 _ ha0) hμ1 d_X4_openLine_18 ?_
    refine V_aload_n d_X4_openLine_19 rfl rfl ?_
    refine B_get (kLaw _ ha0) fl_RX4_26 d_X4_openLine_20 g_4_4 ?_
    refine V_aload_n d_X4_openLine_23 rfl rfl ?_
    refine B_get (kLaw _ ha0) fl_RX4_15 d_X4_openLine_24 g_4_1 ?_
    refine V_iload_n d_X4_openLine_27 rfl rfl ?_
    obtain ⟨μ2, hμ2, hf⟩ := ob hf
    refine B_iast (kLaw_2 _ ha0) hμ2 d_X4_openLine_28 ?_
    refine V_aload_n d_X4_openLine_29 rfl rfl ?_
    refine B_get (kLaw _ ha0) fl_RX4_29 d_X4_openLine_30 g_4_5 ?_
    refine V_aload_n d_X4_openLine_33 rfl rfl ?_
    refine B_get (kLaw _ ha0) fl_RX4_15 d_X4_openLine_34 g_4_1 ?_
    refine V_aload_n d_X4_openLine_37 rfl rfl ?_
    refine B_get (kLaw _ ha0) fl_RX4_19 d_X4_openLine_38 g_4_2 ?_
    obtain ⟨μ3, hμ3, hf⟩ := ob hf
    refine B_iast (kLaw_3 _ ha0) hμ3 d_X4_openLine_41 ?_
    refine V_less (ls' := [none, none, none]) trivial ?_
    exact s_X4_openLine_j42 hG ha0 hf hK
theorem s_X4_openLine {G : Gl} (hG : G.1.stackTraces = false) {μ : Mem} {a0 : Nat} {p1 : Int32} {p2 : Int32} (ha0 : a0 ∈ lawL) {r : Mem} (hf : f_X4_openLine μ a0 p1 p2 = some r) : Rt G yX4_openLine F_X4_openLine none [.ref (G.2.1 + a0), .int p1, .int p2] μ none r := fun n => Sd.of hG ⟨by decide +kernel, rfl, rfl⟩ rfl (Nat.le_of_ble_eq_true rfl) rfl (fun C hK => s_X4_openLine_e hG ha0 hf hK)
theorem d_X4_addStep_0 : decode F_X4_addStep.2.1 0 = .ok (.aload_n 0, 1) := by decide +kernel
theorem d_X4_addStep_1 : decode F_X4_addStep.2.1 1 = .ok (.getfield 19, 3) := by decide +kernel
theorem d_X4_addStep_4 : decode F_X4_addStep.2.1 4 = .ok (.sipush 400, 3) := by decide +kernel
theorem d_X4_addStep_7 : decode F_X4_addStep.2.1 7 = .ok (.if_icmp .ge 23, 3) := by decide +kernel
theorem d_X4_addStep_10 : decode F_X4_addStep.2.1 10 = .ok (.aload_n 0, 1) := by decide +kernel
theorem d_X4_addStep_11 : decode F_X4_addStep.2.1 11 = .ok (.getfield 35, 3) := by decide +kernel
theorem d_X4_addStep_14 : decode F_X4_addStep.2.1 14 = .ok (.aload_n 0, 1) := by decide +kernel
theorem d_X4_addStep_15 : decode F_X4_addStep.2.1 15 = .ok (.getfield 19, 3) := by decide +kernel
theorem d_X4_addStep_18 : decode F_X4_addStep.2.1 18 = .ok (.iload_n 1, 1) := by decide +kernel
theorem d_X4_addStep_19 : decode F_X4_addStep.2.1 19 = .ok (.iastore, 1) := by decide +kernel
theorem d_X4_addStep_20 : decode F_X4_addStep.2.1 20 = .ok (.aload_n 0, 1) := by decide +kernel
theorem d_X4_addStep_21 : decode F_X4_addStep.2.1 21 = .ok (.dup, 1) := by decide +kernel
theorem d_X4_addStep_22 : decode F_X4_addStep.2.1 22 = .ok (.getfield 19, 3) := by decide +kernel
theorem d_X4_addStep_25 : decode F_X4_addStep.2.1 25 = .ok (.iconst 1, 1) := by decide +kernel
theorem d_X4_addStep_26 : decode F_X4_addStep.2.1 26 = .ok (.iadd, 1) := by decide +kernel
theorem d_X4_addStep_27 : decode F_X4_addStep.2.1 27 = .ok (.putfield 19, 3) := by decide +kernel
theorem d_X4_addStep_30 : decode F_X4_addStep.2.1 30 = .ok (.return_, 1) := by decide +kernel
def f_X4_addStep_j30 (μ : Mem) (a0 : Nat) : Option Mem :=
some μ
def f_X4_addStep (μ : Mem) (a0 : Nat) (p1 : Int32) : Option Mem :=
if 400 ≤ (μ a0 2) then
f_X4_addStep_j30 μ a0
else
Option.bind (wr μ (a0 + 5) 400 (μ a0 2) p1) fun μ1 =>
f_X4_addStep_j30 (mset μ1 a0 2 ((μ1 a0 2) + 1)) a0
theorem s_X4_addStep_j30 {G : Gl} (hG : G.1.stackTraces = false) {C : Cx} {n : Nat} {μ : Mem} {a0 : Nat} (ha0 : a0 ∈ lawL) {r : Mem} (hf : f_X4_addStep_j30 μ a0 = some r) (hK : FinR G C F_X4_addStep none none r) : V G C F_X4_addStep 30 [none, none] [] (pic G μ) n 0 0 := by
  unfold f_X4_addStep_j30 at hf
  cases hf
  exact R_v hK d_X4_addStep_30 (Nat.le_of_ble_eq_true rfl) (Nat.le_of_ble_eq_true rfl)
theorem s_X4_addStep_e {G : Gl} (hG : G.1.stackTraces = false) {C : Cx} {n : Nat} {μ : Mem} {a0 : Nat} {p1 : Int32} (ha0 : a0 ∈ lawL) {r : Mem} (hf : f_X4_addStep μ a0 p1 = some r) (hK : FinR G C F_X4_addStep none none r) : V G C F_X4_addStep 0 [some (.ref (G.2.1 + a0)), some (.int p1)] [] (pic G μ) n 0 0 := by
  unfold f_X4_addStep at hf
  refine V_aload_n d_X4_addStep_0 rfl rfl ?_
  refine B_get (kLaw _ ha0) fl_RX4_19 d_X4_addStep_1 g_4_2 ?_
  refine V_sipush (v := 400) d_X4_addStep_4 sp_400 ?_
  refine V_icmp_ge (tgt := 30) d_X4_addStep_7 (by decide) (fun c7 => ?_) (fun c7 => ?_)
  · replace hf := iteT c7 hf
    refine V_less (ls' := [none, none]) trivial ?_
    exact s_X4_addStep_j30 hG ha0 hf hK
  · replace hf := iteF c7 hf
    refine V_aload_n d_X4_addStep_10 rfl rfl ?_
    refine B_get (kLaw _ ha0) fl_RX4_35 d_X4_addStep_11 g_4_7 ?_
    refine V_aload_n d_X4_addStep_14 rfl rfl ?_
    refine B_get (kLaw _ ha0) fl_RX4_19 d_X4_addStep_15 g_4_2 ?_
    refine V_iload_n d_X4_addStep_18 rfl rfl ?_
    obtain ⟨μ1, hμ1, hf⟩ := ob hf
    refine B_iast (kLaw_5 _ ha0) hμ1 d_X4_addStep_19 ?_
    refine V_aload_n d_X4_addStep_20 rfl rfl ?_
    refine V_dup d_X4_addStep_21 rfl ?_
    refine B_get (kLaw _ ha0) fl_RX4_19 d_X4_addStep_22 g_4_2 ?_
    refine V_iconst (v := 1) d_X4_addStep_25 ic_1 ?_
    refine V_iadd d_X4_addStep_26 ?_
    refine B_putI (kLaw _ ha0) fl_RX4_19 pt_4_2 (Nat.le_of_ble_eq_true rfl) p_4_2 d_X4_addStep_27 ?_
    refine V_less (ls' := [none, none]) trivial ?_
    exact s_X4_addStep_j30 hG ha0 hf hK
theorem s_X4_addStep {G : Gl} (hG : G.1.stackTraces = false) {μ : Mem} {a0 : Nat} {p1 : Int32} (ha0 : a0 ∈ lawL) {r : Mem} (hf : f_X4_addStep μ a0 p1 = some r) : Rt G yX4_addStep F_X4_addStep none [.ref (G.2.1 + a0), .int p1] μ none r := fun n => Sd.of hG ⟨by decide +kernel, rfl, rfl⟩ rfl (Nat.le_of_ble_eq_true rfl) rfl (fun C hK => s_X4_addStep_e hG ha0 hf hK)
theorem d_X4_closeLine_0 : decode F_X4_closeLine.2.1 0 = .ok (.aload_n 0, 1) := by decide +kernel
theorem d_X4_closeLine_1 : decode F_X4_closeLine.2.1 1 = .ok (.getfield 15, 3) := by decide +kernel
theorem d_X4_closeLine_4 : decode F_X4_closeLine.2.1 4 = .ok (.bipush 12, 2) := by decide +kernel
theorem d_X4_closeLine_6 : decode F_X4_closeLine.2.1 6 = .ok (.if_icmp .ge 26, 3) := by decide +kernel
theorem d_X4_closeLine_9 : decode F_X4_closeLine.2.1 9 = .ok (.aload_n 0, 1) := by decide +kernel
theorem d_X4_closeLine_10 : decode F_X4_closeLine.2.1 10 = .ok (.getfield 32, 3) := by decide +kernel
theorem d_X4_closeLine_13 : decode F_X4_closeLine.2.1 13 = .ok (.aload_n 0, 1) := by decide +kernel
theorem d_X4_closeLine_14 : decode F_X4_closeLine.2.1 14 = .ok (.getfield 15, 3) := by decide +kernel
theorem d_X4_closeLine_17 : decode F_X4_closeLine.2.1 17 = .ok (.aload_n 0, 1) := by decide +kernel
theorem d_X4_closeLine_18 : decode F_X4_closeLine.2.1 18 = .ok (.getfield 19, 3) := by decide +kernel
theorem d_X4_closeLine_21 : decode F_X4_closeLine.2.1 21 = .ok (.iastore, 1) := by decide +kernel
theorem d_X4_closeLine_22 : decode F_X4_closeLine.2.1 22 = .ok (.aload_n 0, 1) := by decide +kernel
theorem d_X4_closeLine_23 : decode F_X4_closeLine.2.1 23 = .ok (.dup, 1) := by decide +kernel
theorem d_X4_closeLine_24 : decode F_X4_closeLine.2.1 24 = .ok (.getfield 15, 3) := by decide +kernel
theorem d_X4_closeLine_27 : decode F_X4_closeLine.2.1 27 = .ok (.iconst 1, 1) := by decide +kernel
theorem d_X4_closeLine_28 : decode F_X4_closeLine.2.1 28 = .ok (.iadd, 1) := by decide +kernel
theorem d_X4_closeLine_29 : decode F_X4_closeLine.2.1 29 = .ok (.putfield 15, 3) := by decide +kernel
theorem d_X4_closeLine_32 : decode F_X4_closeLine.2.1 32 = .ok (.return_, 1) := by decide +kernel
def f_X4_closeLine_j32 (μ : Mem) (a0 : Nat) : Option Mem :=
some μ
def f_X4_closeLine (μ : Mem) (a0 : Nat) : Option Mem :=
if 12 ≤ (μ a0 1) then
f_X4_closeLine_j32 μ a0
else
Option.bind (wr μ (a0 + 4) 12 (μ a0 1) (μ a0 2)) fun μ1 =>
f_X4_closeLine_j32 (mset μ1 a0 1 ((μ1 a0 1) + 1)) a0
theorem s_X4_closeLine_j32 {G : Gl} (hG : G.1.stackTraces = false) {C : Cx} {n : Nat} {μ : Mem} {a0 : Nat} (ha0 : a0 ∈ lawL) {r : Mem} (hf : f_X4_closeLine_j32 μ a0 = some r) (hK : FinR G C F_X4_closeLine none none r) : V G C F_X4_closeLine 32 [none] [] (pic G μ) n 0 0 := by
  unfold f_X4_closeLine_j32 at hf
  cases hf
  exact R_v hK d_X4_closeLine_32 (Nat.le_of_ble_eq_true rfl) (Nat.le_of_ble_eq_true rfl)
theorem s_X4_closeLine_e {G : Gl} (hG : G.1.stackTraces = false) {C : Cx} {n : Nat} {μ : Mem} {a0 : Nat} (ha0 : a0 ∈ lawL) {r : Mem} (hf : f_X4_closeLine μ a0 = some r) (hK : FinR G C F_X4_closeLine none none r) : V G C F_X4_closeLine 0 [some (.ref (G.2.1 + a0))] [] (pic G μ) n 0 0 := by
  unfold f_X4_closeLine at hf
  refine V_aload_n d_X4_closeLine_0 rfl rfl ?_
  refine B_get (kLaw _ ha0) fl_RX4_15 d_X4_closeLine_1 g_4_1 ?_
  refine V_bipush (v := 12) d_X4_closeLine_4 bp_12 ?_
  refine V_icmp_ge (tgt := 32) d_X4_closeLine_6 (by decide) (fun c6 => ?_) (fun c6 => ?_)
  · replace hf := iteT c6 hf
    refine V_less (ls' := [none]) trivial ?_
    exact s_X4_closeLine_j32 hG ha0 hf hK
  · replace hf := iteF c6 hf
    refine V_aload_n d_X4_closeLine_9 rfl rfl ?_
    refine B_get (kLaw _ ha0) fl_RX4_32 d_X4_closeLine_10 g_4_6 ?_
    refine V_aload_n d_X4_closeLine_13 rfl rfl ?_
    refine B_get (kLaw _ ha0) fl_RX4_15 d_X4_closeLine_14 g_4_1 ?_
    refine V_aload_n d_X4_closeLine_17 rfl rfl ?_
    refine B_get (kLaw _ ha0) fl_RX4_19 d_X4_closeLine_18 g_4_2 ?_
    obtain ⟨μ1, hμ1, hf⟩ := ob hf
    refine B_iast (kLaw_4 _ ha0) hμ1 d_X4_closeLine_21 ?_
    refine V_aload_n d_X4_closeLine_22 rfl rfl ?_
    refine V_dup d_X4_closeLine_23 rfl ?_
    refine B_get (kLaw _ ha0) fl_RX4_15 d_X4_closeLine_24 g_4_1 ?_
    refine V_iconst (v := 1) d_X4_closeLine_27 ic_1 ?_
    refine V_iadd d_X4_closeLine_28 ?_
    refine B_putI (kLaw _ ha0) fl_RX4_15 pt_4_1 (Nat.le_of_ble_eq_true rfl) p_4_1 d_X4_closeLine_29 ?_
    refine V_less (ls' := [none]) trivial ?_
    exact s_X4_closeLine_j32 hG ha0 hf hK
theorem s_X4_closeLine {G : Gl} (hG : G.1.stackTraces = false) {μ : Mem} {a0 : Nat} (ha0 : a0 ∈ lawL) {r : Mem} (hf : f_X4_closeLine μ a0 = some r) : Rt G yX4_closeLine F_X4_closeLine none [.ref (G.2.1 + a0)] μ none r := fun n => Sd.of hG ⟨by decide +kernel, rfl, rfl⟩ rfl (Nat.le_of_ble_eq_true rfl) rfl (fun C hK => s_X4_closeLine_e hG ha0 hf hK)
theorem d_X8_takesSign_0 : decode F_X8_takesSign.2.1 0 = .ok (.aload_n 0, 1) := by decide +kernel
theorem d_X8_takesSign_1 : decode F_X8_takesSign.2.1 1 = .ok (.getfield 25, 3) := by decide +kernel
theorem d_X8_takesSign_4 : decode F_X8_takesSign.2.1 4 = .ok (.iconst (-1), 1) := by decide +kernel
theorem d_X8_takesSign_5 : decode F_X8_takesSign.2.1 5 = .ok (.if_icmp .ne 27, 3) := by decide +kernel
theorem d_X8_takesSign_8 : decode F_X8_takesSign.2.1 8 = .ok (.aload_n 0, 1) := by decide +kernel
theorem d_X8_takesSign_9 : decode F_X8_takesSign.2.1 9 = .ok (.getfield 22, 3) := by decide +kernel
theorem d_X8_takesSign_12 : decode F_X8_takesSign.2.1 12 = .ok (.aload_n 0, 1) := by decide +kernel
theorem d_X8_takesSign_13 : decode F_X8_takesSign.2.1 13 = .ok (.getfield 19, 3) := by decide +kernel
theorem d_X8_takesSign_16 : decode F_X8_takesSign.2.1 16 = .ok (.if_icmp .ge 16, 3) := by decide +kernel
theorem d_X8_takesSign_19 : decode F_X8_takesSign.2.1 19 = .ok (.aload_n 0, 1) := by decide +kernel
theorem d_X8_takesSign_20 : decode F_X8_takesSign.2.1 20 = .ok (.getfield 9, 3) := by decide +kernel
theorem d_X8_takesSign_23 : decode F_X8_takesSign.2.1 23 = .ok (.aload_n 0, 1) := by decide +kernel
theorem d_X8_takesSign_24 : decode F_X8_takesSign.2.1 24 = .ok (.getfield 22, 3) := by decide +kernel
theorem d_X8_takesSign_27 : decode F_X8_takesSign.2.1 27 = .ok (.iaload, 1) := by decide +kernel
theorem d_X8_takesSign_28 : decode F_X8_takesSign.2.1 28 = .ok (.iload_n 1, 1) := by decide +kernel
theorem d_X8_takesSign_29 : decode F_X8_takesSign.2.1 29 = .ok (.if_icmp .eq 5, 3) := by decide +kernel
theorem d_X8_takesSign_32 : decode F_X8_takesSign.2.1 32 = .ok (.iconst 0, 1) := by decide +kernel
theorem d_X8_takesSign_33 : decode F_X8_takesSign.2.1 33 = .ok (.ireturn, 1) := by decide +kernel
theorem d_X8_takesSign_34 : decode F_X8_takesSign.2.1 34 = .ok (.aload_n 0, 1) := by decide +kernel
theorem d_X8_takesSign_35 : decode F_X8_takesSign.2.1 35 = .ok (.aload_n 0, 1) := by decide +kernel
theorem d_X8_takesSign_36 : decode F_X8_takesSign.2.1 36 = .ok (.getfield 22, 3) := by decide +kernel
theorem d_X8_takesSign_39 : decode F_X8_takesSign.2.1 39 = .ok (.iconst 1, 1) := by decide +kernel
theorem d_X8_takesSign_40 : decode F_X8_takesSign.2.1 40 = .ok (.iadd, 1) := by decide +kernel
theorem d_X8_takesSign_41 : decode F_X8_takesSign.2.1 41 = .ok (.invokevirtual 32, 3) := by decide +kernel
theorem d_X8_takesSign_44 : decode F_X8_takesSign.2.1 44 = .ok (.iconst 1, 1) := by decide +kernel
theorem d_X8_takesSign_45 : decode F_X8_takesSign.2.1 45 = .ok (.ireturn, 1) := by decide +kernel
def f_X8_takesSign_j32 (μ : Mem) : Option (Bool × Mem) :=
some (false, μ)
def f_X8_takesSign (μ : Mem) (p1 : Int32) : Option (Bool × Mem) :=
if (μ 1 4) = (-1) then
if (μ 1 2) ≤ (μ 1 3) then
f_X8_takesSign_j32 μ
else
Option.bind (rd μ 2 400 (μ 1 3)) fun t1 =>
if t1 = p1 then
Option.bind (f_X8_moveTo μ ((μ 1 3) + 1)) fun q2 =>
some (true, q2)
else
f_X8_takesSign_j32 μ
else
f_X8_takesSign_j32 μ
theorem s_X8_takesSign_j32 {G : Gl} (hG : G.1.stackTraces = false) {C : Cx} {n : Nat} {μ : Mem}  {r : (Bool × Mem)} (hf : f_X8_takesSign_j32 μ = some r) (hK : FinR G C F_X8_takesSign (some .boolean) (some (.int (b2i r.1))) r.2) : V G C F_X8_takesSign 32 [none, none] [] (pic G μ) n 0 0 := by
  unfold f_X8_takesSign_j32 at hf
  refine V_iconst (v := 0) d_X8_takesSign_32 ic_0 ?_
  cases hf
  exact R_z hK d_X8_takesSign_33 (Nat.le_of_ble_eq_true rfl) (Nat.le_of_ble_eq_true rfl)
theorem s_X8_takesSign_e {G : Gl} (hG : G.1.stackTraces = false) {C : Cx} {n : Nat} {μ : Mem} {p1 : Int32} {r : (Bool × Mem)} (hf : f_X8_takesSign μ p1 = some r) (hK : FinR G C F_X8_takesSign (some .boolean) (some (.int (b2i r.1))) r.2) : V G C F_X8_takesSign 0 [some (.ref (G.2.1 + 1)), some (.int p1)] [] (pic G μ) n 0 0 := by
  unfold f_X8_takesSign at hf
  refine V_aload_n d_X8_takesSign_0 rfl rfl ?_
  refine B_get k_1 fl_RX8_25 d_X8_takesSign_1 g_8_4 ?_
  refine V_iconst (v := (-1)) d_X8_takesSign_4 ic_m1 ?_
  refine V_icmp_ne (tgt := 32) d_X8_takesSign_5 (by decide) (fun c5 => ?_) (fun c5 => ?_)
  · replace hf := iteF c5 hf
    refine V_less (ls' := [none, none]) trivial ?_
    exact s_X8_takesSign_j32 hG hf hK
  · replace hf := iteT c5 hf
    refine V_aload_n d_X8_takesSign_8 rfl rfl ?_
    refine B_get k_1 fl_RX8_22 d_X8_takesSign_9 g_8_3 ?_
    refine V_aload_n d_X8_takesSign_12 rfl rfl ?_
    refine B_get k_1 fl_RX8_19 d_X8_takesSign_13 g_8_2 ?_
    refine V_icmp_ge (tgt := 32) d_X8_takesSign_16 (by decide) (fun c16 => ?_) (fun c16 => ?_)
    · replace hf := iteT c16 hf
      refine V_less (ls' := [none, none]) trivial ?_
      exact s_X8_takesSign_j32 hG hf hK
    · replace hf := iteF c16 hf
      refine V_aload_n d_X8_takesSign_19 rfl rfl ?_
      refine B_get k_1 fl_RX8_9 d_X8_takesSign_20 g_8_0 ?_
      refine V_aload_n d_X8_takesSign_23 rfl rfl ?_
      refine B_get k_1 fl_RX8_22 d_X8_takesSign_24 g_8_3 ?_
      obtain ⟨t1, ht1, hf⟩ := ob hf
      refine B_iald k_2 ht1 d_X8_takesSign_27 ?_
      refine V_iload_n d_X8_takesSign_28 rfl rfl ?_
      refine V_icmp_eq (tgt := 34) d_X8_takesSign_29 (by decide) (fun c29 => ?_) (fun c29 => ?_)
      · replace hf := iteT c29 hf
        refine V_aload_n d_X8_takesSign_34 rfl rfl ?_
        refine V_aload_n d_X8_takesSign_35 rfl rfl ?_
        refine B_get k_1 fl_RX8_22 d_X8_takesSign_36 g_8_3 ?_
        refine V_iconst (v := 1) d_X8_takesSign_39 ic_1 ?_
        refine V_iadd d_X8_takesSign_40 ?_
        obtain ⟨q2, hq2, hf⟩ := ob hf
        refine B_callV0 (s_X8_moveTo hG hq2) k_1 clX8 m_X8_moveTo kv_RX8_32 d_X8_takesSign_41 rfl (Nat.le_of_ble_eq_true rfl) ⟨rfl, rfl, Nat.le_of_ble_eq_true rfl, Nat.le_of_ble_eq_true rfl, Nat.le_of_ble_eq_true rfl⟩ (fun n => ?_)
        refine V_iconst (v := 1) d_X8_takesSign_44 ic_1 ?_
        cases hf
        exact R_z hK d_X8_takesSign_45 (Nat.le_of_ble_eq_true rfl) (Nat.le_of_ble_eq_true rfl)
      · replace hf := iteF c29 hf
        refine V_less (ls' := [none, none]) trivial ?_
        exact s_X8_takesSign_j32 hG hf hK
theorem s_X8_takesSign {G : Gl} (hG : G.1.stackTraces = false) {μ : Mem} {p1 : Int32} {r : (Bool × Mem)} (hf : f_X8_takesSign μ p1 = some r) : Rt G yX8_takesSign F_X8_takesSign (some .boolean) [.ref (G.2.1 + 1), .int p1] μ (some (.int (b2i r.1))) r.2 := fun n => Sd.of hG ⟨by decide +kernel, rfl, rfl⟩ rfl (Nat.le_of_ble_eq_true rfl) rfl (fun C hK => s_X8_takesSign_e hG hf hK)
theorem d_X8_needSign_0 : decode F_X8_needSign.2.1 0 = .ok (.aload_n 0, 1) := by decide +kernel
theorem d_X8_needSign_1 : decode F_X8_needSign.2.1 1 = .ok (.iload_n 1, 1) := by decide +kernel
theorem d_X8_needSign_2 : decode F_X8_needSign.2.1 2 = .ok (.invokevirtual 55, 3) := by decide +kernel
theorem d_X8_needSign_5 : decode F_X8_needSign.2.1 5 = .ok (.ifCond .ne 11, 3) := by decide +kernel
theorem d_X8_needSign_8 : decode F_X8_needSign.2.1 8 = .ok (.aload_n 0, 1) := by decide +kernel
theorem d_X8_needSign_9 : decode F_X8_needSign.2.1 9 = .ok (.aload_n 0, 1) := by decide +kernel
theorem d_X8_needSign_10 : decode F_X8_needSign.2.1 10 = .ok (.getfield 22, 3) := by decide +kernel
theorem d_X8_needSign_13 : decode F_X8_needSign.2.1 13 = .ok (.invokevirtual 52, 3) := by decide +kernel
theorem d_X8_needSign_16 : decode F_X8_needSign.2.1 16 = .ok (.return_, 1) := by decide +kernel
def f_X8_needSign_j16 (μ : Mem) : Option Mem :=
some μ
def f_X8_needSign (μ : Mem) (p1 : Int32) : Option Mem :=
Option.bind (f_X8_takesSign μ p1) fun q1 =>
if q1.1 = true then
f_X8_needSign_j16 q1.2
else
Option.bind (f_X8_refuse q1.2 (q1.2 1 3)) fun q2 =>
f_X8_needSign_j16 q2
theorem s_X8_needSign_j16 {G : Gl} (hG : G.1.stackTraces = false) {C : Cx} {n : Nat} {μ : Mem}  {r : Mem} (hf : f_X8_needSign_j16 μ = some r) (hK : FinR G C F_X8_needSign none none r) : V G C F_X8_needSign 16 [none, none] [] (pic G μ) n 0 0 := by
  unfold f_X8_needSign_j16 at hf
  cases hf
  exact R_v hK d_X8_needSign_16 (Nat.le_of_ble_eq_true rfl) (Nat.le_of_ble_eq_true rfl)
theorem s_X8_needSign_e {G : Gl} (hG : G.1.stackTraces = false) {C : Cx} {n : Nat} {μ : Mem} {p1 : Int32} {r : Mem} (hf : f_X8_needSign μ p1 = some r) (hK : FinR G C F_X8_needSign none none r) : V G C F_X8_needSign 0 [some (.ref (G.2.1 + 1)), some (.int p1)] [] (pic G μ) n 0 0 := by
  unfold f_X8_needSign at hf
  refine V_aload_n d_X8_needSign_0 rfl rfl ?_
  refine V_iload_n d_X8_needSign_1 rfl rfl ?_
  obtain ⟨q1, hq1, hf⟩ := ob hf
  refine B_callV1 (s_X8_takesSign hG hq1) k_1 clX8 m_X8_takesSign kv_RX8_55 d_X8_needSign_2 rfl (Nat.le_of_ble_eq_true rfl) ⟨rfl, rfl, Nat.le_of_ble_eq_true rfl, Nat.le_of_ble_eq_true rfl, Nat.le_of_ble_eq_true rfl⟩ (fun n => ?_)
  refine V_if_ne (tgt := 16) d_X8_needSign_5 (by decide) (fun c5 => ?_) (fun c5 => ?_)
  · replace hf := iteT (b2i_ne0 c5) hf
    refine V_less (ls' := [none, none]) trivial ?_
    exact s_X8_needSign_j16 hG hf hK
  · replace hf := iteF (b2i_nt (b2i_eq0 c5)) hf
    refine V_aload_n d_X8_needSign_8 rfl rfl ?_
    refine V_aload_n d_X8_needSign_9 rfl rfl ?_
    refine B_get k_1 fl_RX8_22 d_X8_needSign_10 g_8_3 ?_
    obtain ⟨q2, hq2, hf⟩ := ob hf
    refine B_callV0 (s_X8_refuse hG hq2) k_1 clX8 m_X8_refuse kv_RX8_52 d_X8_needSign_13 rfl (Nat.le_of_ble_eq_true rfl) ⟨rfl, rfl, Nat.le_of_ble_eq_true rfl, Nat.le_of_ble_eq_true rfl, Nat.le_of_ble_eq_true rfl⟩ (fun n => ?_)
    refine V_less (ls' := [none, none]) trivial ?_
    exact s_X8_needSign_j16 hG hf hK
theorem s_X8_needSign {G : Gl} (hG : G.1.stackTraces = false) {μ : Mem} {p1 : Int32} {r : Mem} (hf : f_X8_needSign μ p1 = some r) : Rt G yX8_needSign F_X8_needSign none [.ref (G.2.1 + 1), .int p1] μ none r := fun n => Sd.of hG ⟨by decide +kernel, rfl, rfl⟩ rfl (Nat.le_of_ble_eq_true rfl) rfl (fun C hK => s_X8_needSign_e hG hf hK)
theorem d_X8_isAtNumber_0 : decode F_X8_isAtNumber.2.1 0 = .ok (.aload_n 0, 1) := by decide +kernel
theorem d_X8_isAtNumber_1 : decode F_X8_isAtNumber.2.1 1 = .ok (.bipush 48, 2) := by decide +kernel
theorem d_X8_isAtNumber_3 : decode F_X8_isAtNumber.2.1 3 = .ok (.bipush 57, 2) := by decide +kernel
theorem d_X8_isAtNumber_5 : decode F_X8_isAtNumber.2.1 5 = .ok (.invokevirtual 36, 3) := by decide +kernel
theorem d_X8_isAtNumber_8 : decode F_X8_isAtNumber.2.1 8 = .ok (.ifCond .le 7, 3) := by decide +kernel
theorem d_X8_isAtNumber_11 : decode F_X8_isAtNumber.2.1 11 = .ok (.iconst 1, 1) := by decide +kernel
theorem d_X8_isAtNumber_12 : decode F_X8_isAtNumber.2.1 12 = .ok (.goto 4, 3) := by decide +kernel
theorem d_X8_isAtNumber_15 : decode F_X8_isAtNumber.2.1 15 = .ok (.iconst 0, 1) := by decide +kernel
theorem d_X8_isAtNumber_16 : decode F_X8_isAtNumber.2.1 16 = .ok (.ireturn, 1) := by decide +kernel
def f_X8_isAtNumber (μ : Mem) : Option Bool :=
Option.bind (f_X8_runOf μ 48 57) fun t1 =>
some (if t1 ≤ 0 then false else true)
theorem s_X8_isAtNumber_e {G : Gl} (hG : G.1.stackTraces = false) {C : Cx} {n : Nat} {μ : Mem}  {r : Bool} (hf : f_X8_isAtNumber μ = some r) (hK : FinR G C F_X8_isAtNumber (some .boolean) (some (.int (b2i r))) μ) : V G C F_X8_isAtNumber 0 [some (.ref (G.2.1 + 1))] [] (pic G μ) n 0 0 := by
  unfold f_X8_isAtNumber at hf
  refine V_aload_n d_X8_isAtNumber_0 rfl rfl ?_
  refine V_bipush (v := 48) d_X8_isAtNumber_1 bp_48 ?_
  refine V_bipush (v := 57) d_X8_isAtNumber_3 bp_57 ?_
  obtain ⟨t1, ht1, hf⟩ := ob hf
  refine B_callV1 (s_X8_runOf hG ht1) k_1 clX8 m_X8_runOf kv_RX8_36 d_X8_isAtNumber_5 rfl (Nat.le_of_ble_eq_true rfl) ⟨rfl, rfl, Nat.le_of_ble_eq_true rfl, Nat.le_of_ble_eq_true rfl, Nat.le_of_ble_eq_true rfl⟩ (fun n => ?_)
  have hJj2 : ∀ j2 : Bool, j2 = (if t1 ≤ 0 then false else true) → V G C F_X8_isAtNumber 16 [none] [.int (b2i j2)] (pic G μ) n 0 0 := by
    intro j2 ej2
    subst ej2
    cases hf
    exact R_z hK d_X8_isAtNumber_16 (Nat.le_of_ble_eq_true rfl) (Nat.le_of_ble_eq_true rfl)
  refine V_if_le (tgt := 15) d_X8_isAtNumber_8 (by decide) (fun c8 => ?_) (fun c8 => ?_)
  · refine V_iconst (v := 0) d_X8_isAtNumber_15 ic_0 ?_
    refine V_less (ls' := [none]) trivial ?_
    exact hJj2 false (by rw [if_pos c8])
  · refine V_iconst (v := 1) d_X8_isAtNumber_11 ic_1 ?_
    refine V_goto (tgt := 16) d_X8_isAtNumber_12 (by decide) ?_
    refine V_less (ls' := [none]) trivial ?_
    exact hJj2 true (by rw [if_neg c8])
theorem s_X8_isAtNumber {G : Gl} (hG : G.1.stackTraces = false) {μ : Mem} {r : Bool} (hf : f_X8_isAtNumber μ = some r) : Rt G yX8_isAtNumber F_X8_isAtNumber (some .boolean) [.ref (G.2.1 + 1)] μ (some (.int (b2i r))) μ := fun n => Sd.of hG ⟨by decide +kernel, rfl, rfl⟩ rfl (Nat.le_of_ble_eq_true rfl) rfl (fun C hK => s_X8_isAtNumber_e hG hf hK)
theorem d_X8_useUp_0 : decode F_X8_useUp.2.1 0 = .ok (.aload_n 0, 1) := by decide +kernel
theorem d_X8_useUp_1 : decode F_X8_useUp.2.1 1 = .ok (.getfield 15, 3) := by decide +kernel
theorem d_X8_useUp_4 : decode F_X8_useUp.2.1 4 = .ok (.istore_n 1, 1) := by decide +kernel
theorem d_X8_useUp_5 : decode F_X8_useUp.2.1 5 = .ok (.aload_n 0, 1) := by decide +kernel
theorem d_X8_useUp_6 : decode F_X8_useUp.2.1 6 = .ok (.iconst 0, 1) := by decide +kernel
theorem d_X8_useUp_7 : decode F_X8_useUp.2.1 7 = .ok (.putfield 15, 3) := by decide +kernel
theorem d_X8_useUp_10 : decode F_X8_useUp.2.1 10 = .ok (.iload_n 1, 1) := by decide +kernel
theorem d_X8_useUp_11 : decode F_X8_useUp.2.1 11 = .ok (.ireturn, 1) := by decide +kernel
def f_X8_useUp (μ : Mem) : Option (Int32 × Mem) :=
some ((μ 1 1), (mset μ 1 1 0))
theorem s_X8_useUp_e {G : Gl} (hG : G.1.stackTraces = false) {C : Cx} {n : Nat} {μ : Mem}  {r : (Int32 × Mem)} (hf : f_X8_useUp μ = some r) (hK : FinR G C F_X8_useUp (some .int) (some (.int r.1)) r.2) : V G C F_X8_useUp 0 [some (.ref (G.2.1 + 1)), none] [] (pic G μ) n 0 0 := by
  unfold f_X8_useUp at hf
  refine V_aload_n d_X8_useUp_0 rfl rfl ?_
  refine B_get k_1 fl_RX8_15 d_X8_useUp_1 g_8_1 ?_
  refine V_istore_n (ls' := [_, _]) d_X8_useUp_4 rfl rfl rfl ?_
  refine V_aload_n d_X8_useUp_5 rfl rfl ?_
  refine V_iconst (v := 0) d_X8_useUp_6 ic_0 ?_
  refine B_putI k_1 fl_RX8_15 pt_8_1 (Nat.le_of_ble_eq_true rfl) p_8_1 d_X8_useUp_7 ?_
  refine V_iload_n d_X8_useUp_10 rfl rfl ?_
  cases hf
  exact R_i hK d_X8_useUp_11 (Nat.le_of_ble_eq_true rfl) (Nat.le_of_ble_eq_true rfl)
theorem s_X8_useUp {G : Gl} (hG : G.1.stackTraces = false) {μ : Mem} {r : (Int32 × Mem)} (hf : f_X8_useUp μ = some r) : Rt G yX8_useUp F_X8_useUp (some .int) [.ref (G.2.1 + 1)] μ (some (.int r.1)) r.2 := fun n => Sd.of hG ⟨by decide +kernel, rfl, rfl⟩ rfl (Nat.le_of_ble_eq_true rfl) rfl (fun C hK => s_X8_useUp_e hG hf hK)
theorem d_X8_openText_0 : decode F_X8_openText.2.1 0 = .ok (.aload_n 0, 1) := by decide +kernel
theorem d_X8_openText_1 : decode F_X8_openText.2.1 1 = .ok (.aload_n 0, 1) := by decide +kernel
theorem d_X8_openText_2 : decode F_X8_openText.2.1 2 = .ok (.invokevirtual 28, 3) := by decide +kernel
theorem d_X8_openText_5 : decode F_X8_openText.2.1 5 = .ok (.putfield 19, 3) := by decide +kernel
theorem d_X8_openText_8 : decode F_X8_openText.2.1 8 = .ok (.aload_n 0, 1) := by decide +kernel
theorem d_X8_openText_9 : decode F_X8_openText.2.1 9 = .ok (.iconst (-1), 1) := by decide +kernel
theorem d_X8_openText_10 : decode F_X8_openText.2.1 10 = .ok (.putfield 25, 3) := by decide +kernel
theorem d_X8_openText_13 : decode F_X8_openText.2.1 13 = .ok (.aload_n 0, 1) := by decide +kernel
theorem d_X8_openText_14 : decode F_X8_openText.2.1 14 = .ok (.iconst 0, 1) := by decide +kernel
theorem d_X8_openText_15 : decode F_X8_openText.2.1 15 = .ok (.invokevirtual 32, 3) := by decide +kernel
theorem d_X8_openText_18 : decode F_X8_openText.2.1 18 = .ok (.return_, 1) := by decide +kernel
def f_X8_openText (μ : Mem) : Option Mem :=
Option.bind (f_X8_useUp μ) fun q1 =>
Option.bind (f_X8_moveTo (mset (mset q1.2 1 2 q1.1) 1 4 (-1)) 0) fun q2 =>
some q2
theorem s_X8_openText_e {G : Gl} (hG : G.1.stackTraces = false) {C : Cx} {n : Nat} {μ : Mem}  {r : Mem} (hf : f_X8_openText μ = some r) (hK : FinR G C F_X8_openText none none r) : V G C F_X8_openText 0 [some (.ref (G.2.1 + 1))] [] (pic G μ) n 0 0 := by
  unfold f_X8_openText at hf
  refine V_aload_n d_X8_openText_0 rfl rfl ?_
  refine V_aload_n d_X8_openText_1 rfl rfl ?_
  obtain ⟨q1, hq1, hf⟩ := ob hf
  refine B_callV1 (s_X8_useUp hG hq1) k_1 clX8 m_X8_useUp kv_RX8_28 d_X8_openText_2 rfl (Nat.le_of_ble_eq_true rfl) ⟨rfl, rfl, Nat.le_of_ble_eq_true rfl, Nat.le_of_ble_eq_true rfl, Nat.le_of_ble_eq_true rfl⟩ (fun n => ?_)
  refine B_putI k_1 fl_RX8_19 pt_8_2 (Nat.le_of_ble_eq_true rfl) p_8_2 d_X8_openText_5 ?_
  refine V_aload_n d_X8_openText_8 rfl rfl ?_
  refine V_iconst (v := (-1)) d_X8_openText_9 ic_m1 ?_
  refine B_putI k_1 fl_RX8_25 pt_8_4 (Nat.le_of_ble_eq_true rfl) p_8_4 d_X8_openText_10 ?_
  refine V_aload_n d_X8_openText_13 rfl rfl ?_
  refine V_iconst (v := 0) d_X8_openText_14 ic_0 ?_
  obtain ⟨q2, hq2, hf⟩ := ob hf
  refine B_callV0 (s_X8_moveTo hG hq2) k_1 clX8 m_X8_moveTo kv_RX8_32 d_X8_openText_15 rfl (Nat.le_of_ble_eq_true rfl) ⟨rfl, rfl, Nat.le_of_ble_eq_true rfl, Nat.le_of_ble_eq_true rfl, Nat.le_of_ble_eq_true rfl⟩ (fun n => ?_)
  cases hf
  exact R_v hK d_X8_openText_18 (Nat.le_of_ble_eq_true rfl) (Nat.le_of_ble_eq_true rfl)
theorem s_X8_openText {G : Gl} (hG : G.1.stackTraces = false) {μ : Mem} {r : Mem} (hf : f_X8_openText μ = some r) : Rt G yX8_openText F_X8_openText none [.ref (G.2.1 + 1)] μ none r := fun n => Sd.of hG ⟨by decide +kernel, rfl, rfl⟩ rfl (Nat.le_of_ble_eq_true rfl) rfl (fun C hK => s_X8_openText_e hG hf hK)
theorem d_X8_isOver_0 : decode F_X8_isOver.2.1 0 = .ok (.aload_n 0, 1) := by decide +kernel
theorem d_X8_isOver_1 : decode F_X8_isOver.2.1 1 = .ok (.getfield 22, 3) := by decide +kernel
theorem d_X8_isOver_4 : decode F_X8_isOver.2.1 4 = .ok (.aload_n 0, 1) := by decide +kernel
theorem d_X8_isOver_5 : decode F_X8_isOver.2.1 5 = .ok (.getfield 19, 3) := by decide +kernel
theorem d_X8_isOver_8 : decode F_X8_isOver.2.1 8 = .ok (.if_icmp .lt 7, 3) := by decide +kernel
theorem d_X8_isOver_11 : decode F_X8_isOver.2.1 11 = .ok (.iconst 1, 1) := by decide +kernel
theorem d_X8_isOver_12 : decode F_X8_isOver.2.1 12 = .ok (.goto 4, 3) := by decide +kernel
theorem d_X8_isOver_15 : decode F_X8_isOver.2.1 15 = .ok (.iconst 0, 1) := by decide +kernel
theorem d_X8_isOver_16 : decode F_X8_isOver.2.1 16 = .ok (.ireturn, 1) := by decide +kernel
def f_X8_isOver (μ : Mem) : Option Bool :=
some (if (μ 1 3) < (μ 1 2) then false else true)
theorem s_X8_isOver_e {G : Gl} (hG : G.1.stackTraces = false) {C : Cx} {n : Nat} {μ : Mem}  {r : Bool} (hf : f_X8_isOver μ = some r) (hK : FinR G C F_X8_isOver (some .boolean) (some (.int (b2i r))) μ) : V G C F_X8_isOver 0 [some (.ref (G.2.1 + 1))] [] (pic G μ) n 0 0 := by
  unfold f_X8_isOver at hf
  refine V_aload_n d_X8_isOver_0 rfl rfl ?_
  refine B_get k_1 fl_RX8_22 d_X8_isOver_1 g_8_3 ?_
  refine V_aload_n d_X8_isOver_4 rfl rfl ?_
  refine B_get k_1 fl_RX8_19 d_X8_isOver_5 g_8_2 ?_
  have hJj1 : ∀ j1 : Bool, j1 = (if (μ 1 3) < (μ 1 2) then false else true) → V G C F_X8_isOver 16 [none] [.int (b2i j1)] (pic G μ) n 0 0 := by
    intro j1 ej1
    subst ej1
    cases hf
    exact R_z hK d_X8_isOver_16 (Nat.le_of_ble_eq_true rfl) (Nat.le_of_ble_eq_true rfl)
  refine V_icmp_lt (tgt := 15) d_X8_isOver_8 (by decide) (fun c8 => ?_) (fun c8 => ?_)
  · refine V_iconst (v := 0) d_X8_isOver_15 ic_0 ?_
    refine V_less (ls' := [none]) trivial ?_
    exact hJj1 false (by rw [if_pos c8])
  · refine V_iconst (v := 1) d_X8_isOver_11 ic_1 ?_
    refine V_goto (tgt := 16) d_X8_isOver_12 (by decide) ?_
    refine V_less (ls' := [none]) trivial ?_
    exact hJj1 true (by rw [if_neg c8])
theorem s_X8_isOver {G : Gl} (hG : G.1.stackTraces = false) {μ : Mem} {r : Bool} (hf : f_X8_isOver μ = some r) : Rt G yX8_isOver F_X8_isOver (some .boolean) [.ref (G.2.1 + 1)] μ (some (.int (b2i r))) μ := fun n => Sd.of hG ⟨by decide +kernel, rfl, rfl⟩ rfl (Nat.le_of_ble_eq_true rfl) rfl (fun C hK => s_X8_isOver_e hG hf hK)
theorem d_X7_gather_0 : decode F_X7_gather.2.1 0 = .ok (.iconst 0, 1) := by decide +kernel
theorem d_X7_gather_1 : decode F_X7_gather.2.1 1 = .ok (.istore_n 2, 1) := by decide +kernel
theorem d_X7_gather_2 : decode F_X7_gather.2.1 2 = .ok (.iload_n 2, 1) := by decide +kernel
theorem d_X7_gather_3 : decode F_X7_gather.2.1 3 = .ok (.bipush 6, 2) := by decide +kernel
theorem d_X7_gather_5 : decode F_X7_gather.2.1 5 = .ok (.if_icmp .ge 16, 3) := by decide +kernel
theorem d_X7_gather_8 : decode F_X7_gather.2.1 8 = .ok (.aload_n 0, 1) := by decide +kernel
theorem d_X7_gather_9 : decode F_X7_gather.2.1 9 = .ok (.getfield 15, 3) := by decide +kernel
theorem d_X7_gather_12 : decode F_X7_gather.2.1 12 = .ok (.iload_n 2, 1) := by decide +kernel
theorem d_X7_gather_13 : decode F_X7_gather.2.1 13 = .ok (.iconst 0, 1) := by decide +kernel
theorem d_X7_gather_14 : decode F_X7_gather.2.1 14 = .ok (.iastore, 1) := by decide +kernel
theorem d_X7_gather_15 : decode F_X7_gather.2.1 15 = .ok (.iinc 2 1, 3) := by decide +kernel
theorem d_X7_gather_18 : decode F_X7_gather.2.1 18 = .ok (.goto (-16), 3) := by decide +kernel
theorem d_X7_gather_21 : decode F_X7_gather.2.1 21 = .ok (.iconst 0, 1) := by decide +kernel
theorem d_X7_gather_22 : decode F_X7_gather.2.1 22 = .ok (.istore_n 2, 1) := by decide +kernel
theorem d_X7_gather_23 : decode F_X7_gather.2.1 23 = .ok (.iconst 0, 1) := by decide +kernel
theorem d_X7_gather_24 : decode F_X7_gather.2.1 24 = .ok (.istore_n 3, 1) := by decide +kernel
theorem d_X7_gather_25 : decode F_X7_gather.2.1 25 = .ok (.iload_n 3, 1) := by decide +kernel
theorem d_X7_gather_26 : decode F_X7_gather.2.1 26 = .ok (.iconst 2, 1) := by decide +kernel
theorem d_X7_gather_27 : decode F_X7_gather.2.1 27 = .ok (.aload_n 1, 1) := by decide +kernel
theorem d_X7_gather_28 : decode F_X7_gather.2.1 28 = .ok (.getfield 58, 3) := by decide +kernel
theorem d_X7_gather_31 : decode F_X7_gather.2.1 31 = .ok (.imul, 1) := by decide +kernel
theorem d_X7_gather_32 : decode F_X7_gather.2.1 32 = .ok (.if_icmp .ge 27, 3) := by decide +kernel
theorem d_X7_gather_35 : decode F_X7_gather.2.1 35 = .ok (.aload_n 1, 1) := by decide +kernel
theorem d_X7_gather_36 : decode F_X7_gather.2.1 36 = .ok (.iload_n 3, 1) := by decide +kernel
theorem d_X7_gather_37 : decode F_X7_gather.2.1 37 = .ok (.invokevirtual 61, 3) := by decide +kernel
theorem d_X7_gather_40 : decode F_X7_gather.2.1 40 = .ok (.ifCond .eq 13, 3) := by decide +kernel
theorem d_X7_gather_43 : decode F_X7_gather.2.1 43 = .ok (.aload_n 0, 1) := by decide +kernel
theorem d_X7_gather_44 : decode F_X7_gather.2.1 44 = .ok (.getfield 9, 3) := by decide +kernel
theorem d_X7_gather_47 : decode F_X7_gather.2.1 47 = .ok (.iload_n 2, 1) := by decide +kernel
theorem d_X7_gather_48 : decode F_X7_gather.2.1 48 = .ok (.iload_n 3, 1) := by decide +kernel
theorem d_X7_gather_49 : decode F_X7_gather.2.1 49 = .ok (.iastore, 1) := by decide +kernel
theorem d_X7_gather_50 : decode F_X7_gather.2.1 50 = .ok (.iinc 2 1, 3) := by decide +kernel
theorem d_X7_gather_53 : decode F_X7_gather.2.1 53 = .ok (.iinc 3 1, 3) := by decide +kernel
theorem d_X7_gather_56 : decode F_X7_gather.2.1 56 = .ok (.goto (-31), 3) := by decide +kernel
theorem d_X7_gather_59 : decode F_X7_gather.2.1 59 = .ok (.iload_n 2, 1) := by decide +kernel
theorem d_X7_gather_60 : decode F_X7_gather.2.1 60 = .ok (.ireturn, 1) := by decide +kernel
def f_X7_gather_b2 (μ : Mem) (a1 : Nat) (l2 : Int32) : Option ((Int32 × Mem) ⊕ Mem) :=
if 6 ≤ l2 then
some (.inr μ)
else
Option.bind (wr μ 258 6 l2 0) fun μ1 =>
some (.inl ((l2 + 1), μ1))
def f_X7_gather_j53_25 (μ : Mem) (a1 : Nat) (l2 : Int32) (l3 : Int32) : Option ((Int32 × Int32 × Mem) ⊕ (Int32 × Mem)) :=
some (.inl (l2, (l3 + 1), μ))
def f_X7_gather_b25 (μ : Mem) (a1 : Nat) (l2 : Int32) (l3 : Int32) : Option ((Int32 × Int32 × Mem) ⊕ (Int32 × Mem)) :=
if (2 * (μ a1 0)) ≤ l3 then
some (.inr (l2, μ))
else
Option.bind (f_X2_isPledged μ a1 l3) fun t1 =>
if t1 = true then
Option.bind (wr μ 257 12 l2 l3) fun μ2 =>
f_X7_gather_j53_25 μ2 a1 (l2 + 1) l3
else
f_X7_gather_j53_25 μ a1 l2 l3
def f_X7_gather_j59 (μ : Mem) (a1 : Nat) (l2 : Int32) : Option (Int32 × Mem) :=
some (l2, μ)
def f_X7_gather_l25 (μ : Mem) (a1 : Nat) (l2 : Int32) (l3 : Int32) : Option (Int32 × Mem) := Option.bind (loopN 10000 (fun z : (Int32 × Int32 × Mem) => f_X7_gather_b25 z.2.2 a1 z.1 z.2.1) (l2, l3, μ)) fun t : (Int32 × Mem) => f_X7_gather_j59 t.2 a1 t.1
def f_X7_gather_j21 (μ : Mem) (a1 : Nat) : Option (Int32 × Mem) :=
f_X7_gather_l25 μ a1 0 0
def f_X7_gather_l2 (μ : Mem) (a1 : Nat) (l2 : Int32) : Option (Int32 × Mem) := Option.bind (loopN 10000 (fun z : (Int32 × Mem) => f_X7_gather_b2 z.2 a1 z.1) (l2, μ)) fun t : Mem => f_X7_gather_j21 t a1
def f_X7_gather (μ : Mem) (a1 : Nat) : Option (Int32 × Mem) :=
f_X7_gather_l2 μ a1 0
theorem s_X7_gather_b2 {G : Gl} (hG : G.1.stackTraces = false) {C : Cx} {n : Nat} {μ : Mem} {a1 : Nat} {l2 : Int32} (ha1 : a1 ∈ landL) {y : ((Int32 × Mem) ⊕ Mem)} (hf : f_X7_gather_b2 μ a1 l2 = some y) (hK : (∀ z', y = .inl z' → ∀ n, V G C F_X7_gather 2 [some (.ref (G.2.1 + 256)), some (.ref (G.2.1 + a1)), some (.int z'.1), none] [] (pic G z'.2) n 0 0) ∧ (∀ x', y = .inr x' → ∀ n, V G C F_X7_gather 21 [some (.ref (G.2.1 + 256)), some (.ref (G.2.1 + a1)), none, none] [] (pic G x') n 0 0)) : V G C F_X7_gather 2 [some (.ref (G.2.1 + 256)), some (.ref (G.2.1 + a1)), some (.int l2), none] [] (pic G μ) n 0 0 := by
  unfold f_X7_gather_b2 at hf
  refine V_iload_n d_X7_gather_2 rfl rfl ?_
  refine V_bipush (v := 6) d_X7_gather_3 bp_6 ?_
  refine V_icmp_ge (tgt := 21) d_X7_gather_5 (by decide) (fun c5 => ?_) (fun c5 => ?_)
  · replace hf := iteT c5 hf
    refine V_less (ls' := [some _, some _, none, none]) ⟨rfl, rfl, trivial⟩ ?_
    cases hf
    exact hK.2 _ rfl _
  · replace hf := iteF c5 hf
    refine V_aload_n d_X7_gather_8 rfl rfl ?_
    refine B_get k_256 fl_RX7_15 d_X7_gather_9 g_7_1 ?_
    refine V_iload_n d_X7_gather_12 rfl rfl ?_
    refine V_iconst (v := 0) d_X7_gather_13 ic_0 ?_
    obtain ⟨μ1, hμ1, hf⟩ := ob hf
    refine B_iast k_258 hμ1 d_X7_gather_14 ?_
    refine V_iinc (v := (l2 + 1)) (ls' := [_, _, _, _]) d_X7_gather_15 rfl (by rw [ic_1]) rfl ?_
    refine V_goto (tgt := 2) d_X7_gather_18 (by decide) ?_
    refine V_less (ls' := [some _, some _, some _, none]) ⟨rfl, rfl, rfl, trivial⟩ ?_
    cases hf
    exact hK.1 _ rfl _
theorem s_X7_gather_j53_25 {G : Gl} (hG : G.1.stackTraces = false) {C : Cx} {n : Nat} {μ : Mem} {a1 : Nat} {l2 : Int32} {l3 : Int32} (ha1 : a1 ∈ landL) {y : ((Int32 × Int32 × Mem) ⊕ (Int32 × Mem))} (hf : f_X7_gather_j53_25 μ a1 l2 l3 = some y) (hK : (∀ z', y = .inl z' → ∀ n, V G C F_X7_gather 25 [some (.ref (G.2.1 + 256)), some (.ref (G.2.1 + a1)), some (.int z'.1), some (.int z'.2.1)] [] (pic G z'.2.2) n 0 0) ∧ (∀ x', y = .inr x' → ∀ n, V G C F_X7_gather 59 [none, none, some (.int x'.1), none] [] (pic G x'.2) n 0 0)) : V G C F_X7_gather 53 [some (.ref (G.2.1 + 256)), some (.ref (G.2.1 + a1)), some (.int l2), some (.int l3)] [] (pic G μ) n 0 0 := by
  unfold f_X7_gather_j53_25 at hf
  refine V_iinc (v := (l3 + 1)) (ls' := [_, _, _, _]) d_X7_gather_53 rfl (by rw [ic_1]) rfl ?_
  refine V_goto (tgt := 25) d_X7_gather_56 (by decide) ?_
  refine V_less (ls' := [some _, some _, some _, some _]) ⟨rfl, rfl, rfl, rfl, trivial⟩ ?_
  cases hf
  exact hK.1 _ rfl _
theorem s_X7_gather_b25 {G : Gl} (hG : G.1.stackTraces = false) {C : Cx} {n : Nat} {μ : Mem} {a1 : Nat} {l2 : Int32} {l3 : Int32} (ha1 : a1 ∈ landL) {y : ((Int32 × Int32 × Mem) ⊕ (Int32 × Mem))} (hf : f_X7_gather_b25 μ a1 l2 l3 = some y) (hK : (∀ z', y = .inl z' → ∀ n, V G C F_X7_gather 25 [some (.ref (G.2.1 + 256)), some (.ref (G.2.1 + a1)), some (.int z'.1), some (.int z'.2.1)] [] (pic G z'.2.2) n 0 0) ∧ (∀ x', y = .inr x' → ∀ n, V G C F_X7_gather 59 [none, none, some (.int x'.1), none] [] (pic G x'.2) n 0 0)) : V G C F_X7_gather 25 [some (.ref (G.2.1 + 256)), some (.ref (G.2.1 + a1)), some (.int l2), some (.int l3)] [] (pic G μ) n 0 0 := by
  unfold f_X7_gather_b25 at hf
  refine V_iload_n d_X7_gather_25 rfl rfl ?_
  refine V_iconst (v := 2) d_X7_gather_26 ic_2 ?_
  refine V_aload_n d_X7_gather_27 rfl rfl ?_
  refine B_get (kLand _ ha1) fl_RX7_58 d_X7_gather_28 g_2_0 ?_
  refine V_imul d_X7_gather_31 ?_
  refine V_icmp_ge (tgt := 59) d_X7_gather_32 (by decide) (fun c32 => ?_) (fun c32 => ?_)
  · replace hf := iteT c32 hf
    refine V_less (ls' := [none, none, some _, none]) ⟨rfl, trivial⟩ ?_
    cases hf
    exact hK.2 _ rfl _
  · replace hf := iteF c32 hf
    refine V_aload_n d_X7_gather_35 rfl rfl ?_
    refine V_iload_n d_X7_gather_36 rfl rfl ?_
    obtain ⟨t1, ht1, hf⟩ := ob hf
    refine B_callV1 (s_X2_isPledged hG ha1 ht1) (kLand _ ha1) clX2 m_X2_isPledged kv_RX7_61 d_X7_gather_37 rfl (Nat.le_of_ble_eq_true rfl) ⟨rfl, rfl, Nat.le_of_ble_eq_true rfl, Nat.le_of_ble_eq_true rfl, Nat.le_of_ble_eq_true rfl⟩ (fun n => ?_)
    refine V_if_eq (tgt := 53) d_X7_gather_40 (by decide) (fun c40 => ?_) (fun c40 => ?_)
    · replace hf := iteF (b2i_nt (b2i_eq0 c40)) hf
      refine V_less (ls' := [some _, some _, some _, some _]) ⟨rfl, rfl, rfl, rfl, trivial⟩ ?_
      exact s_X7_gather_j53_25 hG ha1 hf hK
    · replace hf := iteT (b2i_ne0 c40) hf
      refine V_aload_n d_X7_gather_43 rfl rfl ?_
      refine B_get k_256 fl_RX7_9 d_X7_gather_44 g_7_0 ?_
      refine V_iload_n d_X7_gather_47 rfl rfl ?_
      refine V_iload_n d_X7_gather_48 rfl rfl ?_
      obtain ⟨μ2, hμ2, hf⟩ := ob hf
      refine B_iast k_257 hμ2 d_X7_gather_49 ?_
      refine V_iinc (v := (l2 + 1)) (ls' := [_, _, _, _]) d_X7_gather_50 rfl (by rw [ic_1]) rfl ?_
      refine V_less (ls' := [some _, some _, some _, some _]) ⟨rfl, rfl, rfl, rfl, trivial⟩ ?_
      exact s_X7_gather_j53_25 hG ha1 hf hK
theorem s_X7_gather_j59 {G : Gl} (hG : G.1.stackTraces = false) {C : Cx} {n : Nat} {μ : Mem} {a1 : Nat} {l2 : Int32} (ha1 : a1 ∈ landL) {r : (Int32 × Mem)} (hf : f_X7_gather_j59 μ a1 l2 = some r) (hK : FinR G C F_X7_gather (some .int) (some (.int r.1)) r.2) : V G C F_X7_gather 59 [none, none, some (.int l2), none] [] (pic G μ) n 0 0 := by
  unfold f_X7_gather_j59 at hf
  refine V_iload_n d_X7_gather_59 rfl rfl ?_
  cases hf
  exact R_i hK d_X7_gather_60 (Nat.le_of_ble_eq_true rfl) (Nat.le_of_ble_eq_true rfl)
theorem s_X7_gather_l25 {G : Gl} (hG : G.1.stackTraces = false) {C : Cx} {n : Nat} {μ : Mem} {a1 : Nat} {l2 : Int32} {l3 : Int32} (ha1 : a1 ∈ landL) {r : (Int32 × Mem)} (hf : f_X7_gather_l25 μ a1 l2 l3 = some r) (hK : FinR G C F_X7_gather (some .int) (some (.int r.1)) r.2) : V G C F_X7_gather 25 [some (.ref (G.2.1 + 256)), some (.ref (G.2.1 + a1)), some (.int l2), some (.int l3)] [] (pic G μ) n 0 0 := by
  unfold f_X7_gather_l25 at hf
  obtain ⟨t, hl, hf⟩ := ob hf
  refine loopV (P := fun z => ∀ n, V G C F_X7_gather 25 [some (.ref (G.2.1 + 256)), some (.ref (G.2.1 + a1)), some (.int z.1), some (.int z.2.1)] [] (pic G z.2.2) n 0 0) (t := t) ?_ _ _ hl n
  intro z y' hy hI hT n
  refine s_X7_gather_b25 hG ha1 hy ⟨hI, fun x9 ex => ?_⟩
  have ex2 := hT x9 ex
  subst ex2
  intro n
  exact s_X7_gather_j59 hG ha1 hf hK
theorem s_X7_gather_j21 {G : Gl} (hG : G.1.stackTraces = false) {C : Cx} {n : Nat} {μ : Mem} {a1 : Nat} (ha1 : a1 ∈ landL) {r : (Int32 × Mem)} (hf : f_X7_gather_j21 μ a1 = some r) (hK : FinR G C F_X7_gather (some .int) (some (.int r.1)) r.2) : V G C F_X7_gather 21 [some (.ref (G.2.1 + 256)), some (.ref (G.2.1 + a1)), none, none] [] (pic G μ) n 0 0 := by
  unfold f_X7_gather_j21 at hf
  refine V_iconst (v := 0) d_X7_gather_21 ic_0 ?_
  refine V_istore_n (ls' := [_, _, _, _]) d_X7_gather_22 rfl rfl rfl ?_
  refine V_iconst (v := 0) d_X7_gather_23 ic_0 ?_
  refine V_istore_n (ls' := [_, _, _, _]) d_X7_gather_24 rfl rfl rfl ?_
  refine V_less (ls' := [some _, some _, some _, some _]) ⟨rfl, rfl, rfl, rfl, trivial⟩ ?_
  exact s_X7_gather_l25 hG ha1 hf hK
theorem s_X7_gather_l2 {G : Gl} (hG : G.1.stackTraces = false) {C : Cx} {n : Nat} {μ : Mem} {a1 : Nat} {l2 : Int32} (ha1 : a1 ∈ landL) {r : (Int32 × Mem)} (hf : f_X7_gather_l2 μ a1 l2 = some r) (hK : FinR G C F_X7_gather (some .int) (some (.int r.1)) r.2) : V G C F_X7_gather 2 [some (.ref (G.2.1 + 256)), some (.ref (G.2.1 + a1)), some (.int l2), none] [] (pic G μ) n 0 0 := by
  unfold f_X7_gather_l2 at hf
  obtain ⟨t, hl, hf⟩ := ob hf
  refine loopV (P := fun z => ∀ n, V G C F_X7_gather 2 [some (.ref (G.2.1 + 256)), some (.ref (G.2.1 + a1)), some (.int z.1), none] [] (pic G z.2) n 0 0) (t := t) ?_ _ _ hl n
  intro z y' hy hI hT n
  refine s_X7_gather_b2 hG ha1 hy ⟨hI, fun x9 ex => ?_⟩
  have ex2 := hT x9 ex
  subst ex2
  intro n
  exact s_X7_gather_j21 hG ha1 hf hK
theorem s_X7_gather_e {G : Gl} (hG : G.1.stackTraces = false) {C : Cx} {n : Nat} {μ : Mem} {a1 : Nat} (ha1 : a1 ∈ landL) {r : (Int32 × Mem)} (hf : f_X7_gather μ a1 = some r) (hK : FinR G C F_X7_gather (some .int) (some (.int r.1)) r.2) : V G C F_X7_gather 0 [some (.ref (G.2.1 + 256)), some (.ref (G.2.1 + a1)), none, none] [] (pic G μ) n 0 0 := by
  unfold f_X7_gather at hf
  refine V_iconst (v := 0) d_X7_gather_0 ic_0 ?_
  refine V_istore_n (ls' := [_, _, _, _]) d_X7_gather_1 rfl rfl rfl ?_
  refine V_less (ls' := [some _, some _, some _, none]) ⟨rfl, rfl, rfl, trivial⟩ ?_
  exact s_X7_gather_l2 hG ha1 hf hK
theorem s_X7_gather {G : Gl} (hG : G.1.stackTraces = false) {μ : Mem} {a1 : Nat} (ha1 : a1 ∈ landL) {r : (Int32 × Mem)} (hf : f_X7_gather μ a1 = some r) : Rt G yX7_gather F_X7_gather (some .int) [.ref (G.2.1 + 256), .ref (G.2.1 + a1)] μ (some (.int r.1)) r.2 := fun n => Sd.of hG ⟨by decide +kernel, rfl, rfl⟩ rfl (Nat.le_of_ble_eq_true rfl) rfl (fun C hK => s_X7_gather_e hG ha1 hf hK)
theorem d_J6_numberOfTrailingZeros_0f7a4_0 : decode F_J6_numberOfTrailingZeros_0f7a4.2.1 0 = .ok (.iload_n 0, 1) := by decide +kernel
theorem d_J6_numberOfTrailingZeros_0f7a4_1 : decode F_J6_numberOfTrailingZeros_0f7a4.2.1 1 = .ok (.iconst (-1), 1) := by decide +kernel
theorem d_J6_numberOfTrailingZeros_0f7a4_2 : decode F_J6_numberOfTrailingZeros_0f7a4.2.1 2 = .ok (.ixor, 1) := by decide +kernel
theorem d_J6_numberOfTrailingZeros_0f7a4_3 : decode F_J6_numberOfTrailingZeros_0f7a4.2.1 3 = .ok (.iload_n 0, 1) := by decide +kernel
theorem d_J6_numberOfTrailingZeros_0f7a4_4 : decode F_J6_numberOfTrailingZeros_0f7a4.2.1 4 = .ok (.iconst 1, 1) := by decide +kernel
theorem d_J6_numberOfTrailingZeros_0f7a4_5 : decode F_J6_numberOfTrailingZeros_0f7a4.2.1 5 = .ok (.isub, 1) := by decide +kernel
theorem d_J6_numberOfTrailingZeros_0f7a4_6 : decode F_J6_numberOfTrailingZeros_0f7a4.2.1 6 = .ok (.iand, 1) := by decide +kernel
theorem d_J6_numberOfTrailingZeros_0f7a4_7 : decode F_J6_numberOfTrailingZeros_0f7a4.2.1 7 = .ok (.istore_n 0, 1) := by decide +kernel
theorem d_J6_numberOfTrailingZeros_0f7a4_8 : decode F_J6_numberOfTrailingZeros_0f7a4.2.1 8 = .ok (.iload_n 0, 1) := by decide +kernel
theorem d_J6_numberOfTrailingZeros_0f7a4_9 : decode F_J6_numberOfTrailingZeros_0f7a4.2.1 9 = .ok (.ifCond .gt 8, 3) := by decide +kernel
theorem d_J6_numberOfTrailingZeros_0f7a4_12 : decode F_J6_numberOfTrailingZeros_0f7a4.2.1 12 = .ok (.iload_n 0, 1) := by decide +kernel
theorem d_J6_numberOfTrailingZeros_0f7a4_13 : decode F_J6_numberOfTrailingZeros_0f7a4.2.1 13 = .ok (.bipush 32, 2) := by decide +kernel
theorem d_J6_numberOfTrailingZeros_0f7a4_15 : decode F_J6_numberOfTrailingZeros_0f7a4.2.1 15 = .ok (.iand, 1) := by decide +kernel
theorem d_J6_numberOfTrailingZeros_0f7a4_16 : decode F_J6_numberOfTrailingZeros_0f7a4.2.1 16 = .ok (.ireturn, 1) := by decide +kernel
theorem d_J6_numberOfTrailingZeros_0f7a4_17 : decode F_J6_numberOfTrailingZeros_0f7a4.2.1 17 = .ok (.iconst 1, 1) := by decide +kernel
theorem d_J6_numberOfTrailingZeros_0f7a4_18 : decode F_J6_numberOfTrailingZeros_0f7a4.2.1 18 = .ok (.istore_n 1, 1) := by decide +kernel
theorem d_J6_numberOfTrailingZeros_0f7a4_19 : decode F_J6_numberOfTrailingZeros_0f7a4.2.1 19 = .ok (.iload_n 0, 1) := by decide +kernel
theorem d_J6_numberOfTrailingZeros_0f7a4_20 : decode F_J6_numberOfTrailingZeros_0f7a4.2.1 20 = .ok (.ldc_w 264, 3) := by decide +kernel
theorem d_J6_numberOfTrailingZeros_0f7a4_23 : decode F_J6_numberOfTrailingZeros_0f7a4.2.1 23 = .ok (.if_icmp .le 11, 3) := by decide +kernel
theorem d_J6_numberOfTrailingZeros_0f7a4_26 : decode F_J6_numberOfTrailingZeros_0f7a4.2.1 26 = .ok (.iinc 1 16, 3) := by decide +kernel
theorem d_J6_numberOfTrailingZeros_0f7a4_29 : decode F_J6_numberOfTrailingZeros_0f7a4.2.1 29 = .ok (.iload_n 0, 1) := by decide +kernel
theorem d_J6_numberOfTrailingZeros_0f7a4_30 : decode F_J6_numberOfTrailingZeros_0f7a4.2.1 30 = .ok (.bipush 16, 2) := by decide +kernel
theorem d_J6_numberOfTrailingZeros_0f7a4_32 : decode F_J6_numberOfTrailingZeros_0f7a4.2.1 32 = .ok (.iushr, 1) := by decide +kernel
theorem d_J6_numberOfTrailingZeros_0f7a4_33 : decode F_J6_numberOfTrailingZeros_0f7a4.2.1 33 = .ok (.istore_n 0, 1) := by decide +kernel
theorem d_J6_numberOfTrailingZeros_0f7a4_34 : decode F_J6_numberOfTrailingZeros_0f7a4.2.1 34 = .ok (.iload_n 0, 1) := by decide +kernel
theorem d_J6_numberOfTrailingZeros_0f7a4_35 : decode F_J6_numberOfTrailingZeros_0f7a4.2.1 35 = .ok (.sipush 256, 3) := by decide +kernel
theorem d_J6_numberOfTrailingZeros_0f7a4_38 : decode F_J6_numberOfTrailingZeros_0f7a4.2.1 38 = .ok (.if_icmp .le 11, 3) := by decide +kernel
theorem d_J6_numberOfTrailingZeros_0f7a4_41 : decode F_J6_numberOfTrailingZeros_0f7a4.2.1 41 = .ok (.iinc 1 8, 3) := by decide +kernel
theorem d_J6_numberOfTrailingZeros_0f7a4_44 : decode F_J6_numberOfTrailingZeros_0f7a4.2.1 44 = .ok (.iload_n 0, 1) := by decide +kernel
theorem d_J6_numberOfTrailingZeros_0f7a4_45 : decode F_J6_numberOfTrailingZeros_0f7a4.2.1 45 = .ok (.bipush 8, 2) := by decide +kernel
theorem d_J6_numberOfTrailingZeros_0f7a4_47 : decode F_J6_numberOfTrailingZeros_0f7a4.2.1 47 = .ok (.iushr, 1) := by decide +kernel
theorem d_J6_numberOfTrailingZeros_0f7a4_48 : decode F_J6_numberOfTrailingZeros_0f7a4.2.1 48 = .ok (.istore_n 0, 1) := by decide +kernel
theorem d_J6_numberOfTrailingZeros_0f7a4_49 : decode F_J6_numberOfTrailingZeros_0f7a4.2.1 49 = .ok (.iload_n 0, 1) := by decide +kernel
theorem d_J6_numberOfTrailingZeros_0f7a4_50 : decode F_J6_numberOfTrailingZeros_0f7a4.2.1 50 = .ok (.bipush 16, 2) := by decide +kernel
theorem d_J6_numberOfTrailingZeros_0f7a4_52 : decode F_J6_numberOfTrailingZeros_0f7a4.2.1 52 = .ok (.if_icmp .le 10, 3) := by decide +kernel
theorem d_J6_numberOfTrailingZeros_0f7a4_55 : decode F_J6_numberOfTrailingZeros_0f7a4.2.1 55 = .ok (.iinc 1 4, 3) := by decide +kernel
theorem d_J6_numberOfTrailingZeros_0f7a4_58 : decode F_J6_numberOfTrailingZeros_0f7a4.2.1 58 = .ok (.iload_n 0, 1) := by decide +kernel
theorem d_J6_numberOfTrailingZeros_0f7a4_59 : decode F_J6_numberOfTrailingZeros_0f7a4.2.1 59 = .ok (.iconst 4, 1) := by decide +kernel
theorem d_J6_numberOfTrailingZeros_0f7a4_60 : decode F_J6_numberOfTrailingZeros_0f7a4.2.1 60 = .ok (.iushr, 1) := by decide +kernel
theorem d_J6_numberOfTrailingZeros_0f7a4_61 : decode F_J6_numberOfTrailingZeros_0f7a4.2.1 61 = .ok (.istore_n 0, 1) := by decide +kernel
theorem d_J6_numberOfTrailingZeros_0f7a4_62 : decode F_J6_numberOfTrailingZeros_0f7a4.2.1 62 = .ok (.iload_n 0, 1) := by decide +kernel
theorem d_J6_numberOfTrailingZeros_0f7a4_63 : decode F_J6_numberOfTrailingZeros_0f7a4.2.1 63 = .ok (.iconst 4, 1) := by decide +kernel
theorem d_J6_numberOfTrailingZeros_0f7a4_64 : decode F_J6_numberOfTrailingZeros_0f7a4.2.1 64 = .ok (.if_icmp .le 10, 3) := by decide +kernel
theorem d_J6_numberOfTrailingZeros_0f7a4_67 : decode F_J6_numberOfTrailingZeros_0f7a4.2.1 67 = .ok (.iinc 1 2, 3) := by decide +kernel
theorem d_J6_numberOfTrailingZeros_0f7a4_70 : decode F_J6_numberOfTrailingZeros_0f7a4.2.1 70 = .ok (.iload_n 0, 1) := by decide +kernel
theorem d_J6_numberOfTrailingZeros_0f7a4_71 : decode F_J6_numberOfTrailingZeros_0f7a4.2.1 71 = .ok (.iconst 2, 1) := by decide +kernel
theorem d_J6_numberOfTrailingZeros_0f7a4_72 : decode F_J6_numberOfTrailingZeros_0f7a4.2.1 72 = .ok (.iushr, 1) := by decide +kernel
theorem d_J6_numberOfTrailingZeros_0f7a4_73 : decode F_J6_numberOfTrailingZeros_0f7a4.2.1 73 = .ok (.istore_n 0, 1) := by decide +kernel
theorem d_J6_numberOfTrailingZeros_0f7a4_74 : decode F_J6_numberOfTrailingZeros_0f7a4.2.1 74 = .ok (.iload_n 1, 1) := by decide +kernel
theorem d_J6_numberOfTrailingZeros_0f7a4_75 : decode F_J6_numberOfTrailingZeros_0f7a4.2.1 75 = .ok (.iload_n 0, 1) := by decide +kernel
theorem d_J6_numberOfTrailingZeros_0f7a4_76 : decode F_J6_numberOfTrailingZeros_0f7a4.2.1 76 = .ok (.iconst 1, 1) := by decide +kernel
theorem d_J6_numberOfTrailingZeros_0f7a4_77 : decode F_J6_numberOfTrailingZeros_0f7a4.2.1 77 = .ok (.iushr, 1) := by decide +kernel
theorem d_J6_numberOfTrailingZeros_0f7a4_78 : decode F_J6_numberOfTrailingZeros_0f7a4.2.1 78 = .ok (.iadd, 1) := by decide +kernel
theorem d_J6_numberOfTrailingZeros_0f7a4_79 : decode F_J6_numberOfTrailingZeros_0f7a4.2.1 79 = .ok (.ireturn, 1) := by decide +kernel
def f_J6_numberOfTrailingZeros_0f7a4_j74 (μ : Mem) (l0 : Int32) (l1 : Int32) : Option Int32 :=
some (l1 + ((Int32.toUInt32 l0 >>> (Int32.toUInt32 1 &&& Int32.toUInt32 31)).toInt32))
def f_J6_numberOfTrailingZeros_0f7a4_j62 (μ : Mem) (l0 : Int32) (l1 : Int32) : Option Int32 :=
if l0 ≤ 4 then
f_J6_numberOfTrailingZeros_0f7a4_j74 μ l0 l1
else
f_J6_numberOfTrailingZeros_0f7a4_j74 μ ((Int32.toUInt32 l0 >>> (Int32.toUInt32 2 &&& Int32.toUInt32 31)).toInt32) (l1 + 2)
def f_J6_numberOfTrailingZeros_0f7a4_j49 (μ : Mem) (l0 : Int32) (l1 : Int32) : Option Int32 :=
if l0 ≤ 16 then
f_J6_numberOfTrailingZeros_0f7a4_j62 μ l0 l1
else
f_J6_numberOfTrailingZeros_0f7a4_j62 μ ((Int32.toUInt32 l0 >>> (Int32.toUInt32 4 &&& Int32.toUInt32 31)).toInt32) (l1 + 4)
def f_J6_numberOfTrailingZeros_0f7a4_j34 (μ : Mem) (l0 : Int32) (l1 : Int32) : Option Int32 :=
if l0 ≤ 256 then
f_J6_numberOfTrailingZeros_0f7a4_j49 μ l0 l1
else
f_J6_numberOfTrailingZeros_0f7a4_j49 μ ((Int32.toUInt32 l0 >>> (Int32.toUInt32 8 &&& Int32.toUInt32 31)).toInt32) (l1 + 8)
def f_J6_numberOfTrailingZeros_0f7a4 (μ : Mem) (p0 : Int32) : Option Int32 :=
if 0 < ((p0 ^^^ (-1)) &&& (p0 - 1)) then
if ((p0 ^^^ (-1)) &&& (p0 - 1)) ≤ 65536 then
f_J6_numberOfTrailingZeros_0f7a4_j34 μ ((p0 ^^^ (-1)) &&& (p0 - 1)) 1
else
f_J6_numberOfTrailingZeros_0f7a4_j34 μ ((Int32.toUInt32 ((p0 ^^^ (-1)) &&& (p0 - 1)) >>> (Int32.toUInt32 16 &&& Int32.toUInt32 31)).toInt32) (1 + 16)
else
some (((p0 ^^^ (-1)) &&& (p0 - 1)) &&& 32)
theorem s_J6_numberOfTrailingZeros_0f7a4_j74 {G : Gl} (hG : G.1.stackTraces = false) {C : Cx} {n : Nat} {μ : Mem} {l0 : Int32} {l1 : Int32} {r : Int32} (hf : f_J6_numberOfTrailingZeros_0f7a4_j74 μ l0 l1 = some r) (hK : FinR G C F_J6_numberOfTrailingZeros_0f7a4 (some .int) (some (.int r)) μ) : V G C F_J6_numberOfTrailingZeros_0f7a4 74 [some (.int l0), some (.int l1)] [] (pic G μ) n 0 0 := by
  unfold f_J6_numberOfTrailingZeros_0f7a4_j74 at hf
  refine V_iload_n d_J6_numberOfTrailingZeros_0f7a4_74 rfl rfl ?_
  refine V_iload_n d_J6_numberOfTrailingZeros_0f7a4_75 rfl rfl ?_
  refine V_iconst (v := 1) d_J6_numberOfTrailingZeros_0f7a4_76 ic_1 ?_
  refine V_iushr d_J6_numberOfTrailingZeros_0f7a4_77 ?_
  refine V_iadd d_J6_numberOfTrailingZeros_0f7a4_78 ?_
  cases hf
  exact R_i hK d_J6_numberOfTrailingZeros_0f7a4_79 (Nat.le_of_ble_eq_true rfl) (Nat.le_of_ble_eq_true rfl)
theorem s_J6_numberOfTrailingZeros_0f7a4_j62 {G : Gl} (hG : G.1.stackTraces = false) {C : Cx} {n : Nat} {μ : Mem} {l0 : Int32} {l1 : Int32} {r : Int32} (hf : f_J6_numberOfTrailingZeros_0f7a4_j62 μ l0 l1 = some r) (hK : FinR G C F_J6_numberOfTrailingZeros_0f7a4 (some .int) (some (.int r)) μ) : V G C F_J6_numberOfTrailingZeros_0f7a4 62 [some (.int l0), some (.int l1)] [] (pic G μ) n 0 0 := by
  unfold f_J6_numberOfTrailingZeros_0f7a4_j62 at hf
  refine V_iload_n d_J6_numberOfTrailingZeros_0f7a4_62 rfl rfl ?_
  refine V_iconst (v := 4) d_J6_numberOfTrailingZeros_0f7a4_63 ic_4 ?_
  refine V_icmp_le (tgt := 74) d_J6_numberOfTrailingZeros_0f7a4_64 (by decide) (fun c64 => ?_) (fun c64 => ?_)
  · replace hf := iteT c64 hf
    refine V_less (ls' := [some _, some _]) ⟨rfl, rfl, trivial⟩ ?_
    exact s_J6_numberOfTrailingZeros_0f7a4_j74 hG hf hK
  · replace hf := iteF c64 hf
    refine V_iinc (v := (l1 + 2)) (ls' := [_, _]) d_J6_numberOfTrailingZeros_0f7a4_67 rfl (by rw [ic_2]) rfl ?_
    refine V_iload_n d_J6_numberOfTrailingZeros_0f7a4_70 rfl rfl ?_
    refine V_iconst (v := 2) d_J6_numberOfTrailingZeros_0f7a4_71 ic_2 ?_
    refine V_iushr d_J6_numberOfTrailingZeros_0f7a4_72 ?_
    refine V_istore_n (ls' := [_, _]) d_J6_numberOfTrailingZeros_0f7a4_73 rfl rfl rfl ?_
    refine V_less (ls' := [some _, some _]) ⟨rfl, rfl, trivial⟩ ?_
    exact s_J6_numberOfTrailingZeros_0f7a4_j74 hG hf hK
theorem s_J6_numberOfTrailingZeros_0f7a4_j49 {G : Gl} (hG : G.1.stackTraces = false) {C : Cx} {n : Nat} {μ : Mem} {l0 : Int32} {l1 : Int32} {r : Int32} (hf : f_J6_numberOfTrailingZeros_0f7a4_j49 μ l0 l1 = some r) (hK : FinR G C F_J6_numberOfTrailingZeros_0f7a4 (some .int) (some (.int r)) μ) : V G C F_J6_numberOfTrailingZeros_0f7a4 49 [some (.int l0), some (.int l1)] [] (pic G μ) n 0 0 := by
  unfold f_J6_numberOfTrailingZeros_0f7a4_j49 at hf
  refine V_iload_n d_J6_numberOfTrailingZeros_0f7a4_49 rfl rfl ?_
  refine V_bipush (v := 16) d_J6_numberOfTrailingZeros_0f7a4_50 bp_16 ?_
  refine V_icmp_le (tgt := 62) d_J6_numberOfTrailingZeros_0f7a4_52 (by decide) (fun c52 => ?_) (fun c52 => ?_)
  · replace hf := iteT c52 hf
    refine V_less (ls' := [some _, some _]) ⟨rfl, rfl, trivial⟩ ?_
    exact s_J6_numberOfTrailingZeros_0f7a4_j62 hG hf hK
  · replace hf := iteF c52 hf
    refine V_iinc (v := (l1 + 4)) (ls' := [_, _]) d_J6_numberOfTrailingZeros_0f7a4_55 rfl (by rw [ic_4]) rfl ?_
    refine V_iload_n d_J6_numberOfTrailingZeros_0f7a4_58 rfl rfl ?_
    refine V_iconst (v := 4) d_J6_numberOfTrailingZeros_0f7a4_59 ic_4 ?_
    refine V_iushr d_J6_numberOfTrailingZeros_0f7a4_60 ?_
    refine V_istore_n (ls' := [_, _]) d_J6_numberOfTrailingZeros_0f7a4_61 rfl rfl rfl ?_
    refine V_less (ls' := [some _, some _]) ⟨rfl, rfl, trivial⟩ ?_
    exact s_J6_numberOfTrailingZeros_0f7a4_j62 hG hf hK
theorem s_J6_numberOfTrailingZeros_0f7a4_j34 {G : Gl} (hG : G.1.stackTraces = false) {C : Cx} {n : Nat} {μ : Mem} {l0 : Int32} {l1 : Int32} {r : Int32} (hf : f_J6_numberOfTrailingZeros_0f7a4_j34 μ l0 l1 = some r) (hK : FinR G C F_J6_numberOfTrailingZeros_0f7a4 (some .int) (some (.int r)) μ) : V G C F_J6_numberOfTrailingZeros_0f7a4 34 [some (.int l0), some (.int l1)] [] (pic G μ) n 0 0 := by
  unfold f_J6_numberOfTrailingZeros_0f7a4_j34 at hf
  refine V_iload_n d_J6_numberOfTrailingZeros_0f7a4_34 rfl rfl ?_
  refine V_sipush (v := 256) d_J6_numberOfTrailingZeros_0f7a4_35 sp_256 ?_
  refine V_icmp_le (tgt := 49) d_J6_numberOfTrailingZeros_0f7a4_38 (by decide) (fun c38 => ?_) (fun c38 => ?_)
  · replace hf := iteT c38 hf
    refine V_less (ls' := [some _, some _]) ⟨rfl, rfl, trivial⟩ ?_
    exact s_J6_numberOfTrailingZeros_0f7a4_j49 hG hf hK
  · replace hf := iteF c38 hf
    refine V_iinc (v := (l1 + 8)) (ls' := [_, _]) d_J6_numberOfTrailingZeros_0f7a4_41 rfl (by rw [ic_8]) rfl ?_
    refine V_iload_n d_J6_numberOfTrailingZeros_0f7a4_44 rfl rfl ?_
    refine V_bipush (v := 8) d_J6_numberOfTrailingZeros_0f7a4_45 bp_8 ?_
    refine V_iushr d_J6_numberOfTrailingZeros_0f7a4_47 ?_
    refine V_istore_n (ls' := [_, _]) d_J6_numberOfTrailingZeros_0f7a4_48 rfl rfl rfl ?_
    refine V_less (ls' := [some _, some _]) ⟨rfl, rfl, trivial⟩ ?_
    exact s_J6_numberOfTrailingZeros_0f7a4_j49 hG hf hK
theorem s_J6_numberOfTrailingZeros_0f7a4_e {G : Gl} (hG : G.1.stackTraces = false) {C : Cx} {n : Nat} {μ : Mem} {p0 : Int32} {r : Int32} (hf : f_J6_numberOfTrailingZeros_0f7a4 μ p0 = some r) (hK : FinR G C F_J6_numberOfTrailingZeros_0f7a4 (some .int) (some (.int r)) μ) : V G C F_J6_numberOfTrailingZeros_0f7a4 0 [some (.int p0), none] [] (pic G μ) n 0 0 := by
  unfold f_J6_numberOfTrailingZeros_0f7a4 at hf
  refine V_iload_n d_J6_numberOfTrailingZeros_0f7a4_0 rfl rfl ?_
  refine V_iconst (v := (-1)) d_J6_numberOfTrailingZeros_0f7a4_1 ic_m1 ?_
  refine V_ixor d_J6_numberOfTrailingZeros_0f7a4_2 ?_
  refine V_iload_n d_J6_numberOfTrailingZeros_0f7a4_3 rfl rfl ?_
  refine V_iconst (v := 1) d_J6_numberOfTrailingZeros_0f7a4_4 ic_1 ?_
  refine V_isub d_J6_numberOfTrailingZeros_0f7a4_5 ?_
  refine V_iand d_J6_numberOfTrailingZeros_0f7a4_6 ?_
  refine V_istore_n (ls' := [_, _]) d_J6_numberOfTrailingZeros_0f7a4_7 rfl rfl rfl ?_
  refine V_iload_n d_J6_numberOfTrailingZeros_0f7a4_8 rfl rfl ?_
  refine V_if_gt (tgt := 17) d_J6_numberOfTrailingZeros_0f7a4_9 (by decide) (fun c9 => ?_) (fun c9 => ?_)
  · replace hf := iteT c9 hf
    refine V_iconst (v := 1) d_J6_numberOfTrailingZeros_0f7a4_17 ic_1 ?_
    refine V_istore_n (ls' := [_, _]) d_J6_numberOfTrailingZeros_0f7a4_18 rfl rfl rfl ?_
    refine V_iload_n d_J6_numberOfTrailingZeros_0f7a4_19 rfl rfl ?_
    refine V_ldcw (v := 65536) d_J6_numberOfTrailingZeros_0f7a4_20 w_433 ?_
    refine V_icmp_le (tgt := 34) d_J6_numberOfTrailingZeros_0f7a4_23 (by decide) (fun c23 => ?_) (fun c23 => ?_)
    · replace hf := iteT c23 hf
      refine V_less (ls' := [some _, some _]) ⟨rfl, rfl, trivial⟩ ?_
      exact s_J6_numberOfTrailingZeros_0f7a4_j34 hG hf hK
    · replace hf := iteF c23 hf
      refine V_iinc (v := (1 + 16)) (ls' := [_, _]) d_J6_numberOfTrailingZeros_0f7a4_26 rfl (by rw [ic_16]) rfl ?_
      refine V_iload_n d_J6_numberOfTrailingZeros_0f7a4_29 rfl rfl ?_
      refine V_bipush (v := 16) d_J6_numberOfTrailingZeros_0f7a4_30 bp_16 ?_
      refine V_iushr d_J6_numberOfTrailingZeros_0f7a4_32 ?_
      refine V_istore_n (ls' := [_, _]) d_J6_numberOfTrailingZeros_0f7a4_33 rfl rfl rfl ?_
      refine V_less (ls' := [some _, some _]) ⟨rfl, rfl, trivial⟩ ?_
      exact s_J6_numberOfTrailingZeros_0f7a4_j34 hG hf hK
  · replace hf := iteF c9 hf
    refine V_iload_n d_J6_numberOfTrailingZeros_0f7a4_12 rfl rfl ?_
    refine V_bipush (v := 32) d_J6_numberOfTrailingZeros_0f7a4_13 bp_32 ?_
    refine V_iand d_J6_numberOfTrailingZeros_0f7a4_15 ?_
    cases hf
    exact R_i hK d_J6_numberOfTrailingZeros_0f7a4_16 (Nat.le_of_ble_eq_true rfl) (Nat.le_of_ble_eq_true rfl)
theorem s_J6_numberOfTrailingZeros_0f7a4 {G : Gl} (hG : G.1.stackTraces = false) {μ : Mem} {p0 : Int32} {r : Int32} (hf : f_J6_numberOfTrailingZeros_0f7a4 μ p0 = some r) : Rt G yJ6_numberOfTrailingZeros_0f7a4 F_J6_numberOfTrailingZeros_0f7a4 (some .int) [.int p0] μ (some (.int r)) μ := fun n => Sd.ofJ hG ⟨by decide +kernel, rfl, rfl⟩ rfl (Nat.le_of_ble_eq_true rfl) rfl (fun C hK => s_J6_numberOfTrailingZeros_0f7a4_e hG hf hK)
theorem d_X7_isBalanced_0 : decode F_X7_isBalanced.2.1 0 = .ok (.iconst 0, 1) := by decide +kernel
theorem d_X7_isBalanced_1 : decode F_X7_isBalanced.2.1 1 = .ok (.istore_n 1, 1) := by decide +kernel
theorem d_X7_isBalanced_2 : decode F_X7_isBalanced.2.1 2 = .ok (.iload_n 1, 1) := by decide +kernel
theorem d_X7_isBalanced_3 : decode F_X7_isBalanced.2.1 3 = .ok (.bipush 6, 2) := by decide +kernel
theorem d_X7_isBalanced_5 : decode F_X7_isBalanced.2.1 5 = .ok (.if_icmp .ge 20, 3) := by decide +kernel
theorem d_X7_isBalanced_8 : decode F_X7_isBalanced.2.1 8 = .ok (.aload_n 0, 1) := by decide +kernel
theorem d_X7_isBalanced_9 : decode F_X7_isBalanced.2.1 9 = .ok (.getfield 15, 3) := by decide +kernel
theorem d_X7_isBalanced_12 : decode F_X7_isBalanced.2.1 12 = .ok (.iload_n 1, 1) := by decide +kernel
theorem d_X7_isBalanced_13 : decode F_X7_isBalanced.2.1 13 = .ok (.iaload, 1) := by decide +kernel
theorem d_X7_isBalanced_14 : decode F_X7_isBalanced.2.1 14 = .ok (.ifCond .eq 5, 3) := by decide +kernel
theorem d_X7_isBalanced_17 : decode F_X7_isBalanced.2.1 17 = .ok (.iconst 0, 1) := by decide +kernel
theorem d_X7_isBalanced_18 : decode F_X7_isBalanced.2.1 18 = .ok (.ireturn, 1) := by decide +kernel
theorem d_X7_isBalanced_19 : decode F_X7_isBalanced.2.1 19 = .ok (.iinc 1 1, 3) := by decide +kernel
theorem d_X7_isBalanced_22 : decode F_X7_isBalanced.2.1 22 = .ok (.goto (-20), 3) := by decide +kernel
theorem d_X7_isBalanced_25 : decode F_X7_isBalanced.2.1 25 = .ok (.iconst 1, 1) := by decide +kernel
theorem d_X7_isBalanced_26 : decode F_X7_isBalanced.2.1 26 = .ok (.ireturn, 1) := by decide +kernel
def f_X7_isBalanced_b2 (μ : Mem) (l1 : Int32) : Option (Int32 ⊕ (Unit ⊕ Bool)) :=
if 6 ≤ l1 then
some (.inr (.inl ()))
else
Option.bind (rd μ 258 6 l1) fun t1 =>
if t1 = 0 then
some (.inl (l1 + 1))
else
some (.inr (.inr false))
def f_X7_isBalanced_j25 (μ : Mem) : Option Bool :=
some true
def f_X7_isBalanced_l2 (μ : Mem) (l1 : Int32) : Option Bool := Option.bind (loopN 10000 (fun z : Int32 => f_X7_isBalanced_b2 μ z) l1) fun t : (Unit ⊕ Bool) => Sum.elim (fun e => f_X7_isBalanced_j25 μ) (fun x => some x) t
def f_X7_isBalanced (μ : Mem) : Option Bool :=
f_X7_isBalanced_l2 μ 0
theorem s_X7_isBalanced_b2 {G : Gl} (hG : G.1.stackTraces = false) {C : Cx} {n : Nat} {μ : Mem} {l1 : Int32} {y : (Int32 ⊕ (Unit ⊕ Bool))} (hf : f_X7_isBalanced_b2 μ l1 = some y) (hK : (∀ z', y = .inl z' → ∀ n, V G C F_X7_isBalanced 2 [some (.ref (G.2.1 + 256)), some (.int z')] [] (pic G μ) n 0 0) ∧ (∀ x', y = .inr x' → ((∀ x'', x' = .inl x'' → ∀ n, V G C F_X7_isBalanced 25 [none, none] [] (pic G μ) n 0 0) ∧ (∀ x''', x' = .inr x''' → FinR G C F_X7_isBalanced (some .boolean) (some (.int (b2i x'''))) μ)))) : V G C F_X7_isBalanced 2 [some (.ref (G.2.1 + 256)), some (.int l1)] [] (pic G μ) n 0 0 := by
  unfold f_X7_isBalanced_b2 at hf
  refine V_iload_n d_X7_isBalanced_2 rfl rfl ?_
  refine V_bipush (v := 6) d_X7_isBalanced_3 bp_6 ?_
  refine V_icmp_ge (tgt := 25) d_X7_isBalanced_5 (by decide) (fun c5 => ?_) (fun c5 => ?_)
  · replace hf := iteT c5 hf
    refine V_less (ls' := [none, none]) trivial ?_
    cases hf
    exact (hK.2 _ rfl).1 _ rfl _
  · replace hf := iteF c5 hf
    refine V_aload_n d_X7_isBalanced_8 rfl rfl ?_
    refine B_get k_256 fl_RX7_15 d_X7_isBalanced_9 g_7_1 ?_
    refine V_iload_n d_X7_isBalanced_12 rfl rfl ?_
    obtain ⟨t1, ht1, hf⟩ := ob hf
    refine B_iald k_258 ht1 d_X7_isBalanced_13 ?_
    refine V_if_eq (tgt := 19) d_X7_isBalanced_14 (by decide) (fun c14 => ?_) (fun c14 => ?_)
    · replace hf := iteT c14 hf
      refine V_iinc (v := (l1 + 1)) (ls' := [_, _]) d_X7_isBalanced_19 rfl (by rw [ic_1]) rfl ?_
      refine V_goto (tgt := 2) d_X7_isBalanced_22 (by decide) ?_
      refine V_less (ls' := [some _, some _]) ⟨rfl, rfl, trivial⟩ ?_
      cases hf
      exact hK.1 _ rfl _
    · replace hf := iteF c14 hf
      refine V_iconst (v := 0) d_X7_isBalanced_17 ic_0 ?_
      cases hf
      exact R_z ((hK.2 _ rfl).2 _ rfl) d_X7_isBalanced_18 (Nat.le_of_ble_eq_true rfl) (Nat.le_of_ble_eq_true rfl)
theorem s_X7_isBalanced_j25 {G : Gl} (hG : G.1.stackTraces = false) {C : Cx} {n : Nat} {μ : Mem}  {r : Bool} (hf : f_X7_isBalanced_j25 μ = some r) (hK : FinR G C F_X7_isBalanced (some .boolean) (some (.int (b2i r))) μ) : V G C F_X7_isBalanced 25 [none, none] [] (pic G μ) n 0 0 := by
  unfold f_X7_isBalanced_j25 at hf
  refine V_iconst (v := 1) d_X7_isBalanced_25 ic_1 ?_
  cases hf
  exact R_z hK d_X7_isBalanced_26 (Nat.le_of_ble_eq_true rfl) (Nat.le_of_ble_eq_true rfl)
theorem s_X7_isBalanced_l2 {G : Gl} (hG : G.1.stackTraces = false) {C : Cx} {n : Nat} {μ : Mem} {l1 : Int32} {r : Bool} (hf : f_X7_isBalanced_l2 μ l1 = some r) (hK : FinR G C F_X7_isBalanced (some .boolean) (some (.int (b2i r))) μ) : V G C F_X7_isBalanced 2 [some (.ref (G.2.1 + 256)), some (.int l1)] [] (pic G μ) n 0 0 := by
  unfold f_X7_isBalanced_l2 at hf
  obtain ⟨t, hl, hf⟩ := ob hf
  refine loopV (P := fun z => ∀ n, V G C F_X7_isBalanced 2 [some (.ref (G.2.1 + 256)), some (.int z)] [] (pic G μ) n 0 0) (t := t) ?_ _ _ hl n
  intro z y' hy hI hT n
  refine s_X7_isBalanced_b2 hG hy ⟨hI, fun x9 ex => ?_⟩
  have ex2 := hT x9 ex
  subst ex2
  refine ⟨fun e he => ?_, fun x2 hx => ?_⟩
  · subst he
    intro n
    exact s_X7_isBalanced_j25 hG hf hK
  · subst hx
    cases hf
    exact hK
theorem s_X7_isBalanced_e {G : Gl} (hG : G.1.stackTraces = false) {C : Cx} {n : Nat} {μ : Mem}  {r : Bool} (hf : f_X7_isBalanced μ = some r) (hK : FinR G C F_X7_isBalanced (some .boolean) (some (.int (b2i r))) μ) : V G C F_X7_isBalanced 0 [some (.ref (G.2.1 + 256)), none] [] (pic G μ) n 0 0 := by
  unfold f_X7_isBalanced at hf
  refine V_iconst (v := 0) d_X7_isBalanced_0 ic_0 ?_
  refine V_istore_n (ls' := [_, _]) d_X7_isBalanced_1 rfl rfl rfl ?_
  refine V_less (ls' := [some _, some _]) ⟨rfl, rfl, trivial⟩ ?_
  exact s_X7_isBalanced_l2 hG hf hK
theorem s_X7_isBalanced {G : Gl} (hG : G.1.stackTraces = false) {μ : Mem} {r : Bool} (hf : f_X7_isBalanced μ = some r) : Rt G yX7_isBalanced F_X7_isBalanced (some .boolean) [.ref (G.2.1 + 256)] μ (some (.int (b2i r))) μ := fun n => Sd.of hG ⟨by decide +kernel, rfl, rfl⟩ rfl (Nat.le_of_ble_eq_true rfl) rfl (fun C hK => s_X7_isBalanced_e hG hf hK)
theorem d_X7_take_0 : decode F_X7_take.2.1 0 = .ok (.aload_n 0, 1) := by decide +kernel
theorem d_X7_take_1 : decode F_X7_take.2.1 1 = .ok (.dup, 1) := by decide +kernel
theorem d_X7_take_2 : decode F_X7_take.2.1 2 = .ok (.getfield 18, 3) := by decide +kernel
theorem d_X7_take_5 : decode F_X7_take.2.1 5 = .ok (.iconst 1, 1) := by decide +kernel
theorem d_X7_take_6 : decode F_X7_take.2.1 6 = .ok (.iadd, 1) := by decide +kernel
theorem d_X7_take_7 : decode F_X7_take.2.1 7 = .ok (.putfield 18, 3) := by decide +kernel
theorem d_X7_take_10 : decode F_X7_take.2.1 10 = .ok (.iload_n 1, 1) := by decide +kernel
theorem d_X7_take_11 : decode F_X7_take.2.1 11 = .ok (.invokestatic 65, 3) := by decide +kernel
theorem d_X7_take_14 : decode F_X7_take.2.1 14 = .ok (.aload_n 0, 1) := by decide +kernel
theorem d_X7_take_15 : decode F_X7_take.2.1 15 = .ok (.getfield 22, 3) := by decide +kernel
theorem d_X7_take_18 : decode F_X7_take.2.1 18 = .ok (.invokestatic 65, 3) := by decide +kernel
theorem d_X7_take_21 : decode F_X7_take.2.1 21 = .ok (.isub, 1) := by decide +kernel
theorem d_X7_take_22 : decode F_X7_take.2.1 22 = .ok (.istore_n 2, 1) := by decide +kernel
theorem d_X7_take_23 : decode F_X7_take.2.1 23 = .ok (.iload_n 2, 1) := by decide +kernel
theorem d_X7_take_24 : decode F_X7_take.2.1 24 = .ok (.ifCond .gt 15, 3) := by decide +kernel
theorem d_X7_take_27 : decode F_X7_take.2.1 27 = .ok (.iload_n 2, 1) := by decide +kernel
theorem d_X7_take_28 : decode F_X7_take.2.1 28 = .ok (.ifCond .ne 16, 3) := by decide +kernel
theorem d_X7_take_31 : decode F_X7_take.2.1 31 = .ok (.iload_n 1, 1) := by decide +kernel
theorem d_X7_take_32 : decode F_X7_take.2.1 32 = .ok (.aload_n 0, 1) := by decide +kernel
theorem d_X7_take_33 : decode F_X7_take.2.1 33 = .ok (.getfield 22, 3) := by decide +kernel
theorem d_X7_take_36 : decode F_X7_take.2.1 36 = .ok (.if_icmp .ge 8, 3) := by decide +kernel
theorem d_X7_take_39 : decode F_X7_take.2.1 39 = .ok (.aload_n 0, 1) := by decide +kernel
theorem d_X7_take_40 : decode F_X7_take.2.1 40 = .ok (.iload_n 1, 1) := by decide +kernel
theorem d_X7_take_41 : decode F_X7_take.2.1 41 = .ok (.putfield 22, 3) := by decide +kernel
theorem d_X7_take_44 : decode F_X7_take.2.1 44 = .ok (.return_, 1) := by decide +kernel
def f_X7_take_j44 (μ : Mem) : Option Mem :=
some μ
def f_X7_take_j39 (μ : Mem) (l1 : Int32) : Option Mem :=
f_X7_take_j44 (mset μ 256 3 l1)
def f_X7_take (μ : Mem) (p1 : Int32) : Option Mem :=
Option.bind (f_J6_bitCount_0f7a4 (mset μ 256 2 ((μ 256 2) + 1)) p1) fun t1 =>
Option.bind (f_J6_bitCount_0f7a4 (mset μ 256 2 ((μ 256 2) + 1)) ((mset μ 256 2 ((μ 256 2) + 1)) 256 3)) fun t2 =>
if 0 < (t1 - t2) then
f_X7_take_j39 (mset μ 256 2 ((μ 256 2) + 1)) p1
else
if (t1 - t2) = 0 then
if ((mset μ 256 2 ((μ 256 2) + 1)) 256 3) ≤ p1 then
f_X7_take_j44 (mset μ 256 2 ((μ 256 2) + 1))
else
f_X7_take_j39 (mset μ 256 2 ((μ 256 2) + 1)) p1
else
f_X7_take_j44 (mset μ 256 2 ((μ 256 2) + 1))
theorem s_X7_take_j44 {G : Gl} (hG : G.1.stackTraces = false) {C : Cx} {n : Nat} {μ : Mem}  {r : Mem} (hf : f_X7_take_j44 μ = some r) (hK : FinR G C F_X7_take none none r) : V G C F_X7_take 44 [none, none, none] [] (pic G μ) n 0 0 := by
  unfold f_X7_take_j44 at hf
  cases hf
  exact R_v hK d_X7_take_44 (Nat.le_of_ble_eq_true rfl) (Nat.le_of_ble_eq_true rfl)
theorem s_X7_take_j39 {G : Gl} (hG : G.1.stackTraces = false) {C : Cx} {n : Nat} {μ : Mem} {l1 : Int32} {r : Mem} (hf : f_X7_take_j39 μ l1 = some r) (hK : FinR G C F_X7_take none none r) : V G C F_X7_take 39 [some (.ref (G.2.1 + 256)), some (.int l1), none] [] (pic G μ) n 0 0 := by
  unfold f_X7_take_j39 at hf
  refine V_aload_n d_X7_take_39 rfl rfl ?_
  refine V_iload_n d_X7_take_40 rfl rfl ?_
  refine B_putI k_256 fl_RX7_22 pt_7_3 (Nat.le_of_ble_eq_true rfl) p_7_3 d_X7_take_41 ?_
  refine V_less (ls' := [none, none, none]) trivial ?_
  exact s_X7_take_j44 hG hf hK
theorem s_X7_take_e {G : Gl} (hG : G.1.stackTraces = false) {C : Cx} {n : Nat} {μ : Mem} {p1 : Int32} {r : Mem} (hf : f_X7_take μ p1 = some r) (hK : FinR G C F_X7_take none none r) : V G C F_X7_take 0 [some (.ref (G.2.1 + 256)), some (.int p1), none] [] (pic G μ) n 0 0 := by
  unfold f_X7_take at hf
  refine V_aload_n d_X7_take_0 rfl rfl ?_
  refine V_dup d_X7_take_1 rfl ?_
  refine B_get k_256 fl_RX7_18 d_X7_take_2 g_7_2 ?_
  refine V_iconst (v := 1) d_X7_take_5 ic_1 ?_
  refine V_iadd d_X7_take_6 ?_
  refine B_putI k_256 fl_RX7_18 pt_7_2 (Nat.le_of_ble_eq_true rfl) p_7_2 d_X7_take_7 ?_
  refine V_iload_n d_X7_take_10 rfl rfl ?_
  obtain ⟨t1, ht1, hf⟩ := ob hf
  refine B_callS1 (s_J6_bitCount_0f7a4 hG ht1) m_J6_bitCount_0f7a4 ks_RX7_65 d_X7_take_11 rfl (Nat.le_of_ble_eq_true rfl) ⟨rfl, rfl, Nat.le_of_ble_eq_true rfl, Nat.le_of_ble_eq_true rfl, Nat.le_of_ble_eq_true rfl⟩ (fun n => ?_)
  refine V_aload_n d_X7_take_14 rfl rfl ?_
  refine B_get k_256 fl_RX7_22 d_X7_take_15 g_7_3 ?_
  obtain ⟨t2, ht2, hf⟩ := ob hf
  refine B_callS1 (s_J6_bitCount_0f7a4 hG ht2) m_J6_bitCount_0f7a4 ks_RX7_65 d_X7_take_18 rfl (Nat.le_of_ble_eq_true rfl) ⟨rfl, rfl, Nat.le_of_ble_eq_true rfl, Nat.le_of_ble_eq_true rfl, Nat.le_of_ble_eq_true rfl⟩ (fun n => ?_)
  refine V_isub d_X7_take_21 ?_
  refine V_istore_n (ls' := [_, _, _]) d_X7_take_22 rfl rfl rfl ?_
  refine V_iload_n d_X7_take_23 rfl rfl ?_
  refine V_if_gt (tgt := 39) d_X7_take_24 (by decide) (fun c24 => ?_) (fun c24 => ?_)
  · replace hf := iteT c24 hf
    refine V_less (ls' := [some _, some _, none]) ⟨rfl, rfl, trivial⟩ ?_
    exact s_X7_take_j39 hG hf hK
  · replace hf := iteF c24 hf
    refine V_iload_n d_X7_take_27 rfl rfl ?_
    refine V_if_ne (tgt := 44) d_X7_take_28 (by decide) (fun c28 => ?_) (fun c28 => ?_)
    · replace hf := iteF c28 hf
      refine V_less (ls' := [none, none, none]) trivial ?_
      exact s_X7_take_j44 hG hf hK
    · replace hf := iteT c28 hf
      refine V_iload_n d_X7_take_31 rfl rfl ?_
      refine V_aload_n d_X7_take_32 rfl rfl ?_
      refine B_get k_256 fl_RX7_22 d_X7_take_33 g_7_3 ?_
      refine V_icmp_ge (tgt := 44) d_X7_take_36 (by decide) (fun c36 => ?_) (fun c36 => ?_)
      · replace hf := iteT c36 hf
        refine V_less (ls' := [none, none, none]) trivial ?_
        exact s_X7_take_j44 hG hf hK
      · replace hf := iteF c36 hf
        refine V_less (ls' := [some _, some _, none]) ⟨rfl, rfl, trivial⟩ ?_
        exact s_X7_take_j39 hG hf hK
theorem s_X7_take {G : Gl} (hG : G.1.stackTraces = false) {μ : Mem} {p1 : Int32} {r : Mem} (hf : f_X7_take μ p1 = some r) : Rt G yX7_take F_X7_take none [.ref (G.2.1 + 256), .int p1] μ none r := fun n => Sd.of hG ⟨by decide +kernel, rfl, rfl⟩ rfl (Nat.le_of_ble_eq_true rfl) rfl (fun C hK => s_X7_take_e hG hf hK)
theorem d_X7_seek_0 : decode F_X7_seek.2.1 0 = .ok (.aload_n 0, 1) := by decide +kernel
theorem d_X7_seek_1 : decode F_X7_seek.2.1 1 = .ok (.aload_n 1, 1) := by decide +kernel
theorem d_X7_seek_2 : decode F_X7_seek.2.1 2 = .ok (.invokevirtual 25, 3) := by decide +kernel
theorem d_X7_seek_5 : decode F_X7_seek.2.1 5 = .ok (.istore_n 2, 1) := by decide +kernel
theorem d_X7_seek_6 : decode F_X7_seek.2.1 6 = .ok (.aload_n 0, 1) := by decide +kernel
theorem d_X7_seek_7 : decode F_X7_seek.2.1 7 = .ok (.iconst 0, 1) := by decide +kernel
theorem d_X7_seek_8 : decode F_X7_seek.2.1 8 = .ok (.putfield 18, 3) := by decide +kernel
theorem d_X7_seek_11 : decode F_X7_seek.2.1 11 = .ok (.aload_n 0, 1) := by decide +kernel
theorem d_X7_seek_12 : decode F_X7_seek.2.1 12 = .ok (.iconst 0, 1) := by decide +kernel
theorem d_X7_seek_13 : decode F_X7_seek.2.1 13 = .ok (.putfield 22, 3) := by decide +kernel
theorem d_X7_seek_16 : decode F_X7_seek.2.1 16 = .ok (.iconst 0, 1) := by decide +kernel
theorem d_X7_seek_17 : decode F_X7_seek.2.1 17 = .ok (.istore_n 3, 1) := by decide +kernel
theorem d_X7_seek_18 : decode F_X7_seek.2.1 18 = .ok (.iconst 1, 1) := by decide +kernel
theorem d_X7_seek_19 : decode F_X7_seek.2.1 19 = .ok (.istore 4, 2) := by decide +kernel
theorem d_X7_seek_21 : decode F_X7_seek.2.1 21 = .ok (.iload 4, 2) := by decide +kernel
theorem d_X7_seek_23 : decode F_X7_seek.2.1 23 = .ok (.iconst 1, 1) := by decide +kernel
theorem d_X7_seek_24 : decode F_X7_seek.2.1 24 = .ok (.iload_n 2, 1) := by decide +kernel
theorem d_X7_seek_25 : decode F_X7_seek.2.1 25 = .ok (.ishl, 1) := by decide +kernel
theorem d_X7_seek_26 : decode F_X7_seek.2.1 26 = .ok (.if_icmp .ge 101, 3) := by decide +kernel
theorem d_X7_seek_29 : decode F_X7_seek.2.1 29 = .ok (.aload_n 0, 1) := by decide +kernel
theorem d_X7_seek_30 : decode F_X7_seek.2.1 30 = .ok (.getfield 9, 3) := by decide +kernel
theorem d_X7_seek_33 : decode F_X7_seek.2.1 33 = .ok (.iload 4, 2) := by decide +kernel
theorem d_X7_seek_35 : decode F_X7_seek.2.1 35 = .ok (.invokestatic 29, 3) := by decide +kernel
theorem d_X7_seek_38 : decode F_X7_seek.2.1 38 = .ok (.iaload, 1) := by decide +kernel
theorem d_X7_seek_39 : decode F_X7_seek.2.1 39 = .ok (.istore 5, 2) := by decide +kernel
theorem d_X7_seek_41 : decode F_X7_seek.2.1 41 = .ok (.iload_n 3, 1) := by decide +kernel
theorem d_X7_seek_42 : decode F_X7_seek.2.1 42 = .ok (.iconst 1, 1) := by decide +kernel
theorem d_X7_seek_43 : decode F_X7_seek.2.1 43 = .ok (.iload 5, 2) := by decide +kernel
theorem d_X7_seek_45 : decode F_X7_seek.2.1 45 = .ok (.ishl, 1) := by decide +kernel
theorem d_X7_seek_46 : decode F_X7_seek.2.1 46 = .ok (.ixor, 1) := by decide +kernel
theorem d_X7_seek_47 : decode F_X7_seek.2.1 47 = .ok (.istore_n 3, 1) := by decide +kernel
theorem d_X7_seek_48 : decode F_X7_seek.2.1 48 = .ok (.iload_n 3, 1) := by decide +kernel
theorem d_X7_seek_49 : decode F_X7_seek.2.1 49 = .ok (.iload 5, 2) := by decide +kernel
theorem d_X7_seek_51 : decode F_X7_seek.2.1 51 = .ok (.invokestatic 35, 3) := by decide +kernel
theorem d_X7_seek_54 : decode F_X7_seek.2.1 54 = .ok (.ifCond .eq 13, 3) := by decide +kernel
theorem d_X7_seek_57 : decode F_X7_seek.2.1 57 = .ok (.aload_n 1, 1) := by decide +kernel
theorem d_X7_seek_58 : decode F_X7_seek.2.1 58 = .ok (.getfield 39, 3) := by decide +kernel
theorem d_X7_seek_61 : decode F_X7_seek.2.1 61 = .ok (.iload 5, 2) := by decide +kernel
theorem d_X7_seek_63 : decode F_X7_seek.2.1 63 = .ok (.iaload, 1) := by decide +kernel
theorem d_X7_seek_64 : decode F_X7_seek.2.1 64 = .ok (.goto 11, 3) := by decide +kernel
theorem d_X7_seek_67 : decode F_X7_seek.2.1 67 = .ok (.aload_n 1, 1) := by decide +kernel
theorem d_X7_seek_68 : decode F_X7_seek.2.1 68 = .ok (.getfield 39, 3) := by decide +kernel
theorem d_X7_seek_71 : decode F_X7_seek.2.1 71 = .ok (.iload 5, 2) := by decide +kernel
theorem d_X7_seek_73 : decode F_X7_seek.2.1 73 = .ok (.iaload, 1) := by decide +kernel
theorem d_X7_seek_74 : decode F_X7_seek.2.1 74 = .ok (.ineg, 1) := by decide +kernel
theorem d_X7_seek_75 : decode F_X7_seek.2.1 75 = .ok (.istore 6, 2) := by decide +kernel
theorem d_X7_seek_77 : decode F_X7_seek.2.1 77 = .ok (.aload_n 0, 1) := by decide +kernel
theorem d_X7_seek_78 : decode F_X7_seek.2.1 78 = .ok (.getfield 15, 3) := by decide +kernel
theorem d_X7_seek_81 : decode F_X7_seek.2.1 81 = .ok (.iload 5, 2) := by decide +kernel
theorem d_X7_seek_83 : decode F_X7_seek.2.1 83 = .ok (.invokestatic 44, 3) := by decide +kernel
theorem d_X7_seek_86 : decode F_X7_seek.2.1 86 = .ok (.dup2, 1) := by decide +kernel
theorem d_X7_seek_87 : decode F_X7_seek.2.1 87 = .ok (.iaload, 1) := by decide +kernel
theorem d_X7_seek_88 : decode F_X7_seek.2.1 88 = .ok (.iload 6, 2) := by decide +kernel
theorem d_X7_seek_90 : decode F_X7_seek.2.1 90 = .ok (.iadd, 1) := by decide +kernel
theorem d_X7_seek_91 : decode F_X7_seek.2.1 91 = .ok (.iastore, 1) := by decide +kernel
theorem d_X7_seek_92 : decode F_X7_seek.2.1 92 = .ok (.aload_n 0, 1) := by decide +kernel
theorem d_X7_seek_93 : decode F_X7_seek.2.1 93 = .ok (.getfield 15, 3) := by decide +kernel
theorem d_X7_seek_96 : decode F_X7_seek.2.1 96 = .ok (.aload_n 1, 1) := by decide +kernel
theorem d_X7_seek_97 : decode F_X7_seek.2.1 97 = .ok (.getfield 47, 3) := by decide +kernel
theorem d_X7_seek_100 : decode F_X7_seek.2.1 100 = .ok (.iload 5, 2) := by decide +kernel
theorem d_X7_seek_102 : decode F_X7_seek.2.1 102 = .ok (.iaload, 1) := by decide +kernel
theorem d_X7_seek_103 : decode F_X7_seek.2.1 103 = .ok (.dup2, 1) := by decide +kernel
theorem d_X7_seek_104 : decode F_X7_seek.2.1 104 = .ok (.iaload, 1) := by decide +kernel
theorem d_X7_seek_105 : decode F_X7_seek.2.1 105 = .ok (.iload 6, 2) := by decide +kernel
theorem d_X7_seek_107 : decode F_X7_seek.2.1 107 = .ok (.isub, 1) := by decide +kernel
theorem d_X7_seek_108 : decode F_X7_seek.2.1 108 = .ok (.iastore, 1) := by decide +kernel
theorem d_X7_seek_109 : decode F_X7_seek.2.1 109 = .ok (.aload_n 0, 1) := by decide +kernel
theorem d_X7_seek_110 : decode F_X7_seek.2.1 110 = .ok (.invokevirtual 50, 3) := by decide +kernel
theorem d_X7_seek_113 : decode F_X7_seek.2.1 113 = .ok (.ifCond .eq 8, 3) := by decide +kernel
theorem d_X7_seek_116 : decode F_X7_seek.2.1 116 = .ok (.aload_n 0, 1) := by decide +kernel
theorem d_X7_seek_117 : decode F_X7_seek.2.1 117 = .ok (.iload_n 3, 1) := by decide +kernel
theorem d_X7_seek_118 : decode F_X7_seek.2.1 118 = .ok (.invokevirtual 54, 3) := by decide +kernel
theorem d_X7_seek_121 : decode F_X7_seek.2.1 121 = .ok (.iinc 4 1, 3) := by decide +kernel
theorem d_X7_seek_124 : decode F_X7_seek.2.1 124 = .ok (.goto (-103), 3) := by decide +kernel
theorem d_X7_seek_127 : decode F_X7_seek.2.1 127 = .ok (.return_, 1) := by decide +kernel
def f_X7_seek_j121_21 (μ : Mem) (a1 : Nat) (l2 : Int32) (l3 : Int32) (l4 : Int32) : Option ((Int32 × Int32 × Mem) ⊕ Mem) :=
some (.inl (l3, (l4 + 1), μ))
def f_X7_seek_j75_21 (μ : Mem) (a1 : Nat) (l2 : Int32) (l3 : Int32) (l4 : Int32) (l5 : Int32) (k0 : Int32) : Option ((Int32 × Int32 × Mem) ⊕ Mem) :=
Option.bind (f_X11_ownerOf μ l5) fun t1 =>
Option.bind (rd μ 258 6 t1) fun t2 =>
Option.bind (wr μ 258 6 t1 (t2 + k0)) fun μ3 =>
Option.bind (rd μ3 (a1 + 7) 12 l5) fun t4 =>
Option.bind (rd μ3 258 6 t4) fun t5 =>
Option.bind (wr μ3 258 6 t4 (t5 - k0)) fun μ6 =>
Option.bind (f_X7_isBalanced μ6) fun t7 =>
if t7 = true then
Option.bind (f_X7_take μ6 l3) fun q8 =>
f_X7_seek_j121_21 q8 a1 l2 l3 l4
else
f_X7_seek_j121_21 μ6 a1 l2 l3 l4
def f_X7_seek_b21 (μ : Mem) (a1 : Nat) (l2 : Int32) (l3 : Int32) (l4 : Int32) : Option ((Int32 × Int32 × Mem) ⊕ Mem) :=
if (1 <<< (l2 &&& 31)) ≤ l4 then
some (.inr μ)
else
Option.bind (f_J6_numberOfTrailingZeros_0f7a4 μ l4) fun t1 =>
Option.bind (rd μ 257 12 t1) fun t2 =>
Option.bind (f_X11_hasBit μ (l3 ^^^ (1 <<< (t2 &&& 31))) t2) fun t3 =>
if t3 = true then
Option.bind (rd μ (a1 + 8) 12 t2) fun t5 =>
f_X7_seek_j75_21 μ a1 l2 (l3 ^^^ (1 <<< (t2 &&& 31))) l4 t2 t5
else
Option.bind (rd μ (a1 + 8) 12 t2) fun t4 =>
f_X7_seek_j75_21 μ a1 l2 (l3 ^^^ (1 <<< (t2 &&& 31))) l4 t2 (-t4)
def f_X7_seek_j127 (μ : Mem) (a1 : Nat) : Option Mem :=
some μ
def f_X7_seek_l21 (μ : Mem) (a1 : Nat) (l2 : Int32) (l3 : Int32) (l4 : Int32) : Option Mem := Option.bind (loopN 10000 (fun z : (Int32 × Int32 × Mem) => f_X7_seek_b21 z.2.2 a1 l2 z.1 z.2.1) (l3, l4, μ)) fun t : Mem => f_X7_seek_j127 t a1
def f_X7_seek (μ : Mem) (a1 : Nat) : Option Mem :=
Option.bind (f_X7_gather μ a1) fun q1 =>
f_X7_seek_l21 (mset (mset q1.2 256 2 0) 256 3 0) a1 q1.1 0 1
theorem s_X7_seek_j121_21 {G : Gl} (hG : G.1.stackTraces = false) {C : Cx} {n : Nat} {μ : Mem} {a1 : Nat} {l2 : Int32} {l3 : Int32} {l4 : Int32} (ha1 : a1 ∈ landL) {y : ((Int32 × Int32 × Mem) ⊕ Mem)} (hf : f_X7_seek_j121_21 μ a1 l2 l3 l4 = some y) (hK : (∀ z', y = .inl z' → ∀ n, V G C F_X7_seek 21 [some (.ref (G.2.1 + 256)), some (.ref (G.2.1 + a1)), some (.int l2), some (.int z'.1), some (.int z'.2.1), none, none] [] (pic G z'.2.2) n 0 0) ∧ (∀ x', y = .inr x' → ∀ n, V G C F_X7_seek 127 [none, none, none, none, none, none, none] [] (pic G x') n 0 0)) : V G C F_X7_seek 121 [some (.ref (G.2.1 + 256)), some (.ref (G.2.1 + a1)), some (.int l2), some (.int l3), some (.int l4), none, none] [] (pic G μ) n 0 0 := by
  unfold f_X7_seek_j121_21 at hf
  refine V_iinc (v := (l4 + 1)) (ls' := [_, _, _, _, _, _, _]) d_X7_seek_121 rfl (by rw [ic_1]) rfl ?_
  refine V_goto (tgt := 21) d_X7_seek_124 (by decide) ?_
  refine V_less (ls' := [some _, some _, some _, some _, some _, none, none]) ⟨rfl, rfl, rfl, rfl, rfl, trivial⟩ ?_
  cases hf
  exact hK.1 _ rfl _
theorem s_X7_seek_j75_21 {G : Gl} (hG : G.1.stackTraces = false) {C : Cx} {n : Nat} {μ : Mem} {a1 : Nat} {l2 : Int32} {l3 : Int32} {l4 : Int32} {l5 : Int32} {k0 : Int32} (ha1 : a1 ∈ landL) {y : ((Int32 × Int32 × Mem) ⊕ Mem)} (hf : f_X7_seek_j75_21 μ a1 l2 l3 l4 l5 k0 = some y) (hK : (∀ z', y = .inl z' → ∀ n, V G C F_X7_seek 21 [some (.ref (G.2.1 + 256)), some (.ref (G.2.1 + a1)), some (.int l2), some (.int z'.1), some (.int z'.2.1), none, none] [] (pic G z'.2.2) n 0 0) ∧ (∀ x', y = .inr x' → ∀ n, V G C F_X7_seek 127 [none, none, none, none, none, none, none] [] (pic G x') n 0 0)) : V G C F_X7_seek 75 [some (.ref (G.2.1 + 256)), some (.ref (G.2.1 + a1)), some (.int l2), some (.int l3), some (.int l4), some (.int l5), none] [.int k0] (pic G μ) n 0 0 := by
  unfold f_X7_seek_j75_21 at hf
  refine V_istore (ls' := [_, _, _, _, _, _, _]) d_X7_seek_75 rfl rfl ?_
  refine V_aload_n d_X7_seek_77 rfl rfl ?_
  refine B_get k_256 fl_RX7_15 d_X7_seek_78 g_7_1 ?_
  refine V_iload d_X7_seek_81 rfl ?_
  obtain ⟨t1, ht1, hf⟩ := ob hf
  refine B_callSN1 (s_X11_ownerOf hG ht1) m_X11_ownerOf ks_RX7_44 d_X7_seek_83 rfl (Nat.le_of_ble_eq_true rfl) ⟨rfl, rfl, Nat.le_of_ble_eq_true rfl, Nat.le_of_ble_eq_true rfl, Nat.le_of_ble_eq_true rfl⟩ (fun n => ?_)
  refine V_dup2 d_X7_seek_86 rfl rfl ?_
  obtain ⟨t2, ht2, hf⟩ := ob hf
  refine B_iald k_258 ht2 d_X7_seek_87 ?_
  refine V_iload d_X7_seek_88 rfl ?_
  refine V_iadd d_X7_seek_90 ?_
  obtain ⟨μ3, hμ3, hf⟩ := ob hf
  refine B_iast k_258 hμ3 d_X7_seek_91 ?_
  refine V_aload_n d_X7_seek_92 rfl rfl ?_
  refine B_get k_256 fl_RX7_15 d_X7_seek_93 g_7_1 ?_
  refine V_aload_n d_X7_seek_96 rfl rfl ?_
  refine B_get (kLand _ ha1) fl_RX7_47 d_X7_seek_97 g_2_12 ?_
  refine V_iload d_X7_seek_100 rfl ?_
  obtain ⟨t4, ht4, hf⟩ := ob hf
  refine B_iald (kLand_7 _ ha1) ht4 d_X7_seek_102 ?_
  refine V_dup2 d_X7_seek_103 rfl rfl ?_
  obtain ⟨t5, ht5, hf⟩ := ob hf
  refine B_iald k_258 ht5 d_X7_seek_104 ?_
  refine V_iload d_X7_seek_105 rfl ?_
  refine V_isub d_X7_seek_107 ?_
  obtain ⟨μ6, hμ6, hf⟩ := ob hf
  refine B_iast k_258 hμ6 d_X7_seek_108 ?_
  refine V_aload_n d_X7_seek_109 rfl rfl ?_
  obtain ⟨t7, ht7, hf⟩ := ob hf
  refine B_callV1 (s_X7_isBalanced hG ht7) k_256 clX7 m_X7_isBalanced kv_RX7_50 d_X7_seek_110 rfl (Nat.le_of_ble_eq_true rfl) ⟨rfl, rfl, Nat.le_of_ble_eq_true rfl, Nat.le_of_ble_eq_true rfl, Nat.le_of_ble_eq_true rfl⟩ (fun n => ?_)
  refine V_if_eq (tgt := 121) d_X7_seek_113 (by decide) (fun c113 => ?_) (fun c113 => ?_)
  · replace hf := iteF (b2i_nt (b2i_eq0 c113)) hf
    refine V_less (ls' := [some _, some _, some _, some _, some _, none, none]) ⟨rfl, rfl, rfl, rfl, rfl, trivial⟩ ?_
    exact s_X7_seek_j121_21 hG ha1 hf hK
  · replace hf := iteT (b2i_ne0 c113) hf
    refine V_aload_n d_X7_seek_116 rfl rfl ?_
    refine V_iload_n d_X7_seek_117 rfl rfl ?_
    obtain ⟨q8, hq8, hf⟩ := ob hf
    refine B_callV0 (s_X7_take hG hq8) k_256 clX7 m_X7_take kv_RX7_54 d_X7_seek_118 rfl (Nat.le_of_ble_eq_true rfl) ⟨rfl, rfl, Nat.le_of_ble_eq_true rfl, Nat.le_of_ble_eq_true rfl, Nat.le_of_ble_eq_true rfl⟩ (fun n => ?_)
    refine V_less (ls' := [some _, some _, some _, some _, some _, none, none]) ⟨rfl, rfl, rfl, rfl, rfl, trivial⟩ ?_
    exact s_X7_seek_j121_21 hG ha1 hf hK
theorem s_X7_seek_b21 {G : Gl} (hG : G.1.stackTraces = false) {C : Cx} {n : Nat} {μ : Mem} {a1 : Nat} {l2 : Int32} {l3 : Int32} {l4 : Int32} (ha1 : a1 ∈ landL) {y : ((Int32 × Int32 × Mem) ⊕ Mem)} (hf : f_X7_seek_b21 μ a1 l2 l3 l4 = some y) (hK : (∀ z', y = .inl z' → ∀ n, V G C F_X7_seek 21 [some (.ref (G.2.1 + 256)), some (.ref (G.2.1 + a1)), some (.int l2), some (.int z'.1), some (.int z'.2.1), none, none] [] (pic G z'.2.2) n 0 0) ∧ (∀ x', y = .inr x' → ∀ n, V G C F_X7_seek 127 [none, none, none, none, none, none, none] [] (pic G x') n 0 0)) : V G C F_X7_seek 21 [some (.ref (G.2.1 + 256)), some (.ref (G.2.1 + a1)), some (.int l2), some (.int l3), some (.int l4), none, none] [] (pic G μ) n 0 0 := by
  unfold f_X7_seek_b21 at hf
  refine V_iload d_X7_seek_21 rfl ?_
  refine V_iconst (v := 1) d_X7_seek_23 ic_1 ?_
  refine V_iload_n d_X7_seek_24 rfl rfl ?_
  refine V_ishl d_X7_seek_25 ?_
  refine V_icmp_ge (tgt := 127) d_X7_seek_26 (by decide) (fun c26 => ?_) (fun c26 => ?_)
  · replace hf := iteT c26 hf
    refine V_less (ls' := [none, none, none, none, none, none, none]) trivial ?_
    cases hf
    exact hK.2 _ rfl _
  · replace hf := iteF c26 hf
    refine V_aload_n d_X7_seek_29 rfl rfl ?_
    refine B_get k_256 fl_RX7_9 d_X7_seek_30 g_7_0 ?_
    refine V_iload d_X7_seek_33 rfl ?_
    obtain ⟨t1, ht1, hf⟩ := ob hf
    refine B_callS1 (s_J6_numberOfTrailingZeros_0f7a4 hG ht1) m_J6_numberOfTrailingZeros_0f7a4 ks_RX7_29 d_X7_seek_35 rfl (Nat.le_of_ble_eq_true rfl) ⟨rfl, rfl, Nat.le_of_ble_eq_true rfl, Nat.le_of_ble_eq_true rfl, Nat.le_of_ble_eq_true rfl⟩ (fun n => ?_)
    obtain ⟨t2, ht2, hf⟩ := ob hf
    refine B_iald k_257 ht2 d_X7_seek_38 ?_
    refine V_istore (ls' := [_, _, _, _, _, _, _]) d_X7_seek_39 rfl rfl ?_
    refine V_iload_n d_X7_seek_41 rfl rfl ?_
    refine V_iconst (v := 1) d_X7_seek_42 ic_1 ?_
    refine V_iload d_X7_seek_43 rfl ?_
    refine V_ishl d_X7_seek_45 ?_
    refine V_ixor d_X7_seek_46 ?_
    refine V_istore_n (ls' := [_, _, _, _, _, _, _]) d_X7_seek_47 rfl rfl rfl ?_
    refine V_iload_n d_X7_seek_48 rfl rfl ?_
    refine V_iload d_X7_seek_49 rfl ?_
    obtain ⟨t3, ht3, hf⟩ := ob hf
    refine B_callSN1 (s_X11_hasBit hG ht3) m_X11_hasBit ks_RX7_35 d_X7_seek_51 rfl (Nat.le_of_ble_eq_true rfl) ⟨rfl, rfl, Nat.le_of_ble_eq_true rfl, Nat.le_of_ble_eq_true rfl, Nat.le_of_ble_eq_true rfl⟩ (fun n => ?_)
    refine V_if_eq (tgt := 67) d_X7_seek_54 (by decide) (fun c54 => ?_) (fun c54 => ?_)
    · replace hf := iteF (b2i_nt (b2i_eq0 c54)) hf
      refine V_aload_n d_X7_seek_67 rfl rfl ?_
      refine B_get (kLand _ ha1) fl_RX7_39 d_X7_seek_68 g_2_13 ?_
      refine V_iload d_X7_seek_71 rfl ?_
      obtain ⟨t4, ht4, hf⟩ := ob hf
      refine B_iald (kLand_8 _ ha1) ht4 d_X7_seek_73 ?_
      refine V_ineg d_X7_seek_74 ?_
      refine V_less (ls' := [some _, some _, some _, some _, some _, some _, none]) ⟨rfl, rfl, rfl, rfl, rfl, rfl, trivial⟩ ?_
      exact s_X7_seek_j75_21 hG ha1 hf hK
    · replace hf := iteT (b2i_ne0 c54) hf
      refine V_aload_n d_X7_seek_57 rfl rfl ?_
      refine B_get (kLand _ ha1) fl_RX7_39 d_X7_seek_58 g_2_13 ?_
      refine V_iload d_X7_seek_61 rfl ?_
      obtain ⟨t5, ht5, hf⟩ := ob hf
      refine B_iald (kLand_8 _ ha1) ht5 d_X7_seek_63 ?_
      refine V_goto (tgt := 75) d_X7_seek_64 (by decide) ?_
      refine V_less (ls' := [some _, some _, some _, some _, some _, some _, none]) ⟨rfl, rfl, rfl, rfl, rfl, rfl, trivial⟩ ?_
      exact s_X7_seek_j75_21 hG ha1 hf hK
theorem s_X7_seek_j127 {G : Gl} (hG : G.1.stackTraces = false) {C : Cx} {n : Nat} {μ : Mem} {a1 : Nat} (ha1 : a1 ∈ landL) {r : Mem} (hf : f_X7_seek_j127 μ a1 = some r) (hK : FinR G C F_X7_seek none none r) : V G C F_X7_seek 127 [none, none, none, none, none, none, none] [] (pic G μ) n 0 0 := by
  unfold f_X7_seek_j127 at hf
  cases hf
  exact R_v hK d_X7_seek_127 (Nat.le_of_ble_eq_true rfl) (Nat.le_of_ble_eq_true rfl)
theorem s_X7_seek_l21 {G : Gl} (hG : G.1.stackTraces = false) {C : Cx} {n : Nat} {μ : Mem} {a1 : Nat} {l2 : Int32} {l3 : Int32} {l4 : Int32} (ha1 : a1 ∈ landL) {r : Mem} (hf : f_X7_seek_l21 μ a1 l2 l3 l4 = some r) (hK : FinR G C F_X7_seek none none r) : V G C F_X7_seek 21 [some (.ref (G.2.1 + 256)), some (.ref (G.2.1 + a1)), some (.int l2), some (.int l3), some (.int l4), none, none] [] (pic G μ) n 0 0 := by
  unfold f_X7_seek_l21 at hf
  obtain ⟨t, hl, hf⟩ := ob hf
  refine loopV (P := fun z => ∀ n, V G C F_X7_seek 21 [some (.ref (G.2.1 + 256)), some (.ref (G.2.1 + a1)), some (.int l2), some (.int z.1), some (.int z.2.1), none, none] [] (pic G z.2.2) n 0 0) (t := t) ?_ _ _ hl n
  intro z y' hy hI hT n
  refine s_X7_seek_b21 hG ha1 hy ⟨hI, fun x9 ex => ?_⟩
  have ex2 := hT x9 ex
  subst ex2
  intro n
  exact s_X7_seek_j127 hG ha1 hf hK
theorem s_X7_seek_e {G : Gl} (hG : G.1.stackTraces = false) {C : Cx} {n : Nat} {μ : Mem} {a1 : Nat} (ha1 : a1 ∈ landL) {r : Mem} (hf : f_X7_seek μ a1 = some r) (hK : FinR G C F_X7_seek none none r) : V G C F_X7_seek 0 [some (.ref (G.2.1 + 256)), some (.ref (G.2.1 + a1)), none, none, none, none, none] [] (pic G μ) n 0 0 := by
  unfold f_X7_seek at hf
  refine V_aload_n d_X7_seek_0 rfl rfl ?_
  refine V_aload_n d_X7_seek_1 rfl rfl ?_
  obtain ⟨q1, hq1, hf⟩ := ob hf
  refine B_callV1 (s_X7_gather hG ha1 hq1) k_256 clX7 m_X7_gather kv_RX7_25 d_X7_seek_2 rfl (Nat.le_of_ble_eq_true rfl) ⟨rfl, rfl, Nat.le_of_ble_eq_true rfl, Nat.le_of_ble_eq_true rfl, Nat.le_of_ble_eq_true rfl⟩ (fun n => ?_)
  refine V_istore_n (ls' := [_, _, _, _, _, _, _]) d_X7_seek_5 rfl rfl rfl ?_
  refine V_aload_n d_X7_seek_6 rfl rfl ?_
  refine V_iconst (v := 0) d_X7_seek_7 ic_0 ?_
  refine B_putI k_256 fl_RX7_18 pt_7_2 (Nat.le_of_ble_eq_true rfl) p_7_2 d_X7_seek_8 ?_
  refine V_aload_n d_X7_seek_11 rfl rfl ?_
  refine V_iconst (v := 0) d_X7_seek_12 ic_0 ?_
  refine B_putI k_256 fl_RX7_22 pt_7_3 (Nat.le_of_ble_eq_true rfl) p_7_3 d_X7_seek_13 ?_
  refine V_iconst (v := 0) d_X7_seek_16 ic_0 ?_
  refine V_istore_n (ls' := [_, _, _, _, _, _, _]) d_X7_seek_17 rfl rfl rfl ?_
  refine V_iconst (v := 1) d_X7_seek_18 ic_1 ?_
  refine V_istore (ls' := [_, _, _, _, _, _, _]) d_X7_seek_19 rfl rfl ?_
  refine V_less (ls' := [some _, some _, some _, some _, some _, none, none]) ⟨rfl, rfl, rfl, rfl, rfl, trivial⟩ ?_
  exact s_X7_seek_l21 hG ha1 hf hK
theorem s_X7_seek {G : Gl} (hG : G.1.stackTraces = false) {μ : Mem} {a1 : Nat} (ha1 : a1 ∈ landL) {r : Mem} (hf : f_X7_seek μ a1 = some r) : Rt G yX7_seek F_X7_seek none [.ref (G.2.1 + 256), .ref (G.2.1 + a1)] μ none r := fun n => Sd.of hG ⟨by decide +kernel, rfl, rfl⟩ rfl (Nat.le_of_ble_eq_true rfl) rfl (fun C hK => s_X7_seek_e hG ha1 hf hK)
theorem d_X8_add_0 : decode F_X8_add.2.1 0 = .ok (.bipush 24, 2) := by decide +kernel
theorem d_X8_add_2 : decode F_X8_add.2.1 2 = .ok (.istore_n 2, 1) := by decide +kernel
theorem d_X8_add_3 : decode F_X8_add.2.1 3 = .ok (.iload_n 2, 1) := by decide +kernel
theorem d_X8_add_4 : decode F_X8_add.2.1 4 = .ok (.ifCond .lt 45, 3) := by decide +kernel
theorem d_X8_add_7 : decode F_X8_add.2.1 7 = .ok (.aload_n 0, 1) := by decide +kernel
theorem d_X8_add_8 : decode F_X8_add.2.1 8 = .ok (.getfield 15, 3) := by decide +kernel
theorem d_X8_add_11 : decode F_X8_add.2.1 11 = .ok (.sipush 400, 3) := by decide +kernel
theorem d_X8_add_14 : decode F_X8_add.2.1 14 = .ok (.if_icmp .ge 35, 3) := by decide +kernel
theorem d_X8_add_17 : decode F_X8_add.2.1 17 = .ok (.aload_n 0, 1) := by decide +kernel
theorem d_X8_add_18 : decode F_X8_add.2.1 18 = .ok (.getfield 9, 3) := by decide +kernel
theorem d_X8_add_21 : decode F_X8_add.2.1 21 = .ok (.aload_n 0, 1) := by decide +kernel
theorem d_X8_add_22 : decode F_X8_add.2.1 22 = .ok (.getfield 15, 3) := by decide +kernel
theorem d_X8_add_25 : decode F_X8_add.2.1 25 = .ok (.iload_n 1, 1) := by decide +kernel
theorem d_X8_add_26 : decode F_X8_add.2.1 26 = .ok (.iload_n 2, 1) := by decide +kernel
theorem d_X8_add_27 : decode F_X8_add.2.1 27 = .ok (.iushr, 1) := by decide +kernel
theorem d_X8_add_28 : decode F_X8_add.2.1 28 = .ok (.sipush 255, 3) := by decide +kernel
theorem d_X8_add_31 : decode F_X8_add.2.1 31 = .ok (.iand, 1) := by decide +kernel
theorem d_X8_add_32 : decode F_X8_add.2.1 32 = .ok (.iastore, 1) := by decide +kernel
theorem d_X8_add_33 : decode F_X8_add.2.1 33 = .ok (.aload_n 0, 1) := by decide +kernel
theorem d_X8_add_34 : decode F_X8_add.2.1 34 = .ok (.dup, 1) := by decide +kernel
theorem d_X8_add_35 : decode F_X8_add.2.1 35 = .ok (.getfield 15, 3) := by decide +kernel
theorem d_X8_add_38 : decode F_X8_add.2.1 38 = .ok (.iconst 1, 1) := by decide +kernel
theorem d_X8_add_39 : decode F_X8_add.2.1 39 = .ok (.iadd, 1) := by decide +kernel
theorem d_X8_add_40 : decode F_X8_add.2.1 40 = .ok (.putfield 15, 3) := by decide +kernel
theorem d_X8_add_43 : decode F_X8_add.2.1 43 = .ok (.iinc 2 (-8), 3) := by decide +kernel
theorem d_X8_add_46 : decode F_X8_add.2.1 46 = .ok (.goto (-43), 3) := by decide +kernel
theorem d_X8_add_49 : decode F_X8_add.2.1 49 = .ok (.return_, 1) := by decide +kernel
def f_X8_add_b3 (μ : Mem) (l1 : Int32) (l2 : Int32) : Option ((Int32 × Mem) ⊕ Mem) :=
if l2 < 0 then
some (.inr μ)
else
if 400 ≤ (μ 1 1) then
some (.inr μ)
else
Option.bind (wr μ 2 400 (μ 1 1) (((Int32.toUInt32 l1 >>> (Int32.toUInt32 l2 &&& Int32.toUInt32 31)).toInt32) &&& 255)) fun μ1 =>
some (.inl ((l2 + (-8)), (mset μ1 1 1 ((μ1 1 1) + 1))))
def f_X8_add_j49 (μ : Mem) : Option Mem :=
some μ
def f_X8_add_l3 (μ : Mem) (l1 : Int32) (l2 : Int32) : Option Mem := Option.bind (loopN 10000 (fun z : (Int32 × Mem) => f_X8_add_b3 z.2 l1 z.1) (l2, μ)) fun t : Mem => f_X8_add_j49 t
def f_X8_add (μ : Mem) (p1 : Int32) : Option Mem :=
f_X8_add_l3 μ p1 24
theorem s_X8_add_b3 {G : Gl} (hG : G.1.stackTraces = false) {C : Cx} {n : Nat} {μ : Mem} {l1 : Int32} {l2 : Int32} {y : ((Int32 × Mem) ⊕ Mem)} (hf : f_X8_add_b3 μ l1 l2 = some y) (hK : (∀ z', y = .inl z' → ∀ n, V G C F_X8_add 3 [some (.ref (G.2.1 + 1)), some (.int l1), some (.int z'.1)] [] (pic G z'.2) n 0 0) ∧ (∀ x', y = .inr x' → ∀ n, V G C F_X8_add 49 [none, none, none] [] (pic G x') n 0 0)) : V G C F_X8_add 3 [some (.ref (G.2.1 + 1)), some (.int l1), some (.int l2)] [] (pic G μ) n 0 0 := by
  unfold f_X8_add_b3 at hf
  refine V_iload_n d_X8_add_3 rfl rfl ?_
  refine V_if_lt (tgt := 49) d_X8_add_4 (by decide) (fun c4 => ?_) (fun c4 => ?_)
  · replace hf := iteT c4 hf
    refine V_less (ls' := [none, none, none]) trivial ?_
    cases hf
    exact hK.2 _ rfl _
  · replace hf := iteF c4 hf
    refine V_aload_n d_X8_add_7 rfl rfl ?_
    refine B_get k_1 fl_RX8_15 d_X8_add_8 g_8_1 ?_
    refine V_sipush (v := 400) d_X8_add_11 sp_400 ?_
    refine V_icmp_ge (tgt := 49) d_X8_add_14 (by decide) (fun c14 => ?_) (fun c14 => ?_)
    · replace hf := iteT c14 hf
      refine V_less (ls' := [none, none, none]) trivial ?_
      cases hf
      exact hK.2 _ rfl _
    · replace hf := iteF c14 hf
      refine V_aload_n d_X8_add_17 rfl rfl ?_
      refine B_get k_1 fl_RX8_9 d_X8_add_18 g_8_0 ?_
      refine V_aload_n d_X8_add_21 rfl rfl ?_
      refine B_get k_1 fl_RX8_15 d_X8_add_22 g_8_1 ?_
      refine V_iload_n d_X8_add_25 rfl rfl ?_
      refine V_iload_n d_X8_add_26 rfl rfl ?_
      refine V_iushr d_X8_add_27 ?_
      refine V_sipush (v := 255) d_X8_add_28 sp_255 ?_
      refine V_iand d_X8_add_31 ?_
      obtain ⟨μ1, hμ1, hf⟩ := ob hf
      refine B_iast k_2 hμ1 d_X8_add_32 ?_
      refine V_aload_n d_X8_add_33 rfl rfl ?_
      refine V_dup d_X8_add_34 rfl ?_
      refine B_get k_1 fl_RX8_15 d_X8_add_35 g_8_1 ?_
      refine V_iconst (v := 1) d_X8_add_38 ic_1 ?_
      refine V_iadd d_X8_add_39 ?_
      refine B_putI k_1 fl_RX8_15 pt_8_1 (Nat.le_of_ble_eq_true rfl) p_8_1 d_X8_add_40 ?_
      refine V_iinc (v := (l2 + (-8))) (ls' := [_, _, _]) d_X8_add_43 rfl (by rw [ic_m8]) rfl ?_
      refine V_goto (tgt := 3) d_X8_add_46 (by decide) ?_
      refine V_less (ls' := [some _, some _, some _]) ⟨rfl, rfl, rfl, trivial⟩ ?_
      cases hf
      exact hK.1 _ rfl _
theorem s_X8_add_j49 {G : Gl} (hG : G.1.stackTraces = false) {C : Cx} {n : Nat} {μ : Mem}  {r : Mem} (hf : f_X8_add_j49 μ = some r) (hK : FinR G C F_X8_add none none r) : V G C F_X8_add 49 [none, none, none] [] (pic G μ) n 0 0 := by
  unfold f_X8_add_j49 at hf
  cases hf
  exact R_v hK d_X8_add_49 (Nat.le_of_ble_eq_true rfl) (Nat.le_of_ble_eq_true rfl)
theorem s_X8_add_l3 {G : Gl} (hG : G.1.stackTraces = false) {C : Cx} {n : Nat} {μ : Mem} {l1 : Int32} {l2 : Int32} {r : Mem} (hf : f_X8_add_l3 μ l1 l2 = some r) (hK : FinR G C F_X8_add none none r) : V G C F_X8_add 3 [some (.ref (G.2.1 + 1)), some (.int l1), some (.int l2)] [] (pic G μ) n 0 0 := by
  unfold f_X8_add_l3 at hf
  obtain ⟨t, hl, hf⟩ := ob hf
  refine loopV (P := fun z => ∀ n, V G C F_X8_add 3 [some (.ref (G.2.1 + 1)), some (.int l1), some (.int z.1)] [] (pic G z.2) n 0 0) (t := t) ?_ _ _ hl n
  intro z y' hy hI hT n
  refine s_X8_add_b3 hG hy ⟨hI, fun x9 ex => ?_⟩
  have ex2 := hT x9 ex
  subst ex2
  intro n
  exact s_X8_add_j49 hG hf hK
theorem s_X8_add_e {G : Gl} (hG : G.1.stackTraces = false) {C : Cx} {n : Nat} {μ : Mem} {p1 : Int32} {r : Mem} (hf : f_X8_add μ p1 = some r) (hK : FinR G C F_X8_add none none r) : V G C F_X8_add 0 [some (.ref (G.2.1 + 1)), some (.int p1), none] [] (pic G μ) n 0 0 := by
  unfold f_X8_add at hf
  refine V_bipush (v := 24) d_X8_add_0 bp_24 ?_
  refine V_istore_n (ls' := [_, _, _]) d_X8_add_2 rfl rfl rfl ?_
  refine V_less (ls' := [some _, some _, some _]) ⟨rfl, rfl, rfl, trivial⟩ ?_
  exact s_X8_add_l3 hG hf hK
theorem s_X8_add {G : Gl} (hG : G.1.stackTraces = false) {μ : Mem} {p1 : Int32} {r : Mem} (hf : f_X8_add μ p1 = some r) : Rt G yX8_add F_X8_add none [.ref (G.2.1 + 1), .int p1] μ none r := fun n => Sd.of hG ⟨by decide +kernel, rfl, rfl⟩ rfl (Nat.le_of_ble_eq_true rfl) rfl (fun C hK => s_X8_add_e hG hf hK)
theorem d_X9_tell_0 : decode F_X9_tell.2.1 0 = .ok (.aload_n 0, 1) := by decide +kernel
theorem d_X9_tell_1 : decode F_X9_tell.2.1 1 = .ok (.getfield 9, 3) := by decide +kernel
theorem d_X9_tell_4 : decode F_X9_tell.2.1 4 = .ok (.iload_n 1, 1) := by decide +kernel
theorem d_X9_tell_5 : decode F_X9_tell.2.1 5 = .ok (.bipush 6, 2) := by decide +kernel
theorem d_X9_tell_7 : decode F_X9_tell.2.1 7 = .ok (.imul, 1) := by decide +kernel
theorem d_X9_tell_8 : decode F_X9_tell.2.1 8 = .ok (.iload_n 2, 1) := by decide +kernel
theorem d_X9_tell_9 : decode F_X9_tell.2.1 9 = .ok (.iadd, 1) := by decide +kernel
theorem d_X9_tell_10 : decode F_X9_tell.2.1 10 = .ok (.iload_n 3, 1) := by decide +kernel
theorem d_X9_tell_11 : decode F_X9_tell.2.1 11 = .ok (.iconst (-1), 1) := by decide +kernel
theorem d_X9_tell_12 : decode F_X9_tell.2.1 12 = .ok (.if_icmp .ne 8, 3) := by decide +kernel
theorem d_X9_tell_15 : decode F_X9_tell.2.1 15 = .ok (.ldc 22, 2) := by decide +kernel
theorem d_X9_tell_17 : decode F_X9_tell.2.1 17 = .ok (.goto 4, 3) := by decide +kernel
theorem d_X9_tell_20 : decode F_X9_tell.2.1 20 = .ok (.iload_n 3, 1) := by decide +kernel
theorem d_X9_tell_21 : decode F_X9_tell.2.1 21 = .ok (.iastore, 1) := by decide +kernel
theorem d_X9_tell_22 : decode F_X9_tell.2.1 22 = .ok (.return_, 1) := by decide +kernel
def f_X9_tell (μ : Mem) (p1 : Int32) (p2 : Int32) (p3 : Int32) : Option Mem :=
Option.bind (wr μ 260 36 ((p1 * 6) + p2) (if p3 = (-1) then 1000000 else p3)) fun μ2 =>
some μ2
theorem s_X9_tell_e {G : Gl} (hG : G.1.stackTraces = false) {C : Cx} {n : Nat} {μ : Mem} {p1 : Int32} {p2 : Int32} {p3 : Int32} {r : Mem} (hf : f_X9_tell μ p1 p2 p3 = some r) (hK : FinR G C F_X9_tell none none r) : V G C F_X9_tell 0 [some (.ref (G.2.1 + 259)), some (.int p1), some (.int p2), some (.int p3)] [] (pic G μ) n 0 0 := by
  unfold f_X9_tell at hf
  refine V_aload_n d_X9_tell_0 rfl rfl ?_
  refine B_get k_259 fl_RX9_9 d_X9_tell_1 g_9_0 ?_
  refine V_iload_n d_X9_tell_4 rfl rfl ?_
  refine V_bipush (v := 6) d_X9_tell_5 bp_6 ?_
  refine V_imul d_X9_tell_7 ?_
  refine V_iload_n d_X9_tell_8 rfl rfl ?_
  refine V_iadd d_X9_tell_9 ?_
  refine V_iload_n d_X9_tell_10 rfl rfl ?_
  refine V_iconst (v := (-1)) d_X9_tell_11 ic_m1 ?_
  have hJj1 : ∀ j1 : Int32, j1 = (if p3 = (-1) then 1000000 else p3) → V G C F_X9_tell 21 [none, none, none, none] [.int j1, .int ((p1 * 6) + p2), .ref (G.2.1 + 260)] (pic G μ) n 0 0 := by
    intro j1 ej1
    subst ej1
    obtain ⟨μ2, hμ2, hf⟩ := ob hf
    refine B_iast k_260 hμ2 d_X9_tell_21 ?_
    cases hf
    exact R_v hK d_X9_tell_22 (Nat.le_of_ble_eq_true rfl) (Nat.le_of_ble_eq_true rfl)
  refine V_icmp_ne (tgt := 20) d_X9_tell_12 (by decide) (fun c12 => ?_) (fun c12 => ?_)
  · refine V_iload_n d_X9_tell_20 rfl rfl ?_
    refine V_less (ls' := [none, none, none, none]) trivial ?_
    exact hJj1 p3 (by rw [if_neg c12])
  · refine V_ldc (v := 1000000) d_X9_tell_15 w_1196 ?_
    refine V_goto (tgt := 21) d_X9_tell_17 (by decide) ?_
    refine V_less (ls' := [none, none, none, none]) trivial ?_
    exact hJj1 1000000 (by rw [if_pos c12])
theorem s_X9_tell {G : Gl} (hG : G.1.stackTraces = false) {μ : Mem} {p1 : Int32} {p2 : Int32} {p3 : Int32} {r : Mem} (hf : f_X9_tell μ p1 p2 p3 = some r) : Rt G yX9_tell F_X9_tell none [.ref (G.2.1 + 259), .int p1, .int p2, .int p3] μ none r := fun n => Sd.of hG ⟨by decide +kernel, rfl, rfl⟩ rfl (Nat.le_of_ble_eq_true rfl) rfl (fun C hK => s_X9_tell_e hG hf hK)
theorem d_X9_with_0 : decode F_X9_with.2.1 0 = .ok (.iload_n 1, 1) := by decide +kernel
theorem d_X9_with_1 : decode F_X9_with.2.1 1 = .ok (.invokestatic 40, 3) := by decide +kernel
theorem d_X9_with_4 : decode F_X9_with.2.1 4 = .ok (.istore_n 3, 1) := by decide +kernel
theorem d_X9_with_5 : decode F_X9_with.2.1 5 = .ok (.aload_n 0, 1) := by decide +kernel
theorem d_X9_with_6 : decode F_X9_with.2.1 6 = .ok (.getfield 9, 3) := by decide +kernel
theorem d_X9_with_9 : decode F_X9_with.2.1 9 = .ok (.iload_n 3, 1) := by decide +kernel
theorem d_X9_with_10 : decode F_X9_with.2.1 10 = .ok (.bipush 6, 2) := by decide +kernel
theorem d_X9_with_12 : decode F_X9_with.2.1 12 = .ok (.imul, 1) := by decide +kernel
theorem d_X9_with_13 : decode F_X9_with.2.1 13 = .ok (.iload_n 2, 1) := by decide +kernel
theorem d_X9_with_14 : decode F_X9_with.2.1 14 = .ok (.iadd, 1) := by decide +kernel
theorem d_X9_with_15 : decode F_X9_with.2.1 15 = .ok (.iaload, 1) := by decide +kernel
theorem d_X9_with_16 : decode F_X9_with.2.1 16 = .ok (.aload_n 0, 1) := by decide +kernel
theorem d_X9_with_17 : decode F_X9_with.2.1 17 = .ok (.getfield 15, 3) := by decide +kernel
theorem d_X9_with_20 : decode F_X9_with.2.1 20 = .ok (.iload_n 1, 1) := by decide +kernel
theorem d_X9_with_21 : decode F_X9_with.2.1 21 = .ok (.iconst 1, 1) := by decide +kernel
theorem d_X9_with_22 : decode F_X9_with.2.1 22 = .ok (.iload_n 2, 1) := by decide +kernel
theorem d_X9_with_23 : decode F_X9_with.2.1 23 = .ok (.ishl, 1) := by decide +kernel
theorem d_X9_with_24 : decode F_X9_with.2.1 24 = .ok (.ior, 1) := by decide +kernel
theorem d_X9_with_25 : decode F_X9_with.2.1 25 = .ok (.iaload, 1) := by decide +kernel
theorem d_X9_with_26 : decode F_X9_with.2.1 26 = .ok (.iadd, 1) := by decide +kernel
theorem d_X9_with_27 : decode F_X9_with.2.1 27 = .ok (.ireturn, 1) := by decide +kernel
def f_X9_with (μ : Mem) (p1 : Int32) (p2 : Int32) : Option Int32 :=
Option.bind (f_J6_bitCount_0f7a4 μ p1) fun t1 =>
Option.bind (rd μ 260 36 ((t1 * 6) + p2)) fun t2 =>
Option.bind (rd μ 261 64 (p1 ||| (1 <<< (p2 &&& 31)))) fun t3 =>
some (t2 + t3)
theorem s_X9_with_e {G : Gl} (hG : G.1.stackTraces = false) {C : Cx} {n : Nat} {μ : Mem} {p1 : Int32} {p2 : Int32} {r : Int32} (hf : f_X9_with μ p1 p2 = some r) (hK : FinR G C F_X9_with (some .int) (some (.int r)) μ) : V G C F_X9_with 0 [some (.ref (G.2.1 + 259)), some (.int p1), some (.int p2), none] [] (pic G μ) n 0 0 := by
  unfold f_X9_with at hf
  refine V_iload_n d_X9_with_0 rfl rfl ?_
  obtain ⟨t1, ht1, hf⟩ := ob hf
  refine B_callS1 (s_J6_bitCount_0f7a4 hG ht1) m_J6_bitCount_0f7a4 ks_RX9_40 d_X9_with_1 rfl (Nat.le_of_ble_eq_true rfl) ⟨rfl, rfl, Nat.le_of_ble_eq_true rfl, Nat.le_of_ble_eq_true rfl, Nat.le_of_ble_eq_true rfl⟩ (fun n => ?_)
  refine V_istore_n (ls' := [_, _, _, _]) d_X9_with_4 rfl rfl rfl ?_
  refine V_aload_n d_X9_with_5 rfl rfl ?_
  refine B_get k_259 fl_RX9_9 d_X9_with_6 g_9_0 ?_
  refine V_iload_n d_X9_with_9 rfl rfl ?_
  refine V_bipush (v := 6) d_X9_with_10 bp_6 ?_
  refine V_imul d_X9_with_12 ?_
  refine V_iload_n d_X9_with_13 rfl rfl ?_
  refine V_iadd d_X9_with_14 ?_
  obtain ⟨t2, ht2, hf⟩ := ob hf
  refine B_iald k_260 ht2 d_X9_with_15 ?_
  refine V_aload_n d_X9_with_16 rfl rfl ?_
  refine B_get k_259 fl_RX9_15 d_X9_with_17 g_9_1 ?_
  refine V_iload_n d_X9_with_20 rfl rfl ?_
  refine V_iconst (v := 1) d_X9_with_21 ic_1 ?_
  refine V_iload_n d_X9_with_22 rfl rfl ?_
  refine V_ishl d_X9_with_23 ?_
  refine V_ior d_X9_with_24 ?_
  obtain ⟨t3, ht3, hf⟩ := ob hf
  refine B_iald k_261 ht3 d_X9_with_25 ?_
  refine V_iadd d_X9_with_26 ?_
  cases hf
  exact R_i hK d_X9_with_27 (Nat.le_of_ble_eq_true rfl) (Nat.le_of_ble_eq_true rfl)
theorem s_X9_with {G : Gl} (hG : G.1.stackTraces = false) {μ : Mem} {p1 : Int32} {p2 : Int32} {r : Int32} (hf : f_X9_with μ p1 p2 = some r) : Rt G yX9_with F_X9_with (some .int) [.ref (G.2.1 + 259), .int p1, .int p2] μ (some (.int r)) μ := fun n => Sd.of hG ⟨by decide +kernel, rfl, rfl⟩ rfl (Nat.le_of_ble_eq_true rfl) rfl (fun C hK => s_X9_with_e hG hf hK)
theorem d_X9_weigh_0 : decode F_X9_weigh.2.1 0 = .ok (.aload_n 0, 1) := by decide +kernel
theorem d_X9_weigh_1 : decode F_X9_weigh.2.1 1 = .ok (.iload_n 1, 1) := by decide +kernel
theorem d_X9_weigh_2 : decode F_X9_weigh.2.1 2 = .ok (.putfield 18, 3) := by decide +kernel
theorem d_X9_weigh_5 : decode F_X9_weigh.2.1 5 = .ok (.iconst 1, 1) := by decide +kernel
theorem d_X9_weigh_6 : decode F_X9_weigh.2.1 6 = .ok (.aload_n 0, 1) := by decide +kernel
theorem d_X9_weigh_7 : decode F_X9_weigh.2.1 7 = .ok (.getfield 18, 3) := by decide +kernel
theorem d_X9_weigh_10 : decode F_X9_weigh.2.1 10 = .ok (.ishl, 1) := by decide +kernel
theorem d_X9_weigh_11 : decode F_X9_weigh.2.1 11 = .ok (.iconst 1, 1) := by decide +kernel
theorem d_X9_weigh_12 : decode F_X9_weigh.2.1 12 = .ok (.isub, 1) := by decide +kernel
theorem d_X9_weigh_13 : decode F_X9_weigh.2.1 13 = .ok (.istore_n 2, 1) := by decide +kernel
theorem d_X9_weigh_14 : decode F_X9_weigh.2.1 14 = .ok (.aload_n 0, 1) := by decide +kernel
theorem d_X9_weigh_15 : decode F_X9_weigh.2.1 15 = .ok (.getfield 15, 3) := by decide +kernel
theorem d_X9_weigh_18 : decode F_X9_weigh.2.1 18 = .ok (.iload_n 2, 1) := by decide +kernel
theorem d_X9_weigh_19 : decode F_X9_weigh.2.1 19 = .ok (.iconst 0, 1) := by decide +kernel
theorem d_X9_weigh_20 : decode F_X9_weigh.2.1 20 = .ok (.iastore, 1) := by decide +kernel
theorem d_X9_weigh_21 : decode F_X9_weigh.2.1 21 = .ok (.iload_n 2, 1) := by decide +kernel
theorem d_X9_weigh_22 : decode F_X9_weigh.2.1 22 = .ok (.iconst 1, 1) := by decide +kernel
theorem d_X9_weigh_23 : decode F_X9_weigh.2.1 23 = .ok (.isub, 1) := by decide +kernel
theorem d_X9_weigh_24 : decode F_X9_weigh.2.1 24 = .ok (.istore_n 3, 1) := by decide +kernel
theorem d_X9_weigh_25 : decode F_X9_weigh.2.1 25 = .ok (.iload_n 3, 1) := by decide +kernel
theorem d_X9_weigh_26 : decode F_X9_weigh.2.1 26 = .ok (.ifCond .lt 66, 3) := by decide +kernel
theorem d_X9_weigh_29 : decode F_X9_weigh.2.1 29 = .ok (.aload_n 0, 1) := by decide +kernel
theorem d_X9_weigh_30 : decode F_X9_weigh.2.1 30 = .ok (.getfield 15, 3) := by decide +kernel
theorem d_X9_weigh_33 : decode F_X9_weigh.2.1 33 = .ok (.iload_n 3, 1) := by decide +kernel
theorem d_X9_weigh_34 : decode F_X9_weigh.2.1 34 = .ok (.ldc 22, 2) := by decide +kernel
theorem d_X9_weigh_36 : decode F_X9_weigh.2.1 36 = .ok (.iastore, 1) := by decide +kernel
theorem d_X9_weigh_37 : decode F_X9_weigh.2.1 37 = .ok (.iconst 0, 1) := by decide +kernel
theorem d_X9_weigh_38 : decode F_X9_weigh.2.1 38 = .ok (.istore 4, 2) := by decide +kernel
theorem d_X9_weigh_40 : decode F_X9_weigh.2.1 40 = .ok (.iload 4, 2) := by decide +kernel
theorem d_X9_weigh_42 : decode F_X9_weigh.2.1 42 = .ok (.aload_n 0, 1) := by decide +kernel
theorem d_X9_weigh_43 : decode F_X9_weigh.2.1 43 = .ok (.getfield 18, 3) := by decide +kernel
theorem d_X9_weigh_46 : decode F_X9_weigh.2.1 46 = .ok (.if_icmp .ge 40, 3) := by decide +kernel
theorem d_X9_weigh_49 : decode F_X9_weigh.2.1 49 = .ok (.iload_n 3, 1) := by decide +kernel
theorem d_X9_weigh_50 : decode F_X9_weigh.2.1 50 = .ok (.iload 4, 2) := by decide +kernel
theorem d_X9_weigh_52 : decode F_X9_weigh.2.1 52 = .ok (.invokestatic 23, 3) := by decide +kernel
theorem d_X9_weigh_55 : decode F_X9_weigh.2.1 55 = .ok (.ifCond .ne 25, 3) := by decide +kernel
theorem d_X9_weigh_58 : decode F_X9_weigh.2.1 58 = .ok (.aload_n 0, 1) := by decide +kernel
theorem d_X9_weigh_59 : decode F_X9_weigh.2.1 59 = .ok (.getfield 15, 3) := by decide +kernel
theorem d_X9_weigh_62 : decode F_X9_weigh.2.1 62 = .ok (.iload_n 3, 1) := by decide +kernel
theorem d_X9_weigh_63 : decode F_X9_weigh.2.1 63 = .ok (.aload_n 0, 1) := by decide +kernel
theorem d_X9_weigh_64 : decode F_X9_weigh.2.1 64 = .ok (.getfield 15, 3) := by decide +kernel
theorem d_X9_weigh_67 : decode F_X9_weigh.2.1 67 = .ok (.iload_n 3, 1) := by decide +kernel
theorem d_X9_weigh_68 : decode F_X9_weigh.2.1 68 = .ok (.iaload, 1) := by decide +kernel
theorem d_X9_weigh_69 : decode F_X9_weigh.2.1 69 = .ok (.aload_n 0, 1) := by decide +kernel
theorem d_X9_weigh_70 : decode F_X9_weigh.2.1 70 = .ok (.iload_n 3, 1) := by decide +kernel
theorem d_X9_weigh_71 : decode F_X9_weigh.2.1 71 = .ok (.iload 4, 2) := by decide +kernel
theorem d_X9_weigh_73 : decode F_X9_weigh.2.1 73 = .ok (.invokevirtual 27, 3) := by decide +kernel
theorem d_X9_weigh_76 : decode F_X9_weigh.2.1 76 = .ok (.invokestatic 31, 3) := by decide +kernel
theorem d_X9_weigh_79 : decode F_X9_weigh.2.1 79 = .ok (.iastore, 1) := by decide +kernel
theorem d_X9_weigh_80 : decode F_X9_weigh.2.1 80 = .ok (.iinc 4 1, 3) := by decide +kernel
theorem d_X9_weigh_83 : decode F_X9_weigh.2.1 83 = .ok (.goto (-43), 3) := by decide +kernel
theorem d_X9_weigh_86 : decode F_X9_weigh.2.1 86 = .ok (.iinc 3 (-1), 3) := by decide +kernel
theorem d_X9_weigh_89 : decode F_X9_weigh.2.1 89 = .ok (.goto (-64), 3) := by decide +kernel
theorem d_X9_weigh_92 : decode F_X9_weigh.2.1 92 = .ok (.return_, 1) := by decide +kernel
def f_X9_weigh_j80_40 (μ : Mem) (l3 : Int32) (l4 : Int32) : Option ((Int32 × Mem) ⊕ Mem) :=
some (.inl ((l4 + 1), μ))
def f_X9_weigh_b40 (μ : Mem) (l3 : Int32) (l4 : Int32) : Option ((Int32 × Mem) ⊕ Mem) :=
if (μ 259 2) ≤ l4 then
some (.inr μ)
else
Option.bind (f_X11_hasBit μ l3 l4) fun t1 =>
if t1 = true then
f_X9_weigh_j80_40 μ l3 l4
else
Option.bind (rd μ 261 64 l3) fun t2 =>
Option.bind (f_X9_with μ l3 l4) fun t3 =>
Option.bind (f_J9_min_7cf53 μ t2 t3) fun t4 =>
Option.bind (wr μ 261 64 l3 t4) fun μ5 =>
f_X9_weigh_j80_40 μ5 l3 l4
def f_X9_weigh_j86_25 (μ : Mem) (l3 : Int32) : Option ((Int32 × Mem) ⊕ Mem) :=
some (.inl ((l3 + (-1)), μ))
def f_X9_weigh_l40 (μ : Mem) (l3 : Int32) (l4 : Int32) : Option ((Int32 × Mem) ⊕ Mem) := Option.bind (loopN 10000 (fun z : (Int32 × Mem) => f_X9_weigh_b40 z.2 l3 z.1) (l4, μ)) fun t : Mem => f_X9_weigh_j86_25 t l3
def f_X9_weigh_b25 (μ : Mem) (l3 : Int32) : Option ((Int32 × Mem) ⊕ Mem) :=
if l3 < 0 then
some (.inr μ)
else
Option.bind (wr μ 261 64 l3 1000000) fun μ1 =>
f_X9_weigh_l40 μ1 l3 0
def f_X9_weigh_j92 (μ : Mem) : Option Mem :=
some μ
def f_X9_weigh_l25 (μ : Mem) (l3 : Int32) : Option Mem := Option.bind (loopN 10000 (fun z : (Int32 × Mem) => f_X9_weigh_b25 z.2 z.1) (l3, μ)) fun t : Mem => f_X9_weigh_j92 t
def f_X9_weigh (μ : Mem) (p1 : Int32) : Option Mem :=
Option.bind (wr (mset μ 259 2 p1) 261 64 ((1 <<< (((mset μ 259 2 p1) 259 2) &&& 31)) - 1) 0) fun μ1 =>
f_X9_weigh_l25 μ1 (((1 <<< (((mset μ 259 2 p1) 259 2) &&& 31)) - 1) - 1)
theorem s_X9_weigh_j80_40 {G : Gl} (hG : G.1.stackTraces = false) {C : Cx} {n : Nat} {μ : Mem} {l3 : Int32} {l4 : Int32} {y : ((Int32 × Mem) ⊕ Mem)} (hf : f_X9_weigh_j80_40 μ l3 l4 = some y) (hK : (∀ z', y = .inl z' → ∀ n, V G C F_X9_weigh 40 [some (.ref (G.2.1 + 259)), none, none, some (.int l3), some (.int z'.1)] [] (pic G z'.2) n 0 0) ∧ (∀ x', y = .inr x' → ∀ n, V G C F_X9_weigh 86 [some (.ref (G.2.1 + 259)), none, none, some (.int l3), none] [] (pic G x') n 0 0)) : V G C F_X9_weigh 80 [some (.ref (G.2.1 + 259)), none, none, some (.int l3), some (.int l4)] [] (pic G μ) n 0 0 := by
  unfold f_X9_weigh_j80_40 at hf
  refine V_iinc (v := (l4 + 1)) (ls' := [_, _, _, _, _]) d_X9_weigh_80 rfl (by rw [ic_1]) rfl ?_
  refine V_goto (tgt := 40) d_X9_weigh_83 (by decide) ?_
  refine V_less (ls' := [some _, none, none, some _, some _]) ⟨rfl, rfl, rfl, trivial⟩ ?_
  cases hf
  exact hK.1 _ rfl _
theorem s_X9_weigh_b40 {G : Gl} (hG : G.1.stackTraces = false) {C : Cx} {n : Nat} {μ : Mem} {l3 : Int32} {l4 : Int32} {y : ((Int32 × Mem) ⊕ Mem)} (hf : f_X9_weigh_b40 μ l3 l4 = some y) (hK : (∀ z', y = .inl z' → ∀ n, V G C F_X9_weigh 40 [some (.ref (G.2.1 + 259)), none, none, some (.int l3), some (.int z'.1)] [] (pic G z'.2) n 0 0) ∧ (∀ x', y = .inr x' → ∀ n, V G C F_X9_weigh 86 [some (.ref (G.2.1 + 259)), none, none, some (.int l3), none] [] (pic G x') n 0 0)) : V G C F_X9_weigh 40 [some (.ref (G.2.1 + 259)), none, none, some (.int l3), some (.int l4)] [] (pic G μ) n 0 0 := by
  unfold f_X9_weigh_b40 at hf
  refine V_iload d_X9_weigh_40 rfl ?_
  refine V_aload_n d_X9_weigh_42 rfl rfl ?_
  refine B_get k_259 fl_RX9_18 d_X9_weigh_43 g_9_2 ?_
  refine V_icmp_ge (tgt := 86) d_X9_weigh_46 (by decide) (fun c46 => ?_) (fun c46 => ?_)
  · replace hf := iteT c46 hf
    refine V_less (ls' := [some _, none, none, some _, none]) ⟨rfl, rfl, trivial⟩ ?_
    cases hf
    exact hK.2 _ rfl _
  · replace hf := iteF c46 hf
    refine V_iload_n d_X9_weigh_49 rfl rfl ?_
    refine V_iload d_X9_weigh_50 rfl ?_
    obtain ⟨t1, ht1, hf⟩ := ob hf
    refine B_callSN1 (s_X11_hasBit hG ht1) m_X11_hasBit ks_RX9_23 d_X9_weigh_52 rfl (Nat.le_of_ble_eq_true rfl) ⟨rfl, rfl, Nat.le_of_ble_eq_true rfl, Nat.le_of_ble_eq_true rfl, Nat.le_of_ble_eq_true rfl⟩ (fun n => ?_)
    refine V_if_ne (tgt := 80) d_X9_weigh_55 (by decide) (fun c55 => ?_) (fun c55 => ?_)
    · replace hf := iteT (b2i_ne0 c55) hf
      refine V_less (ls' := [some _, none, none, some _, some _]) ⟨rfl, rfl, rfl, trivial⟩ ?_
      exact s_X9_weigh_j80_40 hG hf hK
    · replace hf := iteF (b2i_nt (b2i_eq0 c55)) hf
      refine V_aload_n d_X9_weigh_58 rfl rfl ?_
      refine B_get k_259 fl_RX9_15 d_X9_weigh_59 g_9_1 ?_
      refine V_iload_n d_X9_weigh_62 rfl rfl ?_
      refine V_aload_n d_X9_weigh_63 rfl rfl ?_
      refine B_get k_259 fl_RX9_15 d_X9_weigh_64 g_9_1 ?_
      refine V_iload_n d_X9_weigh_67 rfl rfl ?_
      obtain ⟨t2, ht2, hf⟩ := ob hf
      refine B_iald k_261 ht2 d_X9_weigh_68 ?_
      refine V_aload_n d_X9_weigh_69 rfl rfl ?_
      refine V_iload_n d_X9_weigh_70 rfl rfl ?_
      refine V_iload d_X9_weigh_71 rfl ?_
      obtain ⟨t3, ht3, hf⟩ := ob hf
      refine B_callV1 (s_X9_with hG ht3) k_259 clX9 m_X9_with kv_RX9_27 d_X9_weigh_73 rfl (Nat.le_of_ble_eq_true rfl) ⟨rfl, rfl, Nat.le_of_ble_eq_true rfl, Nat.le_of_ble_eq_true rfl, Nat.le_of_ble_eq_true rfl⟩ (fun n => ?_)
      obtain ⟨t4, ht4, hf⟩ := ob hf
      refine B_callS1 (s_J9_min_7cf53 hG ht4) m_J9_min_7cf53 ks_RX9_31 d_X9_weigh_76 rfl (Nat.le_of_ble_eq_true rfl) ⟨rfl, rfl, Nat.le_of_ble_eq_true rfl, Nat.le_of_ble_eq_true rfl, Nat.le_of_ble_eq_true rfl⟩ (fun n => ?_)
      obtain ⟨μ5, hμ5, hf⟩ := ob hf
      refine B_iast k_261 hμ5 d_X9_weigh_79 ?_
      refine V_less (ls' := [some _, none, none, some _, some _]) ⟨rfl, rfl, rfl, trivial⟩ ?_
      exact s_X9_weigh_j80_40 hG hf hK
theorem s_X9_weigh_j86_25 {G : Gl} (hG : G.1.stackTraces = false) {C : Cx} {n : Nat} {μ : Mem} {l3 : Int32} {y : ((Int32 × Mem) ⊕ Mem)} (hf : f_X9_weigh_j86_25 μ l3 = some y) (hK : (∀ z', y = .inl z' → ∀ n, V G C F_X9_weigh 25 [some (.ref (G.2.1 + 259)), none, none, some (.int z'.1), none] [] (pic G z'.2) n 0 0) ∧ (∀ x', y = .inr x' → ∀ n, V G C F_X9_weigh 92 [none, none, none, none, none] [] (pic G x') n 0 0)) : V G C F_X9_weigh 86 [some (.ref (G.2.1 + 259)), none, none, some (.int l3), none] [] (pic G μ) n 0 0 := by
  unfold f_X9_weigh_j86_25 at hf
  refine V_iinc (v := (l3 + (-1))) (ls' := [_, _, _, _, _]) d_X9_weigh_86 rfl (by rw [ic_m1]) rfl ?_
  refine V_goto (tgt := 25) d_X9_weigh_89 (by decide) ?_
  refine V_less (ls' := [some _, none, none, some _, none]) ⟨rfl, rfl, trivial⟩ ?_
  cases hf
  exact hK.1 _ rfl _
theorem s_X9_weigh_l40 {G : Gl} (hG : G.1.stackTraces = false) {C : Cx} {n : Nat} {μ : Mem} {l3 : Int32} {l4 : Int32} {y : ((Int32 × Mem) ⊕ Mem)} (hf : f_X9_weigh_l40 μ l3 l4 = some y) (hK : (∀ z', y = .inl z' → ∀ n, V G C F_X9_weigh 25 [some (.ref (G.2.1 + 259)), none, none, some (.int z'.1), none] [] (pic G z'.2) n 0 0) ∧ (∀ x', y = .inr x' → ∀ n, V G C F_X9_weigh 92 [none, none, none, none, none] [] (pic G x') n 0 0)) : V G C F_X9_weigh 40 [some (.ref (G.2.1 + 259)), none, none, some (.int l3), some (.int l4)] [] (pic G μ) n 0 0 := by
  unfold f_X9_weigh_l40 at hf
  obtain ⟨t, hl, hf⟩ := ob hf
  refine loopV (P := fun z => ∀ n, V G C F_X9_weigh 40 [some (.ref (G.2.1 + 259)), none, none, some (.int l3), some (.int z.1)] [] (pic G z.2) n 0 0) (t := t) ?_ _ _ hl n
  intro z y' hy hI hT n
  refine s_X9_weigh_b40 hG hy ⟨hI, fun x9 ex => ?_⟩
  have ex2 := hT x9 ex
  subst ex2
  intro n
  exact s_X9_weigh_j86_25 hG hf hK
theorem s_X9_weigh_b25 {G : Gl} (hG : G.1.stackTraces = false) {C : Cx} {n : Nat} {μ : Mem} {l3 : Int32} {y : ((Int32 × Mem) ⊕ Mem)} (hf : f_X9_weigh_b25 μ l3 = some y) (hK : (∀ z', y = .inl z' → ∀ n, V G C F_X9_weigh 25 [some (.ref (G.2.1 + 259)), none, none, some (.int z'.1), none] [] (pic G z'.2) n 0 0) ∧ (∀ x', y = .inr x' → ∀ n, V G C F_X9_weigh 92 [none, none, none, none, none] [] (pic G x') n 0 0)) : V G C F_X9_weigh 25 [some (.ref (G.2.1 + 259)), none, none, some (.int l3), none] [] (pic G μ) n 0 0 := by
  unfold f_X9_weigh_b25 at hf
  refine V_iload_n d_X9_weigh_25 rfl rfl ?_
  refine V_if_lt (tgt := 92) d_X9_weigh_26 (by decide) (fun c26 => ?_) (fun c26 => ?_)
  · replace hf := iteT c26 hf
    refine V_less (ls' := [none, none, none, none, none]) trivial ?_
    cases hf
    exact hK.2 _ rfl _
  · replace hf := iteF c26 hf
    refine V_aload_n d_X9_weigh_29 rfl rfl ?_
    refine B_get k_259 fl_RX9_15 d_X9_weigh_30 g_9_1 ?_
    refine V_iload_n d_X9_weigh_33 rfl rfl ?_
    refine V_ldc (v := 1000000) d_X9_weigh_34 w_1196 ?_
    obtain ⟨μ1, hμ1, hf⟩ := ob hf
    refine B_iast k_261 hμ1 d_X9_weigh_36 ?_
    refine V_iconst (v := 0) d_X9_weigh_37 ic_0 ?_
    refine V_istore (ls' := [_, _, _, _, _]) d_X9_weigh_38 rfl rfl ?_
    refine V_less (ls' := [some _, none, none, some _, some _]) ⟨rfl, rfl, rfl, trivial⟩ ?_
    exact s_X9_weigh_l40 hG hf hK
theorem s_X9_weigh_j92 {G : Gl} (hG : G.1.stackTraces = false) {C : Cx} {n : Nat} {μ : Mem}  {r : Mem} (hf : f_X9_weigh_j92 μ = some r) (hK : FinR G C F_X9_weigh none none r) : V G C F_X9_weigh 92 [none, none, none, none, none] [] (pic G μ) n 0 0 := by
  unfold f_X9_weigh_j92 at hf
  cases hf
  exact R_v hK d_X9_weigh_92 (Nat.le_of_ble_eq_true rfl) (Nat.le_of_ble_eq_true rfl)
theorem s_X9_weigh_l25 {G : Gl} (hG : G.1.stackTraces = false) {C : Cx} {n : Nat} {μ : Mem} {l3 : Int32} {r : Mem} (hf : f_X9_weigh_l25 μ l3 = some r) (hK : FinR G C F_X9_weigh none none r) : V G C F_X9_weigh 25 [some (.ref (G.2.1 + 259)), none, none, some (.int l3), none] [] (pic G μ) n 0 0 := by
  unfold f_X9_weigh_l25 at hf
  obtain ⟨t, hl, hf⟩ := ob hf
  refine loopV (P := fun z => ∀ n, V G C F_X9_weigh 25 [some (.ref (G.2.1 + 259)), none, none, some (.int z.1), none] [] (pic G z.2) n 0 0) (t := t) ?_ _ _ hl n
  intro z y' hy hI hT n
  refine s_X9_weigh_b25 hG hy ⟨hI, fun x9 ex => ?_⟩
  have ex2 := hT x9 ex
  subst ex2
  intro n
  exact s_X9_weigh_j92 hG hf hK
theorem s_X9_weigh_e {G : Gl} (hG : G.1.stackTraces = false) {C : Cx} {n : Nat} {μ : Mem} {p1 : Int32} {r : Mem} (hf : f_X9_weigh μ p1 = some r) (hK : FinR G C F_X9_weigh none none r) : V G C F_X9_weigh 0 [some (.ref (G.2.1 + 259)), some (.int p1), none, none, none] [] (pic G μ) n 0 0 := by
  unfold f_X9_weigh at hf
  refine V_aload_n d_X9_weigh_0 rfl rfl ?_
  refine V_iload_n d_X9_weigh_1 rfl rfl ?_
  refine B_putI k_259 fl_RX9_18 pt_9_2 (Nat.le_of_ble_eq_true rfl) p_9_2 d_X9_weigh_2 ?_
  refine V_iconst (v := 1) d_X9_weigh_5 ic_1 ?_
  refine V_aload_n d_X9_weigh_6 rfl rfl ?_
  refine B_get k_259 fl_RX9_18 d_X9_weigh_7 g_9_2 ?_
  refine V_ishl d_X9_weigh_10 ?_
  refine V_iconst (v := 1) d_X9_weigh_11 ic_1 ?_
  refine V_isub d_X9_weigh_12 ?_
  refine V_istore_n (ls' := [_, _, _, _, _]) d_X9_weigh_13 rfl rfl rfl ?_
  refine V_aload_n d_X9_weigh_14 rfl rfl ?_
  refine B_get k_259 fl_RX9_15 d_X9_weigh_15 g_9_1 ?_
  refine V_iload_n d_X9_weigh_18 rfl rfl ?_
  refine V_iconst (v := 0) d_X9_weigh_19 ic_0 ?_
  obtain ⟨μ1, hμ1, hf⟩ := ob hf
  refine B_iast k_261 hμ1 d_X9_weigh_20 ?_
  refine V_iload_n d_X9_weigh_21 rfl rfl ?_
  refine V_iconst (v := 1) d_X9_weigh_22 ic_1 ?_
  refine V_isub d_X9_weigh_23 ?_
  refine V_istore_n (ls' := [_, _, _, _, _]) d_X9_weigh_24 rfl rfl rfl ?_
  refine V_less (ls' := [some _, none, none, some _, none]) ⟨rfl, rfl, trivial⟩ ?_
  exact s_X9_weigh_l25 hG hf hK
theorem s_X9_weigh {G : Gl} (hG : G.1.stackTraces = false) {μ : Mem} {p1 : Int32} {r : Mem} (hf : f_X9_weigh μ p1 = some r) : Rt G yX9_weigh F_X9_weigh none [.ref (G.2.1 + 259), .int p1] μ none r := fun n => Sd.of hG ⟨by decide +kernel, rfl, rfl⟩ rfl (Nat.le_of_ble_eq_true rfl) rfl (fun C hK => s_X9_weigh_e hG hf hK)
theorem d_X9_leastOfAll_0 : decode F_X9_leastOfAll.2.1 0 = .ok (.aload_n 0, 1) := by decide +kernel
theorem d_X9_leastOfAll_1 : decode F_X9_leastOfAll.2.1 1 = .ok (.getfield 15, 3) := by decide +kernel
theorem d_X9_leastOfAll_4 : decode F_X9_leastOfAll.2.1 4 = .ok (.iconst 0, 1) := by decide +kernel
theorem d_X9_leastOfAll_5 : decode F_X9_leastOfAll.2.1 5 = .ok (.iaload, 1) := by decide +kernel
theorem d_X9_leastOfAll_6 : decode F_X9_leastOfAll.2.1 6 = .ok (.ldc 22, 2) := by decide +kernel
theorem d_X9_leastOfAll_8 : decode F_X9_leastOfAll.2.1 8 = .ok (.if_icmp .lt 7, 3) := by decide +kernel
theorem d_X9_leastOfAll_11 : decode F_X9_leastOfAll.2.1 11 = .ok (.iconst (-1), 1) := by decide +kernel
theorem d_X9_leastOfAll_12 : decode F_X9_leastOfAll.2.1 12 = .ok (.goto 9, 3) := by decide +kernel
theorem d_X9_leastOfAll_15 : decode F_X9_leastOfAll.2.1 15 = .ok (.aload_n 0, 1) := by decide +kernel
theorem d_X9_leastOfAll_16 : decode F_X9_leastOfAll.2.1 16 = .ok (.getfield 15, 3) := by decide +kernel
theorem d_X9_leastOfAll_19 : decode F_X9_leastOfAll.2.1 19 = .ok (.iconst 0, 1) := by decide +kernel
theorem d_X9_leastOfAll_20 : decode F_X9_leastOfAll.2.1 20 = .ok (.iaload, 1) := by decide +kernel
theorem d_X9_leastOfAll_21 : decode F_X9_leastOfAll.2.1 21 = .ok (.ireturn, 1) := by decide +kernel
def f_X9_leastOfAll_j21 (μ : Mem) (k0 : Int32) : Option Int32 :=
some k0
def f_X9_leastOfAll (μ : Mem) : Option Int32 :=
Option.bind (rd μ 261 64 0) fun t1 =>
if t1 < 1000000 then
Option.bind (rd μ 261 64 0) fun t2 =>
f_X9_leastOfAll_j21 μ t2
else
f_X9_leastOfAll_j21 μ (-1)
theorem s_X9_leastOfAll_j21 {G : Gl} (hG : G.1.stackTraces = false) {C : Cx} {n : Nat} {μ : Mem} {k0 : Int32} {r : Int32} (hf : f_X9_leastOfAll_j21 μ k0 = some r) (hK : FinR G C F_X9_leastOfAll (some .int) (some (.int r)) μ) : V G C F_X9_leastOfAll 21 [none] [.int k0] (pic G μ) n 0 0 := by
  unfold f_X9_leastOfAll_j21 at hf
  cases hf
  exact R_i hK d_X9_leastOfAll_21 (Nat.le_of_ble_eq_true rfl) (Nat.le_of_ble_eq_true rfl)
theorem s_X9_leastOfAll_e {G : Gl} (hG : G.1.stackTraces = false) {C : Cx} {n : Nat} {μ : Mem}  {r : Int32} (hf : f_X9_leastOfAll μ = some r) (hK : FinR G C F_X9_leastOfAll (some .int) (some (.int r)) μ) : V G C F_X9_leastOfAll 0 [some (.ref (G.2.1 + 259))] [] (pic G μ) n 0 0 := by
  unfold f_X9_leastOfAll at hf
  refine V_aload_n d_X9_leastOfAll_0 rfl rfl ?_
  refine B_get k_259 fl_RX9_15 d_X9_leastOfAll_1 g_9_1 ?_
  refine V_iconst (v := 0) d_X9_leastOfAll_4 ic_0 ?_
  obtain ⟨t1, ht1, hf⟩ := ob hf
  refine B_iald k_261 ht1 d_X9_leastOfAll_5 ?_
  refine V_ldc (v := 1000000) d_X9_leastOfAll_6 w_1196 ?_
  refine V_icmp_lt (tgt := 15) d_X9_leastOfAll_8 (by decide) (fun c8 => ?_) (fun c8 => ?_)
  · replace hf := iteT c8 hf
    refine V_aload_n d_X9_leastOfAll_15 rfl rfl ?_
    refine B_get k_259 fl_RX9_15 d_X9_leastOfAll_16 g_9_1 ?_
    refine V_iconst (v := 0) d_X9_leastOfAll_19 ic_0 ?_
    obtain ⟨t2, ht2, hf⟩ := ob hf
    refine B_iald k_261 ht2 d_X9_leastOfAll_20 ?_
    refine V_less (ls' := [none]) trivial ?_
    exact s_X9_leastOfAll_j21 hG hf hK
  · replace hf := iteF c8 hf
    refine V_iconst (v := (-1)) d_X9_leastOfAll_11 ic_m1 ?_
    refine V_goto (tgt := 21) d_X9_leastOfAll_12 (by decide) ?_
    refine V_less (ls' := [none]) trivial ?_
    exact s_X9_leastOfAll_j21 hG hf hK
theorem s_X9_leastOfAll {G : Gl} (hG : G.1.stackTraces = false) {μ : Mem} {r : Int32} (hf : f_X9_leastOfAll μ = some r) : Rt G yX9_leastOfAll F_X9_leastOfAll (some .int) [.ref (G.2.1 + 259)] μ (some (.int r)) μ := fun n => Sd.of hG ⟨by decide +kernel, rfl, rfl⟩ rfl (Nat.le_of_ble_eq_true rfl) rfl (fun C hK => s_X9_leastOfAll_e hG hf hK)
theorem d_X9_firstBest_0 : decode F_X9_firstBest.2.1 0 = .ok (.iconst 0, 1) := by decide +kernel
theorem d_X9_firstBest_1 : decode F_X9_firstBest.2.1 1 = .ok (.istore_n 2, 1) := by decide +kernel
theorem d_X9_firstBest_2 : decode F_X9_firstBest.2.1 2 = .ok (.iload_n 2, 1) := by decide +kernel
theorem d_X9_firstBest_3 : decode F_X9_firstBest.2.1 3 = .ok (.aload_n 0, 1) := by decide +kernel
theorem d_X9_firstBest_4 : decode F_X9_firstBest.2.1 4 = .ok (.getfield 18, 3) := by decide +kernel
theorem d_X9_firstBest_7 : decode F_X9_firstBest.2.1 7 = .ok (.if_icmp .ge 34, 3) := by decide +kernel
theorem d_X9_firstBest_10 : decode F_X9_firstBest.2.1 10 = .ok (.iload_n 1, 1) := by decide +kernel
theorem d_X9_firstBest_11 : decode F_X9_firstBest.2.1 11 = .ok (.iload_n 2, 1) := by decide +kernel
theorem d_X9_firstBest_12 : decode F_X9_firstBest.2.1 12 = .ok (.invokestatic 23, 3) := by decide +kernel
theorem d_X9_firstBest_15 : decode F_X9_firstBest.2.1 15 = .ok (.ifCond .ne 20, 3) := by decide +kernel
theorem d_X9_firstBest_18 : decode F_X9_firstBest.2.1 18 = .ok (.aload_n 0, 1) := by decide +kernel
theorem d_X9_firstBest_19 : decode F_X9_firstBest.2.1 19 = .ok (.iload_n 1, 1) := by decide +kernel
theorem d_X9_firstBest_20 : decode F_X9_firstBest.2.1 20 = .ok (.iload_n 2, 1) := by decide +kernel
theorem d_X9_firstBest_21 : decode F_X9_firstBest.2.1 21 = .ok (.invokevirtual 27, 3) := by decide +kernel
theorem d_X9_firstBest_24 : decode F_X9_firstBest.2.1 24 = .ok (.aload_n 0, 1) := by decide +kernel
theorem d_X9_firstBest_25 : decode F_X9_firstBest.2.1 25 = .ok (.getfield 15, 3) := by decide +kernel
theorem d_X9_firstBest_28 : decode F_X9_firstBest.2.1 28 = .ok (.iload_n 1, 1) := by decide +kernel
theorem d_X9_firstBest_29 : decode F_X9_firstBest.2.1 29 = .ok (.iaload, 1) := by decide +kernel
theorem d_X9_firstBest_30 : decode F_X9_firstBest.2.1 30 = .ok (.if_icmp .ne 5, 3) := by decide +kernel
theorem d_X9_firstBest_33 : decode F_X9_firstBest.2.1 33 = .ok (.iload_n 2, 1) := by decide +kernel
theorem d_X9_firstBest_34 : decode F_X9_firstBest.2.1 34 = .ok (.ireturn, 1) := by decide +kernel
theorem d_X9_firstBest_35 : decode F_X9_firstBest.2.1 35 = .ok (.iinc 2 1, 3) := by decide +kernel
theorem d_X9_firstBest_38 : decode F_X9_firstBest.2.1 38 = .ok (.goto (-36), 3) := by decide +kernel
theorem d_X9_firstBest_41 : decode F_X9_firstBest.2.1 41 = .ok (.iconst 0, 1) := by decide +kernel
theorem d_X9_firstBest_42 : decode F_X9_firstBest.2.1 42 = .ok (.ireturn, 1) := by decide +kernel
def f_X9_firstBest_j35_2 (μ : Mem) (l1 : Int32) (l2 : Int32) : Option (Int32 ⊕ (Unit ⊕ Int32)) :=
some (.inl (l2 + 1))
def f_X9_firstBest_b2 (μ : Mem) (l1 : Int32) (l2 : Int32) : Option (Int32 ⊕ (Unit ⊕ Int32)) :=
if (μ 259 2) ≤ l2 then
some (.inr (.inl ()))
else
Option.bind (f_X11_hasBit μ l1 l2) fun t1 =>
if t1 = true then
f_X9_firstBest_j35_2 μ l1 l2
else
Option.bind (f_X9_with μ l1 l2) fun t2 =>
Option.bind (rd μ 261 64 l1) fun t3 =>
if t2 = t3 then
some (.inr (.inr l2))
else
f_X9_firstBest_j35_2 μ l1 l2
def f_X9_firstBest_j41 (μ : Mem) : Option Int32 :=
some 0
def f_X9_firstBest_l2 (μ : Mem) (l1 : Int32) (l2 : Int32) : Option Int32 := Option.bind (loopN 10000 (fun z : Int32 => f_X9_firstBest_b2 μ l1 z) l2) fun t : (Unit ⊕ Int32) => Sum.elim (fun e => f_X9_firstBest_j41 μ) (fun x => some x) t
def f_X9_firstBest (μ : Mem) (p1 : Int32) : Option Int32 :=
f_X9_firstBest_l2 μ p1 0
theorem s_X9_firstBest_j35_2 {G : Gl} (hG : G.1.stackTraces = false) {C : Cx} {n : Nat} {μ : Mem} {l1 : Int32} {l2 : Int32} {y : (Int32 ⊕ (Unit ⊕ Int32))} (hf : f_X9_firstBest_j35_2 μ l1 l2 = some y) (hK : (∀ z', y = .inl z' → ∀ n, V G C F_X9_firstBest 2 [some (.ref (G.2.1 + 259)), some (.int l1), some (.int z')] [] (pic G μ) n 0 0) ∧ (∀ x', y = .inr x' → ((∀ x'', x' = .inl x'' → ∀ n, V G C F_X9_firstBest 41 [none, none, none] [] (pic G μ) n 0 0) ∧ (∀ x''', x' = .inr x''' → FinR G C F_X9_firstBest (some .int) (some (.int x''')) μ)))) : V G C F_X9_firstBest 35 [some (.ref (G.2.1 + 259)), some (.int l1), some (.int l2)] [] (pic G μ) n 0 0 := by
  unfold f_X9_firstBest_j35_2 at hf
  refine V_iinc (v := (l2 + 1)) (ls' := [_, _, _]) d_X9_firstBest_35 rfl (by rw [ic_1]) rfl ?_
  refine V_goto (tgt := 2) d_X9_firstBest_38 (by decide) ?_
  refine V_less (ls' := [some _, some _, some _]) ⟨rfl, rfl, rfl, trivial⟩ ?_
  cases hf
  exact hK.1 _ rfl _
theorem s_X9_firstBest_b2 {G : Gl} (hG : G.1.stackTraces = false) {C : Cx} {n : Nat} {μ : Mem} {l1 : Int32} {l2 : Int32} {y : (Int32 ⊕ (Unit ⊕ Int32))} (hf : f_X9_firstBest_b2 μ l1 l2 = some y) (hK : (∀ z', y = .inl z' → ∀ n, V G C F_X9_firstBest 2 [some (.ref (G.2.1 + 259)), some (.int l1), some (.int z')] [] (pic G μ) n 0 0) ∧ (∀ x', y = .inr x' → ((∀ x'', x' = .inl x'' → ∀ n, V G C F_X9_firstBest 41 [none, none, none] [] (pic G μ) n 0 0) ∧ (∀ x''', x' = .inr x''' → FinR G C F_X9_firstBest (some .int) (some (.int x''')) μ)))) : V G C F_X9_firstBest 2 [some (.ref (G.2.1 + 259)), some (.int l1), some (.int l2)] [] (pic G μ) n 0 0 := by
  unfold f_X9_firstBest_b2 at hf
  refine V_iload_n d_X9_firstBest_2 rfl rfl ?_
  refine V_aload_n d_X9_firstBest_3 rfl rfl ?_
  refine B_get k_259 fl_RX9_18 d_X9_firstBest_4 g_9_2 ?_
  refine V_icmp_ge (tgt := 41) d_X9_firstBest_7 (by decide) (fun c7 => ?_) (fun c7 => ?_)
  · replace hf := iteT c7 hf
    refine V_less (ls' := [none, none, none]) trivial ?_
    cases hf
    exact (hK.2 _ rfl).1 _ rfl _
  · replace hf := iteF c7 hf
    refine V_iload_n d_X9_firstBest_10 rfl rfl ?_
    refine V_iload_n d_X9_firstBest_11 rfl rfl ?_
    obtain ⟨t1, ht1, hf⟩ := ob hf
    refine B_callSN1 (s_X11_hasBit hG ht1) m_X11_hasBit ks_RX9_23 d_X9_firstBest_12 rfl (Nat.le_of_ble_eq_true rfl) ⟨rfl, rfl, Nat.le_of_ble_eq_true rfl, Nat.le_of_ble_eq_true rfl, Nat.le_of_ble_eq_true rfl⟩ (fun n => ?_)
    refine V_if_ne (tgt := 35) d_X9_firstBest_15 (by decide) (fun c15 => ?_) (fun c15 => ?_)
    · replace hf := iteT (b2i_ne0 c15) hf
      refine V_less (ls' := [some _, some _, some _]) ⟨rfl, rfl, rfl, trivial⟩ ?_
      exact s_X9_firstBest_j35_2 hG hf hK
    · replace hf := iteF (b2i_nt (b2i_eq0 c15)) hf
      refine V_aload_n d_X9_firstBest_18 rfl rfl ?_
      refine V_iload_n d_X9_firstBest_19 rfl rfl ?_
      refine V_iload_n d_X9_firstBest_20 rfl rfl ?_
      obtain ⟨t2, ht2, hf⟩ := ob hf
      refine B_callV1 (s_X9_with hG ht2) k_259 clX9 m_X9_with kv_RX9_27 d_X9_firstBest_21 rfl (Nat.le_of_ble_eq_true rfl) ⟨rfl, rfl, Nat.le_of_ble_eq_true rfl, Nat.le_of_ble_eq_true rfl, Nat.le_of_ble_eq_true rfl⟩ (fun n => ?_)
      refine V_aload_n d_X9_firstBest_24 rfl rfl ?_
      refine B_get k_259 fl_RX9_15 d_X9_firstBest_25 g_9_1 ?_
      refine V_iload_n d_X9_firstBest_28 rfl rfl ?_
      obtain ⟨t3, ht3, hf⟩ := ob hf
      refine B_iald k_261 ht3 d_X9_firstBest_29 ?_
      refine V_icmp_ne (tgt := 35) d_X9_firstBest_30 (by decide) (fun c30 => ?_) (fun c30 => ?_)
      · replace hf := iteF c30 hf
        refine V_less (ls' := [some _, some _, some _]) ⟨rfl, rfl, rfl, trivial⟩ ?_
        exact s_X9_firstBest_j35_2 hG hf hK
      · replace hf := iteT c30 hf
        refine V_iload_n d_X9_firstBest_33 rfl rfl ?_
        cases hf
        exact R_i ((hK.2 _ rfl).2 _ rfl) d_X9_firstBest_34 (Nat.le_of_ble_eq_true rfl) (Nat.le_of_ble_eq_true rfl)
theorem s_X9_firstBest_j41 {G : Gl} (hG : G.1.stackTraces = false) {C : Cx} {n : Nat} {μ : Mem}  {r : Int32} (hf : f_X9_firstBest_j41 μ = some r) (hK : FinR G C F_X9_firstBest (some .int) (some (.int r)) μ) : V G C F_X9_firstBest 41 [none, none, none] [] (pic G μ) n 0 0 := by
  unfold f_X9_firstBest_j41 at hf
  refine V_iconst (v := 0) d_X9_firstBest_41 ic_0 ?_
  cases hf
  exact R_i hK d_X9_firstBest_42 (Nat.le_of_ble_eq_true rfl) (Nat.le_of_ble_eq_true rfl)
theorem s_X9_firstBest_l2 {G : Gl} (hG : G.1.stackTraces = false) {C : Cx} {n : Nat} {μ : Mem} {l1 : Int32} {l2 : Int32} {r : Int32} (hf : f_X9_firstBest_l2 μ l1 l2 = some r) (hK : FinR G C F_X9_firstBest (some .int) (some (.int r)) μ) : V G C F_X9_firstBest 2 [some (.ref (G.2.1 + 259)), some (.int l1), some (.int l2)] [] (pic G μ) n 0 0 := by
  unfold f_X9_firstBest_l2 at hf
  obtain ⟨t, hl, hf⟩ := ob hf
  refine loopV (P := fun z => ∀ n, V G C F_X9_firstBest 2 [some (.ref (G.2.1 + 259)), some (.int l1), some (.int z)] [] (pic G μ) n 0 0) (t := t) ?_ _ _ hl n
  intro z y' hy hI hT n
  refine s_X9_firstBest_b2 hG hy ⟨hI, fun x9 ex => ?_⟩
  have ex2 := hT x9 ex
  subst ex2
  refine ⟨fun e he => ?_, fun x2 hx => ?_⟩
  · subst he
    intro n
    exact s_X9_firstBest_j41 hG hf hK
  · subst hx
    cases hf
    exact hK
theorem s_X9_firstBest_e {G : Gl} (hG : G.1.stackTraces = false) {C : Cx} {n : Nat} {μ : Mem} {p1 : Int32} {r : Int32} (hf : f_X9_firstBest μ p1 = some r) (hK : FinR G C F_X9_firstBest (some .int) (some (.int r)) μ) : V G C F_X9_firstBest 0 [some (.ref (G.2.1 + 259)), some (.int p1), none] [] (pic G μ) n 0 0 := by
  unfold f_X9_firstBest at hf
  refine V_iconst (v := 0) d_X9_firstBest_0 ic_0 ?_
  refine V_istore_n (ls' := [_, _, _]) d_X9_firstBest_1 rfl rfl rfl ?_
  refine V_less (ls' := [some _, some _, some _]) ⟨rfl, rfl, rfl, trivial⟩ ?_
  exact s_X9_firstBest_l2 hG hf hK
theorem s_X9_firstBest {G : Gl} (hG : G.1.stackTraces = false) {μ : Mem} {p1 : Int32} {r : Int32} (hf : f_X9_firstBest μ p1 = some r) : Rt G yX9_firstBest F_X9_firstBest (some .int) [.ref (G.2.1 + 259), .int p1] μ (some (.int r)) μ := fun n => Sd.of hG ⟨by decide +kernel, rfl, rfl⟩ rfl (Nat.le_of_ble_eq_true rfl) rfl (fun C hK => s_X9_firstBest_e hG hf hK)
theorem d_X9_partOf_0 : decode F_X9_partOf.2.1 0 = .ok (.aload_n 0, 1) := by decide +kernel
theorem d_X9_partOf_1 : decode F_X9_partOf.2.1 1 = .ok (.getfield 15, 3) := by decide +kernel
theorem d_X9_partOf_4 : decode F_X9_partOf.2.1 4 = .ok (.iconst 0, 1) := by decide +kernel
theorem d_X9_partOf_5 : decode F_X9_partOf.2.1 5 = .ok (.iaload, 1) := by decide +kernel
theorem d_X9_partOf_6 : decode F_X9_partOf.2.1 6 = .ok (.ldc 22, 2) := by decide +kernel
theorem d_X9_partOf_8 : decode F_X9_partOf.2.1 8 = .ok (.if_icmp .lt 5, 3) := by decide +kernel
theorem d_X9_partOf_11 : decode F_X9_partOf.2.1 11 = .ok (.iconst (-1), 1) := by decide +kernel
theorem d_X9_partOf_12 : decode F_X9_partOf.2.1 12 = .ok (.ireturn, 1) := by decide +kernel
theorem d_X9_partOf_13 : decode F_X9_partOf.2.1 13 = .ok (.iconst 0, 1) := by decide +kernel
theorem d_X9_partOf_14 : decode F_X9_partOf.2.1 14 = .ok (.istore_n 2, 1) := by decide +kernel
theorem d_X9_partOf_15 : decode F_X9_partOf.2.1 15 = .ok (.iconst (-1), 1) := by decide +kernel
theorem d_X9_partOf_16 : decode F_X9_partOf.2.1 16 = .ok (.istore_n 3, 1) := by decide +kernel
theorem d_X9_partOf_17 : decode F_X9_partOf.2.1 17 = .ok (.iconst 0, 1) := by decide +kernel
theorem d_X9_partOf_18 : decode F_X9_partOf.2.1 18 = .ok (.istore 4, 2) := by decide +kernel
theorem d_X9_partOf_20 : decode F_X9_partOf.2.1 20 = .ok (.iload 4, 2) := by decide +kernel
theorem d_X9_partOf_22 : decode F_X9_partOf.2.1 22 = .ok (.iload_n 1, 1) := by decide +kernel
theorem d_X9_partOf_23 : decode F_X9_partOf.2.1 23 = .ok (.if_icmp .gt 21, 3) := by decide +kernel
theorem d_X9_partOf_26 : decode F_X9_partOf.2.1 26 = .ok (.aload_n 0, 1) := by decide +kernel
theorem d_X9_partOf_27 : decode F_X9_partOf.2.1 27 = .ok (.iload_n 2, 1) := by decide +kernel
theorem d_X9_partOf_28 : decode F_X9_partOf.2.1 28 = .ok (.invokevirtual 36, 3) := by decide +kernel
theorem d_X9_partOf_31 : decode F_X9_partOf.2.1 31 = .ok (.istore_n 3, 1) := by decide +kernel
theorem d_X9_partOf_32 : decode F_X9_partOf.2.1 32 = .ok (.iload_n 2, 1) := by decide +kernel
theorem d_X9_partOf_33 : decode F_X9_partOf.2.1 33 = .ok (.iconst 1, 1) := by decide +kernel
theorem d_X9_partOf_34 : decode F_X9_partOf.2.1 34 = .ok (.iload_n 3, 1) := by decide +kernel
theorem d_X9_partOf_35 : decode F_X9_partOf.2.1 35 = .ok (.ishl, 1) := by decide +kernel
theorem d_X9_partOf_36 : decode F_X9_partOf.2.1 36 = .ok (.ior, 1) := by decide +kernel
theorem d_X9_partOf_37 : decode F_X9_partOf.2.1 37 = .ok (.istore_n 2, 1) := by decide +kernel
theorem d_X9_partOf_38 : decode F_X9_partOf.2.1 38 = .ok (.iinc 4 1, 3) := by decide +kernel
theorem d_X9_partOf_41 : decode F_X9_partOf.2.1 41 = .ok (.goto (-21), 3) := by decide +kernel
theorem d_X9_partOf_44 : decode F_X9_partOf.2.1 44 = .ok (.iload_n 3, 1) := by decide +kernel
theorem d_X9_partOf_45 : decode F_X9_partOf.2.1 45 = .ok (.ireturn, 1) := by decide +kernel
def f_X9_partOf_b20 (μ : Mem) (l1 : Int32) (l2 : Int32) (l3 : Int32) (l4 : Int32) : Option ((Int32 × Int32 × Int32) ⊕ Int32) :=
if l1 < l4 then
some (.inr l3)
else
Option.bind (f_X9_firstBest μ l2) fun t1 =>
some (.inl ((l2 ||| (1 <<< (t1 &&& 31))), t1, (l4 + 1)))
def f_X9_partOf_j44 (μ : Mem) (l3 : Int32) : Option Int32 :=
some l3
def f_X9_partOf_l20 (μ : Mem) (l1 : Int32) (l2 : Int32) (l3 : Int32) (l4 : Int32) : Option Int32 := Option.bind (loopN 10000 (fun z : (Int32 × Int32 × Int32) => f_X9_partOf_b20 μ l1 z.1 z.2.1 z.2.2) (l2, l3, l4)) fun t : Int32 => f_X9_partOf_j44 μ t
def f_X9_partOf (μ : Mem) (p1 : Int32) : Option Int32 :=
Option.bind (rd μ 261 64 0) fun t1 =>
if t1 < 1000000 then
f_X9_partOf_l20 μ p1 0 (-1) 0
else
some (-1)
theorem s_X9_partOf_b20 {G : Gl} (hG : G.1.stackTraces = false) {C : Cx} {n : Nat} {μ : Mem} {l1 : Int32} {l2 : Int32} {l3 : Int32} {l4 : Int32} {y : ((Int32 × Int32 × Int32) ⊕ Int32)} (hf : f_X9_partOf_b20 μ l1 l2 l3 l4 = some y) (hK : (∀ z', y = .inl z' → ∀ n, V G C F_X9_partOf 20 [some (.ref (G.2.1 + 259)), some (.int l1), some (.int z'.1), some (.int z'.2.1), some (.int z'.2.2)] [] (pic G μ) n 0 0) ∧ (∀ x', y = .inr x' → ∀ n, V G C F_X9_partOf 44 [none, none, none, some (.int x'), none] [] (pic G μ) n 0 0)) : V G C F_X9_partOf 20 [some (.ref (G.2.1 + 259)), some (.int l1), some (.int l2), some (.int l3), some (.int l4)] [] (pic G μ) n 0 0 := by
  unfold f_X9_partOf_b20 at hf
  refine V_iload d_X9_partOf_20 rfl ?_
  refine V_iload_n d_X9_partOf_22 rfl rfl ?_
  refine V_icmp_gt (tgt := 44) d_X9_partOf_23 (by decide) (fun c23 => ?_) (fun c23 => ?_)
  · replace hf := iteT c23 hf
    refine V_less (ls' := [none, none, none, some _, none]) ⟨rfl, trivial⟩ ?_
    cases hf
    exact hK.2 _ rfl _
  · replace hf := iteF c23 hf
    refine V_aload_n d_X9_partOf_26 rfl rfl ?_
    refine V_iload_n d_X9_partOf_27 rfl rfl ?_
    obtain ⟨t1, ht1, hf⟩ := ob hf
    refine B_callV1 (s_X9_firstBest hG ht1) k_259 clX9 m_X9_firstBest kv_RX9_36 d_X9_partOf_28 rfl (Nat.le_of_ble_eq_true rfl) ⟨rfl, rfl, Nat.le_of_ble_eq_true rfl, Nat.le_of_ble_eq_true rfl, Nat.le_of_ble_eq_true rfl⟩ (fun n => ?_)
    refine V_istore_n (ls' := [_, _, _, _, _]) d_X9_partOf_31 rfl rfl rfl ?_
    refine V_iload_n d_X9_partOf_32 rfl rfl ?_
    refine V_iconst (v := 1) d_X9_partOf_33 ic_1 ?_
    refine V_iload_n d_X9_partOf_34 rfl rfl ?_
    refine V_ishl d_X9_partOf_35 ?_
    refine V_ior d_X9_partOf_36 ?_
    refine V_istore_n (ls' := [_, _, _, _, _]) d_X9_partOf_37 rfl rfl rfl ?_
    refine V_iinc (v := (l4 + 1)) (ls' := [_, _, _, _, _]) d_X9_partOf_38 rfl (by rw [ic_1]) rfl ?_
    refine V_goto (tgt := 20) d_X9_partOf_41 (by decide) ?_
    refine V_less (ls' := [some _, some _, some _, some _, some _]) ⟨rfl, rfl, rfl, rfl, rfl, trivial⟩ ?_
    cases hf
    exact hK.1 _ rfl _
theorem s_X9_partOf_j44 {G : Gl} (hG : G.1.stackTraces = false) {C : Cx} {n : Nat} {μ : Mem} {l3 : Int32} {r : Int32} (hf : f_X9_partOf_j44 μ l3 = some r) (hK : FinR G C F_X9_partOf (some .int) (some (.int r)) μ) : V G C F_X9_partOf 44 [none, none, none, some (.int l3), none] [] (pic G μ) n 0 0 := by
  unfold f_X9_partOf_j44 at hf
  refine V_iload_n d_X9_partOf_44 rfl rfl ?_
  cases hf
  exact R_i hK d_X9_partOf_45 (Nat.le_of_ble_eq_true rfl) (Nat.le_of_ble_eq_true rfl)
theorem s_X9_partOf_l20 {G : Gl} (hG : G.1.stackTraces = false) {C : Cx} {n : Nat} {μ : Mem} {l1 : Int32} {l2 : Int32} {l3 : Int32} {l4 : Int32} {r : Int32} (hf : f_X9_partOf_l20 μ l1 l2 l3 l4 = some r) (hK : FinR G C F_X9_partOf (some .int) (some (.int r)) μ) : V G C F_X9_partOf 20 [some (.ref (G.2.1 + 259)), some (.int l1), some (.int l2), some (.int l3), some (.int l4)] [] (pic G μ) n 0 0 := by
  unfold f_X9_partOf_l20 at hf
  obtain ⟨t, hl, hf⟩ := ob hf
  refine loopV (P := fun z => ∀ n, V G C F_X9_partOf 20 [some (.ref (G.2.1 + 259)), some (.int l1), some (.int z.1), some (.int z.2.1), some (.int z.2.2)] [] (pic G μ) n 0 0) (t := t) ?_ _ _ hl n
  intro z y' hy hI hT n
  refine s_X9_partOf_b20 hG hy ⟨hI, fun x9 ex => ?_⟩
  have ex2 := hT x9 ex
  subst ex2
  intro n
  exact s_X9_partOf_j44 hG hf hK
theorem s_X9_partOf_e {G : Gl} (hG : G.1.stackTraces = false) {C : Cx} {n : Nat} {μ : Mem} {p1 : Int32} {r : Int32} (hf : f_X9_partOf μ p1 = some r) (hK : FinR G C F_X9_partOf (some .int) (some (.int r)) μ) : V G C F_X9_partOf 0 [some (.ref (G.2.1 + 259)), some (.int p1), none, none, none] [] (pic G μ) n 0 0 := by
  unfold f_X9_partOf at hf
  refine V_aload_n d_X9_partOf_0 rfl rfl ?_
  refine B_get k_259 fl_RX9_15 d_X9_partOf_1 g_9_1 ?_
  refine V_iconst (v := 0) d_X9_partOf_4 ic_0 ?_
  obtain ⟨t1, ht1, hf⟩ := ob hf
  refine B_iald k_261 ht1 d_X9_partOf_5 ?_
  refine V_ldc (v := 1000000) d_X9_partOf_6 w_1196 ?_
  refine V_icmp_lt (tgt := 13) d_X9_partOf_8 (by decide) (fun c8 => ?_) (fun c8 => ?_)
  · replace hf := iteT c8 hf
    refine V_iconst (v := 0) d_X9_partOf_13 ic_0 ?_
    refine V_istore_n (ls' := [_, _, _, _, _]) d_X9_partOf_14 rfl rfl rfl ?_
    refine V_iconst (v := (-1)) d_X9_partOf_15 ic_m1 ?_
    refine V_istore_n (ls' := [_, _, _, _, _]) d_X9_partOf_16 rfl rfl rfl ?_
    refine V_iconst (v := 0) d_X9_partOf_17 ic_0 ?_
    refine V_istore (ls' := [_, _, _, _, _]) d_X9_partOf_18 rfl rfl ?_
    refine V_less (ls' := [some _, some _, some _, some _, some _]) ⟨rfl, rfl, rfl, rfl, rfl, trivial⟩ ?_
    exact s_X9_partOf_l20 hG hf hK
  · replace hf := iteF c8 hf
    refine V_iconst (v := (-1)) d_X9_partOf_11 ic_m1 ?_
    cases hf
    exact R_i hK d_X9_partOf_12 (Nat.le_of_ble_eq_true rfl) (Nat.le_of_ble_eq_true rfl)
theorem s_X9_partOf {G : Gl} (hG : G.1.stackTraces = false) {μ : Mem} {p1 : Int32} {r : Int32} (hf : f_X9_partOf μ p1 = some r) : Rt G yX9_partOf F_X9_partOf (some .int) [.ref (G.2.1 + 259), .int p1] μ (some (.int r)) μ := fun n => Sd.of hG ⟨by decide +kernel, rfl, rfl⟩ rfl (Nat.le_of_ble_eq_true rfl) rfl (fun C hK => s_X9_partOf_e hG hf hK)
theorem d_X10_areTold_0 : decode F_X10_areTold.2.1 0 = .ok (.iload_n 1, 1) := by decide +kernel
theorem d_X10_areTold_1 : decode F_X10_areTold.2.1 1 = .ok (.bipush 36, 2) := by decide +kernel
theorem d_X10_areTold_3 : decode F_X10_areTold.2.1 3 = .ok (.if_icmp .gt 9, 3) := by decide +kernel
theorem d_X10_areTold_6 : decode F_X10_areTold.2.1 6 = .ok (.iload_n 1, 1) := by decide +kernel
theorem d_X10_areTold_7 : decode F_X10_areTold.2.1 7 = .ok (.iconst 3, 1) := by decide +kernel
theorem d_X10_areTold_8 : decode F_X10_areTold.2.1 8 = .ok (.irem, 1) := by decide +kernel
theorem d_X10_areTold_9 : decode F_X10_areTold.2.1 9 = .ok (.ifCond .eq 5, 3) := by decide +kernel
theorem d_X10_areTold_12 : decode F_X10_areTold.2.1 12 = .ok (.iconst 0, 1) := by decide +kernel
theorem d_X10_areTold_13 : decode F_X10_areTold.2.1 13 = .ok (.ireturn, 1) := by decide +kernel
theorem d_X10_areTold_14 : decode F_X10_areTold.2.1 14 = .ok (.iconst 0, 1) := by decide +kernel
theorem d_X10_areTold_15 : decode F_X10_areTold.2.1 15 = .ok (.istore_n 3, 1) := by decide +kernel
theorem d_X10_areTold_16 : decode F_X10_areTold.2.1 16 = .ok (.iload_n 3, 1) := by decide +kernel
theorem d_X10_areTold_17 : decode F_X10_areTold.2.1 17 = .ok (.iload_n 1, 1) := by decide +kernel
theorem d_X10_areTold_18 : decode F_X10_areTold.2.1 18 = .ok (.if_icmp .ge 49, 3) := by decide +kernel
theorem d_X10_areTold_21 : decode F_X10_areTold.2.1 21 = .ok (.aload_n 0, 1) := by decide +kernel
theorem d_X10_areTold_22 : decode F_X10_areTold.2.1 22 = .ok (.getfield 25, 3) := by decide +kernel
theorem d_X10_areTold_25 : decode F_X10_areTold.2.1 25 = .ok (.getfield 29, 3) := by decide +kernel
theorem d_X10_areTold_28 : decode F_X10_areTold.2.1 28 = .ok (.iload_n 3, 1) := by decide +kernel
theorem d_X10_areTold_29 : decode F_X10_areTold.2.1 29 = .ok (.iaload, 1) := by decide +kernel
theorem d_X10_areTold_30 : decode F_X10_areTold.2.1 30 = .ok (.aload_n 0, 1) := by decide +kernel
theorem d_X10_areTold_31 : decode F_X10_areTold.2.1 31 = .ok (.getfield 25, 3) := by decide +kernel
theorem d_X10_areTold_34 : decode F_X10_areTold.2.1 34 = .ok (.getfield 29, 3) := by decide +kernel
theorem d_X10_areTold_37 : decode F_X10_areTold.2.1 37 = .ok (.iload_n 3, 1) := by decide +kernel
theorem d_X10_areTold_38 : decode F_X10_areTold.2.1 38 = .ok (.iconst 1, 1) := by decide +kernel
theorem d_X10_areTold_39 : decode F_X10_areTold.2.1 39 = .ok (.iadd, 1) := by decide +kernel
theorem d_X10_areTold_40 : decode F_X10_areTold.2.1 40 = .ok (.iaload, 1) := by decide +kernel
theorem d_X10_areTold_41 : decode F_X10_areTold.2.1 41 = .ok (.if_icmp .gt 18, 3) := by decide +kernel
theorem d_X10_areTold_44 : decode F_X10_areTold.2.1 44 = .ok (.aload_n 0, 1) := by decide +kernel
theorem d_X10_areTold_45 : decode F_X10_areTold.2.1 45 = .ok (.getfield 25, 3) := by decide +kernel
theorem d_X10_areTold_48 : decode F_X10_areTold.2.1 48 = .ok (.getfield 29, 3) := by decide +kernel
theorem d_X10_areTold_51 : decode F_X10_areTold.2.1 51 = .ok (.iload_n 3, 1) := by decide +kernel
theorem d_X10_areTold_52 : decode F_X10_areTold.2.1 52 = .ok (.iconst 1, 1) := by decide +kernel
theorem d_X10_areTold_53 : decode F_X10_areTold.2.1 53 = .ok (.iadd, 1) := by decide +kernel
theorem d_X10_areTold_54 : decode F_X10_areTold.2.1 54 = .ok (.iaload, 1) := by decide +kernel
theorem d_X10_areTold_55 : decode F_X10_areTold.2.1 55 = .ok (.iload_n 2, 1) := by decide +kernel
theorem d_X10_areTold_56 : decode F_X10_areTold.2.1 56 = .ok (.if_icmp .lt 5, 3) := by decide +kernel
theorem d_X10_areTold_59 : decode F_X10_areTold.2.1 59 = .ok (.iconst 0, 1) := by decide +kernel
theorem d_X10_areTold_60 : decode F_X10_areTold.2.1 60 = .ok (.ireturn, 1) := by decide +kernel
theorem d_X10_areTold_61 : decode F_X10_areTold.2.1 61 = .ok (.iinc 3 3, 3) := by decide +kernel
theorem d_X10_areTold_64 : decode F_X10_areTold.2.1 64 = .ok (.goto (-48), 3) := by decide +kernel
theorem d_X10_areTold_67 : decode F_X10_areTold.2.1 67 = .ok (.iconst 1, 1) := by decide +kernel
theorem d_X10_areTold_68 : decode F_X10_areTold.2.1 68 = .ok (.ireturn, 1) := by decide +kernel
def f_X10_areTold_j12 (μ : Mem) : Option Bool :=
some false
def f_X10_areTold_j59_16 (μ : Mem) : Option (Int32 ⊕ (Unit ⊕ Bool)) :=
some (.inr (.inr false))
def f_X10_areTold_b16 (μ : Mem) (l1 : Int32) (l2 : Int32) (l3 : Int32) : Option (Int32 ⊕ (Unit ⊕ Bool)) :=
if l1 ≤ l3 then
some (.inr (.inl ()))
else
Option.bind (rd μ 2 400 l3) fun t1 =>
Option.bind (rd μ 2 400 (l3 + 1)) fun t2 =>
if t2 < t1 then
f_X10_areTold_j59_16 μ
else
Option.bind (rd μ 2 400 (l3 + 1)) fun t3 =>
if t3 < l2 then
some (.inl (l3 + 3))
else
f_X10_areTold_j59_16 μ
def f_X10_areTold_j67 (μ : Mem) : Option Bool :=
some true
def f_X10_areTold_l16 (μ : Mem) (l1 : Int32) (l2 : Int32) (l3 : Int32) : Option Bool := Option.bind (loopN 10000 (fun z : Int32 => f_X10_areTold_b16 μ l1 l2 z) l3) fun t : (Unit ⊕ Bool) => Sum.elim (fun e => f_X10_areTold_j67 μ) (fun x => some x) t
def f_X10_areTold (μ : Mem) (p1 : Int32) (p2 : Int32) : Option Bool :=
if 36 < p1 then
f_X10_areTold_j12 μ
else
Option.bind (rm9 p1 3) fun t1 =>
if t1 = 0 then
f_X10_areTold_l16 μ p1 p2 0
else
f_X10_areTold_j12 μ
theorem s_X10_areTold_j12 {G : Gl} (hG : G.1.stackTraces = false) {C : Cx} {n : Nat} {μ : Mem}  {r : Bool} (hf : f_X10_areTold_j12 μ = some r) (hK : FinR G C F_X10_areTold (some .boolean) (some (.int (b2i r))) μ) : V G C F_X10_areTold 12 [none, none, none, none] [] (pic G μ) n 0 0 := by
  unfold f_X10_areTold_j12 at hf
  refine V_iconst (v := 0) d_X10_areTold_12 ic_0 ?_
  cases hf
  exact R_z hK d_X10_areTold_13 (Nat.le_of_ble_eq_true rfl) (Nat.le_of_ble_eq_true rfl)
theorem s_X10_areTold_j59_16 {G : Gl} (hG : G.1.stackTraces = false) {C : Cx} {n : Nat} {μ : Mem}  {l1 : Int32} {l2 : Int32} {y : (Int32 ⊕ (Unit ⊕ Bool))} (hf : f_X10_areTold_j59_16 μ = some y) (hK : (∀ z', y = .inl z' → ∀ n, V G C F_X10_areTold 16 [some (.ref (G.2.1 + 262)), some (.int l1), some (.int l2), some (.int z')] [] (pic G μ) n 0 0) ∧ (∀ x', y = .inr x' → ((∀ x'', x' = .inl x'' → ∀ n, V G C F_X10_areTold 67 [none, none, none, none] [] (pic G μ) n 0 0) ∧ (∀ x''', x' = .inr x''' → FinR G C F_X10_areTold (some .boolean) (some (.int (b2i x'''))) μ)))) : V G C F_X10_areTold 59 [none, none, none, none] [] (pic G μ) n 0 0 := by
  unfold f_X10_areTold_j59_16 at hf
  refine V_iconst (v := 0) d_X10_areTold_59 ic_0 ?_
  cases hf
  exact R_z ((hK.2 _ rfl).2 _ rfl) d_X10_areTold_60 (Nat.le_of_ble_eq_true rfl) (Nat.le_of_ble_eq_true rfl)
theorem s_X10_areTold_b16 {G : Gl} (hG : G.1.stackTraces = false) {C : Cx} {n : Nat} {μ : Mem} {l1 : Int32} {l2 : Int32} {l3 : Int32} {y : (Int32 ⊕ (Unit ⊕ Bool))} (hf : f_X10_areTold_b16 μ l1 l2 l3 = some y) (hK : (∀ z', y = .inl z' → ∀ n, V G C F_X10_areTold 16 [some (.ref (G.2.1 + 262)), some (.int l1), some (.int l2), some (.int z')] [] (pic G μ) n 0 0) ∧ (∀ x', y = .inr x' → ((∀ x'', x' = .inl x'' → ∀ n, V G C F_X10_areTold 67 [none, none, none, none] [] (pic G μ) n 0 0) ∧ (∀ x''', x' = .inr x''' → FinR G C F_X10_areTold (some .boolean) (some (.int (b2i x'''))) μ)))) : V G C F_X10_areTold 16 [some (.ref (G.2.1 + 262)), some (.int l1), some (.int l2), some (.int l3)] [] (pic G μ) n 0 0 := by
  unfold f_X10_areTold_b16 at hf
  refine V_iload_n d_X10_areTold_16 rfl rfl ?_
  refine V_iload_n d_X10_areTold_17 rfl rfl ?_
  refine V_icmp_ge (tgt := 67) d_X10_areTold_18 (by decide) (fun c18 => ?_) (fun c18 => ?_)
  · replace hf := iteT c18 hf
    refine V_less (ls' := [none, none, none, none]) trivial ?_
    cases hf
    exact (hK.2 _ rfl).1 _ rfl _
  · replace hf := iteF c18 hf
    refine V_aload_n d_X10_areTold_21 rfl rfl ?_
    refine B_get k_262 fl_RX10_25 d_X10_areTold_22 g_10_0 ?_
    refine B_get k_1 fl_RX10_29 d_X10_areTold_25 g_8_0 ?_
    refine V_iload_n d_X10_areTold_28 rfl rfl ?_
    obtain ⟨t1, ht1, hf⟩ := ob hf
    refine B_iald k_2 ht1 d_X10_areTold_29 ?_
    refine V_aload_n d_X10_areTold_30 rfl rfl ?_
    refine B_get k_262 fl_RX10_25 d_X10_areTold_31 g_10_0 ?_
    refine B_get k_1 fl_RX10_29 d_X10_areTold_34 g_8_0 ?_
    refine V_iload_n d_X10_areTold_37 rfl rfl ?_
    refine V_iconst (v := 1) d_X10_areTold_38 ic_1 ?_
    refine V_iadd d_X10_areTold_39 ?_
    obtain ⟨t2, ht2, hf⟩ := ob hf
    refine B_iald k_2 ht2 d_X10_areTold_40 ?_
    refine V_icmp_gt (tgt := 59) d_X10_areTold_41 (by decide) (fun c41 => ?_) (fun c41 => ?_)
    · replace hf := iteT c41 hf
      refine V_less (ls' := [none, none, none, none]) trivial ?_
      exact s_X10_areTold_j59_16 hG hf hK
    · replace hf := iteF c41 hf
      refine V_aload_n d_X10_areTold_44 rfl rfl ?_
      refine B_get k_262 fl_RX10_25 d_X10_areTold_45 g_10_0 ?_
      refine B_get k_1 fl_RX10_29 d_X10_areTold_48 g_8_0 ?_
      refine V_iload_n d_X10_areTold_51 rfl rfl ?_
      refine V_iconst (v := 1) d_X10_areTold_52 ic_1 ?_
      refine V_iadd d_X10_areTold_53 ?_
      obtain ⟨t3, ht3, hf⟩ := ob hf
      refine B_iald k_2 ht3 d_X10_areTold_54 ?_
      refine V_iload_n d_X10_areTold_55 rfl rfl ?_
      refine V_icmp_lt (tgt := 61) d_X10_areTold_56 (by decide) (fun c56 => ?_) (fun c56 => ?_)
      · replace hf := iteT c56 hf
        refine V_iinc (v := (l3 + 3)) (ls' := [_, _, _, _]) d_X10_areTold_61 rfl (by rw [ic_3]) rfl ?_
        refine V_goto (tgt := 16) d_X10_areTold_64 (by decide) ?_
        refine V_less (ls' := [some _, some _, some _, some _]) ⟨rfl, rfl, rfl, rfl, trivial⟩ ?_
        cases hf
        exact hK.1 _ rfl _
      · replace hf := iteF c56 hf
        refine V_less (ls' := [none, none, none, none]) trivial ?_
        exact s_X10_areTold_j59_16 hG hf hK
theorem s_X10_areTold_j67 {G : Gl} (hG : G.1.stackTraces = false) {C : Cx} {n : Nat} {μ : Mem}  {r : Bool} (hf : f_X10_areTold_j67 μ = some r) (hK : FinR G C F_X10_areTold (some .boolean) (some (.int (b2i r))) μ) : V G C F_X10_areTold 67 [none, none, none, none] [] (pic G μ) n 0 0 := by
  unfold f_X10_areTold_j67 at hf
  refine V_iconst (v := 1) d_X10_areTold_67 ic_1 ?_
  cases hf
  exact R_z hK d_X10_areTold_68 (Nat.le_of_ble_eq_true rfl) (Nat.le_of_ble_eq_true rfl)
theorem s_X10_areTold_l16 {G : Gl} (hG : G.1.stackTraces = false) {C : Cx} {n : Nat} {μ : Mem} {l1 : Int32} {l2 : Int32} {l3 : Int32} {r : Bool} (hf : f_X10_areTold_l16 μ l1 l2 l3 = some r) (hK : FinR G C F_X10_areTold (some .boolean) (some (.int (b2i r))) μ) : V G C F_X10_areTold 16 [some (.ref (G.2.1 + 262)), some (.int l1), some (.int l2), some (.int l3)] [] (pic G μ) n 0 0 := by
  unfold f_X10_areTold_l16 at hf
  obtain ⟨t, hl, hf⟩ := ob hf
  refine loopV (P := fun z => ∀ n, V G C F_X10_areTold 16 [some (.ref (G.2.1 + 262)), some (.int l1), some (.int l2), some (.int z)] [] (pic G μ) n 0 0) (t := t) ?_ _ _ hl n
  intro z y' hy hI hT n
  refine s_X10_areTold_b16 hG hy ⟨hI, fun x9 ex => ?_⟩
  have ex2 := hT x9 ex
  subst ex2
  refine ⟨fun e he => ?_, fun x2 hx => ?_⟩
  · subst he
    intro n
    exact s_X10_areTold_j67 hG hf hK
  · subst hx
    cases hf
    exact hK
theorem s_X10_areTold_e {G : Gl} (hG : G.1.stackTraces = false) {C : Cx} {n : Nat} {μ : Mem} {p1 : Int32} {p2 : Int32} {r : Bool} (hf : f_X10_areTold μ p1 p2 = some r) (hK : FinR G C F_X10_areTold (some .boolean) (some (.int (b2i r))) μ) : V G C F_X10_areTold 0 [some (.ref (G.2.1 + 262)), some (.int p1), some (.int p2), none] [] (pic G μ) n 0 0 := by
  unfold f_X10_areTold at hf
  refine V_iload_n d_X10_areTold_0 rfl rfl ?_
  refine V_bipush (v := 36) d_X10_areTold_1 bp_36 ?_
  refine V_icmp_gt (tgt := 12) d_X10_areTold_3 (by decide) (fun c3 => ?_) (fun c3 => ?_)
  · replace hf := iteT c3 hf
    refine V_less (ls' := [none, none, none, none]) trivial ?_
    exact s_X10_areTold_j12 hG hf hK
  · replace hf := iteF c3 hf
    refine V_iload_n d_X10_areTold_6 rfl rfl ?_
    refine V_iconst (v := 3) d_X10_areTold_7 ic_3 ?_
    obtain ⟨t1, ht1, hf⟩ := ob hf
    obtain ⟨gt1, ht1⟩ := rm_some ht1
    refine V_irem d_X10_areTold_8 gt1 ?_
    rw [ht1]
    refine V_if_eq (tgt := 14) d_X10_areTold_9 (by decide) (fun c9 => ?_) (fun c9 => ?_)
    · replace hf := iteT c9 hf
      refine V_iconst (v := 0) d_X10_areTold_14 ic_0 ?_
      refine V_istore_n (ls' := [_, _, _, _]) d_X10_areTold_15 rfl rfl rfl ?_
      refine V_less (ls' := [some _, some _, some _, some _]) ⟨rfl, rfl, rfl, rfl, trivial⟩ ?_
      exact s_X10_areTold_l16 hG hf hK
    · replace hf := iteF c9 hf
      refine V_less (ls' := [none, none, none, none]) trivial ?_
      exact s_X10_areTold_j12 hG hf hK
theorem s_X10_areTold {G : Gl} (hG : G.1.stackTraces = false) {μ : Mem} {p1 : Int32} {p2 : Int32} {r : Bool} (hf : f_X10_areTold μ p1 p2 = some r) : Rt G yX10_areTold F_X10_areTold (some .boolean) [.ref (G.2.1 + 262), .int p1, .int p2] μ (some (.int (b2i r))) μ := fun n => Sd.of hG ⟨by decide +kernel, rfl, rfl⟩ rfl (Nat.le_of_ble_eq_true rfl) rfl (fun C hK => s_X10_areTold_e hG hf hK)
