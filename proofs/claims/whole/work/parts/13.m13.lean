theorem d_J9_min_7cf53_0 : decode F_J9_min_7cf53.2.1 0 = .ok (.iload_n 0, 1) := by decide +kernel
theorem d_J9_min_7cf53_1 : decode F_J9_min_7cf53.2.1 1 = .ok (.iload_n 1, 1) := by decide +kernel
theorem d_J9_min_7cf53_2 : decode F_J9_min_7cf53.2.1 2 = .ok (.if_icmp .gt 7, 3) := by decide +kernel
theorem d_J9_min_7cf53_5 : decode F_J9_min_7cf53.2.1 5 = .ok (.iload_n 0, 1) := by decide +kernel
theorem d_J9_min_7cf53_6 : decode F_J9_min_7cf53.2.1 6 = .ok (.goto 4, 3) := by decide +kernel
theorem d_J9_min_7cf53_9 : decode F_J9_min_7cf53.2.1 9 = .ok (.iload_n 1, 1) := by decide +kernel
theorem d_J9_min_7cf53_10 : decode F_J9_min_7cf53.2.1 10 = .ok (.ireturn, 1) := by decide +kernel
def f_J9_min_7cf53 (μ : Mem) (p0 : Int32) (p1 : Int32) : Option Int32 :=
some (if p1 < p0 then p1 else p0)
theorem s_J9_min_7cf53_e {G : Gl} (hG : G.1.stackTraces = false) {C : Cx} {n : Nat} {μ : Mem} {p0 : Int32} {p1 : Int32} {r : Int32} (hf : f_J9_min_7cf53 μ p0 p1 = some r) (hK : FinR G C F_J9_min_7cf53 (some .int) (some (.int r)) μ) : V G C F_J9_min_7cf53 0 [some (.int p0), some (.int p1)] [] (pic G μ) n 0 0 := by
  unfold f_J9_min_7cf53 at hf
  refine V_iload_n d_J9_min_7cf53_0 rfl rfl ?_
  refine V_iload_n d_J9_min_7cf53_1 rfl rfl ?_
  have hJj1 : ∀ j1 : Int32, j1 = (if p1 < p0 then p1 else p0) → V G C F_J9_min_7cf53 10 [none, none] [.int j1] (pic G μ) n 0 0 := by
    intro j1 ej1
    subst ej1
    cases hf
    exact R_i hK d_J9_min_7cf53_10 (Nat.le_of_ble_eq_true rfl) (Nat.le_of_ble_eq_true rfl)
  refine V_icmp_gt (tgt := 9) d_J9_min_7cf53_2 (by decide) (fun c2 => ?_) (fun c2 => ?_)
  · refine V_iload_n d_J9_min_7cf53_9 rfl rfl ?_
    refine V_less (ls' := [none, none]) trivial ?_
    exact hJj1 p1 (by rw [if_pos c2])
  · refine V_iload_n d_J9_min_7cf53_5 rfl rfl ?_
    refine V_goto (tgt := 10) d_J9_min_7cf53_6 (by decide) ?_
    refine V_less (ls' := [none, none]) trivial ?_
    exact hJj1 p0 (by rw [if_neg c2])
theorem s_J9_min_7cf53 {G : Gl} (hG : G.1.stackTraces = false) {μ : Mem} {p0 : Int32} {p1 : Int32} {r : Int32} (hf : f_J9_min_7cf53 μ p0 p1 = some r) : Rt G yJ9_min_7cf53 F_J9_min_7cf53 (some .int) [.int p0, .int p1] μ (some (.int r)) μ := fun n => Sd.ofJ hG ⟨by decide +kernel, rfl, rfl⟩ rfl (Nat.le_of_ble_eq_true rfl) rfl (fun C hK => s_J9_min_7cf53_e hG hf hK)
theorem d_X0_forget_0 : decode F_X0_forget.2.1 0 = .ok (.aload_n 0, 1) := by decide +kernel
theorem d_X0_forget_1 : decode F_X0_forget.2.1 1 = .ok (.iconst 0, 1) := by decide +kernel
theorem d_X0_forget_2 : decode F_X0_forget.2.1 2 = .ok (.putfield 21, 3) := by decide +kernel
theorem d_X0_forget_5 : decode F_X0_forget.2.1 5 = .ok (.return_, 1) := by decide +kernel
def f_X0_forget (μ : Mem) : Option Mem :=
some (mset μ 74 2 0)
theorem s_X0_forget_e {G : Gl} (hG : G.1.stackTraces = false) {C : Cx} {n : Nat} {μ : Mem}  {r : Mem} (hf : f_X0_forget μ = some r) (hK : FinR G C F_X0_forget none none r) : V G C F_X0_forget 0 [some (.ref (G.2.1 + 74))] [] (pic G μ) n 0 0 := by
  unfold f_X0_forget at hf
  refine V_aload_n d_X0_forget_0 rfl rfl ?_
  refine V_iconst (v := 0) d_X0_forget_1 ic_0 ?_
  refine B_putI k_74 fl_RX0_21 pt_0_2 (Nat.le_of_ble_eq_true rfl) p_0_2 d_X0_forget_2 ?_
  cases hf
  exact R_v hK d_X0_forget_5 (Nat.le_of_ble_eq_true rfl) (Nat.le_of_ble_eq_true rfl)
theorem s_X0_forget {G : Gl} (hG : G.1.stackTraces = false) {μ : Mem} {r : Mem} (hf : f_X0_forget μ = some r) : Rt G yX0_forget F_X0_forget none [.ref (G.2.1 + 74)] μ none r := fun n => Sd.of hG ⟨by decide +kernel, rfl, rfl⟩ rfl (Nat.le_of_ble_eq_true rfl) rfl (fun C hK => s_X0_forget_e hG hf hK)
theorem d_X1_add_0 : decode F_X1_add.2.1 0 = .ok (.aload_n 0, 1) := by decide +kernel
theorem d_X1_add_1 : decode F_X1_add.2.1 1 = .ok (.getfield 9, 3) := by decide +kernel
theorem d_X1_add_4 : decode F_X1_add.2.1 4 = .ok (.aload_n 0, 1) := by decide +kernel
theorem d_X1_add_5 : decode F_X1_add.2.1 5 = .ok (.getfield 15, 3) := by decide +kernel
theorem d_X1_add_8 : decode F_X1_add.2.1 8 = .ok (.iload_n 1, 1) := by decide +kernel
theorem d_X1_add_9 : decode F_X1_add.2.1 9 = .ok (.bipush 16, 2) := by decide +kernel
theorem d_X1_add_11 : decode F_X1_add.2.1 11 = .ok (.ishl, 1) := by decide +kernel
theorem d_X1_add_12 : decode F_X1_add.2.1 12 = .ok (.iload_n 2, 1) := by decide +kernel
theorem d_X1_add_13 : decode F_X1_add.2.1 13 = .ok (.bipush 12, 2) := by decide +kernel
theorem d_X1_add_15 : decode F_X1_add.2.1 15 = .ok (.ishl, 1) := by decide +kernel
theorem d_X1_add_16 : decode F_X1_add.2.1 16 = .ok (.ior, 1) := by decide +kernel
theorem d_X1_add_17 : decode F_X1_add.2.1 17 = .ok (.iload_n 3, 1) := by decide +kernel
theorem d_X1_add_18 : decode F_X1_add.2.1 18 = .ok (.bipush 10, 2) := by decide +kernel
theorem d_X1_add_20 : decode F_X1_add.2.1 20 = .ok (.ishl, 1) := by decide +kernel
theorem d_X1_add_21 : decode F_X1_add.2.1 21 = .ok (.ior, 1) := by decide +kernel
theorem d_X1_add_22 : decode F_X1_add.2.1 22 = .ok (.iload 4, 2) := by decide +kernel
theorem d_X1_add_24 : decode F_X1_add.2.1 24 = .ok (.ior, 1) := by decide +kernel
theorem d_X1_add_25 : decode F_X1_add.2.1 25 = .ok (.iastore, 1) := by decide +kernel
theorem d_X1_add_26 : decode F_X1_add.2.1 26 = .ok (.aload_n 0, 1) := by decide +kernel
theorem d_X1_add_27 : decode F_X1_add.2.1 27 = .ok (.aload_n 0, 1) := by decide +kernel
theorem d_X1_add_28 : decode F_X1_add.2.1 28 = .ok (.getfield 15, 3) := by decide +kernel
theorem d_X1_add_31 : decode F_X1_add.2.1 31 = .ok (.iconst 1, 1) := by decide +kernel
theorem d_X1_add_32 : decode F_X1_add.2.1 32 = .ok (.iadd, 1) := by decide +kernel
theorem d_X1_add_33 : decode F_X1_add.2.1 33 = .ok (.bipush 60, 2) := by decide +kernel
theorem d_X1_add_35 : decode F_X1_add.2.1 35 = .ok (.irem, 1) := by decide +kernel
theorem d_X1_add_36 : decode F_X1_add.2.1 36 = .ok (.putfield 15, 3) := by decide +kernel
theorem d_X1_add_39 : decode F_X1_add.2.1 39 = .ok (.aload_n 0, 1) := by decide +kernel
theorem d_X1_add_40 : decode F_X1_add.2.1 40 = .ok (.aload_n 0, 1) := by decide +kernel
theorem d_X1_add_41 : decode F_X1_add.2.1 41 = .ok (.getfield 19, 3) := by decide +kernel
theorem d_X1_add_44 : decode F_X1_add.2.1 44 = .ok (.iconst 1, 1) := by decide +kernel
theorem d_X1_add_45 : decode F_X1_add.2.1 45 = .ok (.iadd, 1) := by decide +kernel
theorem d_X1_add_46 : decode F_X1_add.2.1 46 = .ok (.bipush 60, 2) := by decide +kernel
theorem d_X1_add_48 : decode F_X1_add.2.1 48 = .ok (.invokestatic 28, 3) := by decide +kernel
theorem d_X1_add_51 : decode F_X1_add.2.1 51 = .ok (.putfield 19, 3) := by decide +kernel
theorem d_X1_add_54 : decode F_X1_add.2.1 54 = .ok (.return_, 1) := by decide +kernel
def f_X1_add (μ : Mem) (a0 : Nat) (p1 : Int32) (p2 : Int32) (p3 : Int32) (p4 : Int32) : Option Mem :=
Option.bind (wr μ (a0 + 1) 60 (μ a0 1) ((((p1 <<< (16 &&& 31)) ||| (p2 <<< (12 &&& 31))) ||| (p3 <<< (10 &&& 31))) ||| p4)) fun μ1 =>
Option.bind (rm9 ((μ1 a0 1) + 1) 60) fun t2 =>
Option.bind (f_J9_min_7cf53 (mset μ1 a0 1 t2) (((mset μ1 a0 1 t2) a0 2) + 1) 60) fun t3 =>
some (mset (mset μ1 a0 1 t2) a0 2 t3)
theorem s_X1_add_e {G : Gl} (hG : G.1.stackTraces = false) {C : Cx} {n : Nat} {μ : Mem} {a0 : Nat} {p1 : Int32} {p2 : Int32} {p3 : Int32} {p4 : Int32} (ha0 : a0 ∈ bookL) {r : Mem} (hf : f_X1_add μ a0 p1 p2 p3 p4 = some r) (hK : FinR G C F_X1_add none none r) : V G C F_X1_add 0 [some (.ref (G.2.1 + a0)), some (.int p1), some (.int p2), some (.int p3), some (.int p4)] [] (pic G μ) n 0 0 := by
  unfold f_X1_add at hf
  refine V_aload_n d_X1_add_0 rfl rfl ?_
  refine B_get (kBook _ ha0) fl_RX1_9 d_X1_add_1 g_1_0 ?_
  refine V_aload_n d_X1_add_4 rfl rfl ?_
  refine B_get (kBook _ ha0) fl_RX1_15 d_X1_add_5 g_1_1 ?_
  refine V_iload_n d_X1_add_8 rfl rfl ?_
  refine V_bipush (v := 16) d_X1_add_9 bp_16 ?_
  refine V_ishl d_X1_add_11 ?_
  refine V_iload_n d_X1_add_12 rfl rfl ?_
  refine V_bipush (v := 12) d_X1_add_13 bp_12 ?_
  refine V_ishl d_X1_add_15 ?_
  refine V_ior d_X1_add_16 ?_
  refine V_iload_n d_X1_add_17 rfl rfl ?_
  refine V_bipush (v := 10) d_X1_add_18 bp_10 ?_
  refine V_ishl d_X1_add_20 ?_
  refine V_ior d_X1_add_21 ?_
  refine V_iload d_X1_add_22 rfl ?_
  refine V_ior d_X1_add_24 ?_
  obtain ⟨μ1, hμ1, hf⟩ := ob hf
  refine B_iast (kBook_1 _ ha0) hμ1 d_X1_add_25 ?_
  refine V_aload_n d_X1_add_26 rfl rfl ?_
  refine V_aload_n d_X1_add_27 rfl rfl ?_
  refine B_get (kBook _ ha0) fl_RX1_15 d_X1_add_28 g_1_1 ?_
  refine V_iconst (v := 1) d_X1_add_31 ic_1 ?_
  refine V_iadd d_X1_add_32 ?_
  refine V_bipush (v := 60) d_X1_add_33 bp_60 ?_
  obtain ⟨t2, ht2, hf⟩ := ob hf
  obtain ⟨gt2, ht2⟩ := rm_some ht2
  refine V_irem d_X1_add_35 gt2 ?_
  rw [ht2]
  refine B_putI (kBook _ ha0) fl_RX1_15 pt_1_1 (Nat.le_of_ble_eq_true rfl) p_1_1 d_X1_add_36 ?_
  refine V_aload_n d_X1_add_39 rfl rfl ?_
  refine V_aload_n d_X1_add_40 rfl rfl ?_
  refine B_get (kBook _ ha0) fl_RX1_19 d_X1_add_41 g_1_2 ?_
  refine V_iconst (v := 1) d_X1_add_44 ic_1 ?_
  refine V_iadd d_X1_add_45 ?_
  refine V_bipush (v := 60) d_X1_add_46 bp_60 ?_
  obtain ⟨t3, ht3, hf⟩ := ob hf
  refine B_callS1 (s_J9_min_7cf53 hG ht3) m_J9_min_7cf53 ks_RX1_28 d_X1_add_48 rfl (Nat.le_of_ble_eq_true rfl) ⟨rfl, rfl, Nat.le_of_ble_eq_true rfl, Nat.le_of_ble_eq_true rfl, Nat.le_of_ble_eq_true rfl⟩ (fun n => ?_)
  refine B_putI (kBook _ ha0) fl_RX1_19 pt_1_2 (Nat.le_of_ble_eq_true rfl) p_1_2 d_X1_add_51 ?_
  cases hf
  exact R_v hK d_X1_add_54 (Nat.le_of_ble_eq_true rfl) (Nat.le_of_ble_eq_true rfl)
theorem s_X1_add {G : Gl} (hG : G.1.stackTraces = false) {μ : Mem} {a0 : Nat} {p1 : Int32} {p2 : Int32} {p3 : Int32} {p4 : Int32} (ha0 : a0 ∈ bookL) {r : Mem} (hf : f_X1_add μ a0 p1 p2 p3 p4 = some r) : Rt G yX1_add F_X1_add none [.ref (G.2.1 + a0), .int p1, .int p2, .int p3, .int p4] μ none r := fun n => Sd.of hG ⟨by decide +kernel, rfl, rfl⟩ rfl (Nat.le_of_ble_eq_true rfl) rfl (fun C hK => s_X1_add_e hG ha0 hf hK)
theorem d_J9_floorMod_7cf53_0 : decode F_J9_floorMod_7cf53.2.1 0 = .ok (.iload_n 0, 1) := by decide +kernel
theorem d_J9_floorMod_7cf53_1 : decode F_J9_floorMod_7cf53.2.1 1 = .ok (.iload_n 1, 1) := by decide +kernel
theorem d_J9_floorMod_7cf53_2 : decode F_J9_floorMod_7cf53.2.1 2 = .ok (.irem, 1) := by decide +kernel
theorem d_J9_floorMod_7cf53_3 : decode F_J9_floorMod_7cf53.2.1 3 = .ok (.istore_n 2, 1) := by decide +kernel
theorem d_J9_floorMod_7cf53_4 : decode F_J9_floorMod_7cf53.2.1 4 = .ok (.iload_n 0, 1) := by decide +kernel
theorem d_J9_floorMod_7cf53_5 : decode F_J9_floorMod_7cf53.2.1 5 = .ok (.iload_n 1, 1) := by decide +kernel
theorem d_J9_floorMod_7cf53_6 : decode F_J9_floorMod_7cf53.2.1 6 = .ok (.ixor, 1) := by decide +kernel
theorem d_J9_floorMod_7cf53_7 : decode F_J9_floorMod_7cf53.2.1 7 = .ok (.ifCond .ge 11, 3) := by decide +kernel
theorem d_J9_floorMod_7cf53_10 : decode F_J9_floorMod_7cf53.2.1 10 = .ok (.iload_n 2, 1) := by decide +kernel
theorem d_J9_floorMod_7cf53_11 : decode F_J9_floorMod_7cf53.2.1 11 = .ok (.ifCond .eq 7, 3) := by decide +kernel
theorem d_J9_floorMod_7cf53_14 : decode F_J9_floorMod_7cf53.2.1 14 = .ok (.iload_n 2, 1) := by decide +kernel
theorem d_J9_floorMod_7cf53_15 : decode F_J9_floorMod_7cf53.2.1 15 = .ok (.iload_n 1, 1) := by decide +kernel
theorem d_J9_floorMod_7cf53_16 : decode F_J9_floorMod_7cf53.2.1 16 = .ok (.iadd, 1) := by decide +kernel
theorem d_J9_floorMod_7cf53_17 : decode F_J9_floorMod_7cf53.2.1 17 = .ok (.ireturn, 1) := by decide +kernel
theorem d_J9_floorMod_7cf53_18 : decode F_J9_floorMod_7cf53.2.1 18 = .ok (.iload_n 2, 1) := by decide +kernel
theorem d_J9_floorMod_7cf53_19 : decode F_J9_floorMod_7cf53.2.1 19 = .ok (.ireturn, 1) := by decide +kernel
def f_J9_floorMod_7cf53_j18 (μ : Mem) (l2 : Int32) : Option Int32 :=
some l2
def f_J9_floorMod_7cf53 (μ : Mem) (p0 : Int32) (p1 : Int32) : Option Int32 :=
Option.bind (rm9 p0 p1) fun t1 =>
if 0 ≤ (p0 ^^^ p1) then
f_J9_floorMod_7cf53_j18 μ t1
else
if t1 = 0 then
f_J9_floorMod_7cf53_j18 μ t1
else
some (t1 + p1)
theorem s_J9_floorMod_7cf53_j18 {G : Gl} (hG : G.1.stackTraces = false) {C : Cx} {n : Nat} {μ : Mem} {l2 : Int32} {r : Int32} (hf : f_J9_floorMod_7cf53_j18 μ l2 = some r) (hK : FinR G C F_J9_floorMod_7cf53 (some .int) (some (.int r)) μ) : V G C F_J9_floorMod_7cf53 18 [none, none, some (.int l2)] [] (pic G μ) n 0 0 := by
  unfold f_J9_floorMod_7cf53_j18 at hf
  refine V_iload_n d_J9_floorMod_7cf53_18 rfl rfl ?_
  cases hf
  exact R_i hK d_J9_floorMod_7cf53_19 (Nat.le_of_ble_eq_true rfl) (Nat.le_of_ble_eq_true rfl)
theorem s_J9_floorMod_7cf53_e {G : Gl} (hG : G.1.stackTraces = false) {C : Cx} {n : Nat} {μ : Mem} {p0 : Int32} {p1 : Int32} {r : Int32} (hf : f_J9_floorMod_7cf53 μ p0 p1 = some r) (hK : FinR G C F_J9_floorMod_7cf53 (some .int) (some (.int r)) μ) : V G C F_J9_floorMod_7cf53 0 [some (.int p0), some (.int p1), none] [] (pic G μ) n 0 0 := by
  unfold f_J9_floorMod_7cf53 at hf
  refine V_iload_n d_J9_floorMod_7cf53_0 rfl rfl ?_
  refine V_iload_n d_J9_floorMod_7cf53_1 rfl rfl ?_
  obtain ⟨t1, ht1, hf⟩ := ob hf
  obtain ⟨gt1, ht1⟩ := rm_some ht1
  refine V_irem d_J9_floorMod_7cf53_2 gt1 ?_
  rw [ht1]
  refine V_istore_n (ls' := [_, _, _]) d_J9_floorMod_7cf53_3 rfl rfl rfl ?_
  refine V_iload_n d_J9_floorMod_7cf53_4 rfl rfl ?_
  refine V_iload_n d_J9_floorMod_7cf53_5 rfl rfl ?_
  refine V_ixor d_J9_floorMod_7cf53_6 ?_
  refine V_if_ge (tgt := 18) d_J9_floorMod_7cf53_7 (by decide) (fun c7 => ?_) (fun c7 => ?_)
  · replace hf := iteT c7 hf
    refine V_less (ls' := [none, none, some _]) ⟨rfl, trivial⟩ ?_
    exact s_J9_floorMod_7cf53_j18 hG hf hK
  · replace hf := iteF c7 hf
    refine V_iload_n d_J9_floorMod_7cf53_10 rfl rfl ?_
    refine V_if_eq (tgt := 18) d_J9_floorMod_7cf53_11 (by decide) (fun c11 => ?_) (fun c11 => ?_)
    · replace hf := iteT c11 hf
      refine V_less (ls' := [none, none, some _]) ⟨rfl, trivial⟩ ?_
      exact s_J9_floorMod_7cf53_j18 hG hf hK
    · replace hf := iteF c11 hf
      refine V_iload_n d_J9_floorMod_7cf53_14 rfl rfl ?_
      refine V_iload_n d_J9_floorMod_7cf53_15 rfl rfl ?_
      refine V_iadd d_J9_floorMod_7cf53_16 ?_
      cases hf
      exact R_i hK d_J9_floorMod_7cf53_17 (Nat.le_of_ble_eq_true rfl) (Nat.le_of_ble_eq_true rfl)
theorem s_J9_floorMod_7cf53 {G : Gl} (hG : G.1.stackTraces = false) {μ : Mem} {p0 : Int32} {p1 : Int32} {r : Int32} (hf : f_J9_floorMod_7cf53 μ p0 p1 = some r) : Rt G yJ9_floorMod_7cf53 F_J9_floorMod_7cf53 (some .int) [.int p0, .int p1] μ (some (.int r)) μ := fun n => Sd.ofJ hG ⟨by decide +kernel, rfl, rfl⟩ rfl (Nat.le_of_ble_eq_true rfl) rfl (fun C hK => s_J9_floorMod_7cf53_e hG hf hK)
theorem d_X1_rowAt_0 : decode F_X1_rowAt.2.1 0 = .ok (.aload_n 0, 1) := by decide +kernel
theorem d_X1_rowAt_1 : decode F_X1_rowAt.2.1 1 = .ok (.getfield 9, 3) := by decide +kernel
theorem d_X1_rowAt_4 : decode F_X1_rowAt.2.1 4 = .ok (.aload_n 0, 1) := by decide +kernel
theorem d_X1_rowAt_5 : decode F_X1_rowAt.2.1 5 = .ok (.getfield 15, 3) := by decide +kernel
theorem d_X1_rowAt_8 : decode F_X1_rowAt.2.1 8 = .ok (.iconst 1, 1) := by decide +kernel
theorem d_X1_rowAt_9 : decode F_X1_rowAt.2.1 9 = .ok (.isub, 1) := by decide +kernel
theorem d_X1_rowAt_10 : decode F_X1_rowAt.2.1 10 = .ok (.iload_n 1, 1) := by decide +kernel
theorem d_X1_rowAt_11 : decode F_X1_rowAt.2.1 11 = .ok (.isub, 1) := by decide +kernel
theorem d_X1_rowAt_12 : decode F_X1_rowAt.2.1 12 = .ok (.bipush 60, 2) := by decide +kernel
theorem d_X1_rowAt_14 : decode F_X1_rowAt.2.1 14 = .ok (.invokestatic 44, 3) := by decide +kernel
theorem d_X1_rowAt_17 : decode F_X1_rowAt.2.1 17 = .ok (.iaload, 1) := by decide +kernel
theorem d_X1_rowAt_18 : decode F_X1_rowAt.2.1 18 = .ok (.ireturn, 1) := by decide +kernel
def f_X1_rowAt (μ : Mem) (a0 : Nat) (p1 : Int32) : Option Int32 :=
Option.bind (f_J9_floorMod_7cf53 μ (((μ a0 1) - 1) - p1) 60) fun t1 =>
Option.bind (rd μ (a0 + 1) 60 t1) fun t2 =>
some t2
theorem s_X1_rowAt_e {G : Gl} (hG : G.1.stackTraces = false) {C : Cx} {n : Nat} {μ : Mem} {a0 : Nat} {p1 : Int32} (ha0 : a0 ∈ bookL) {r : Int32} (hf : f_X1_rowAt μ a0 p1 = some r) (hK : FinR G C F_X1_rowAt (some .int) (some (.int r)) μ) : V G C F_X1_rowAt 0 [some (.ref (G.2.1 + a0)), some (.int p1)] [] (pic G μ) n 0 0 := by
  unfold f_X1_rowAt at hf
  refine V_aload_n d_X1_rowAt_0 rfl rfl ?_
  refine B_get (kBook _ ha0) fl_RX1_9 d_X1_rowAt_1 g_1_0 ?_
  refine V_aload_n d_X1_rowAt_4 rfl rfl ?_
  refine B_get (kBook _ ha0) fl_RX1_15 d_X1_rowAt_5 g_1_1 ?_
  refine V_iconst (v := 1) d_X1_rowAt_8 ic_1 ?_
  refine V_isub d_X1_rowAt_9 ?_
  refine V_iload_n d_X1_rowAt_10 rfl rfl ?_
  refine V_isub d_X1_rowAt_11 ?_
  refine V_bipush (v := 60) d_X1_rowAt_12 bp_60 ?_
  obtain ⟨t1, ht1, hf⟩ := ob hf
  refine B_callS1 (s_J9_floorMod_7cf53 hG ht1) m_J9_floorMod_7cf53 ks_RX1_44 d_X1_rowAt_14 rfl (Nat.le_of_ble_eq_true rfl) ⟨rfl, rfl, Nat.le_of_ble_eq_true rfl, Nat.le_of_ble_eq_true rfl, Nat.le_of_ble_eq_true rfl⟩ (fun n => ?_)
  obtain ⟨t2, ht2, hf⟩ := ob hf
  refine B_iald (kBook_1 _ ha0) ht2 d_X1_rowAt_17 ?_
  cases hf
  exact R_i hK d_X1_rowAt_18 (Nat.le_of_ble_eq_true rfl) (Nat.le_of_ble_eq_true rfl)
theorem s_X1_rowAt {G : Gl} (hG : G.1.stackTraces = false) {μ : Mem} {a0 : Nat} {p1 : Int32} (ha0 : a0 ∈ bookL) {r : Int32} (hf : f_X1_rowAt μ a0 p1 = some r) : Rt G yX1_rowAt F_X1_rowAt (some .int) [.ref (G.2.1 + a0), .int p1] μ (some (.int r)) μ := fun n => Sd.of hG ⟨by decide +kernel, rfl, rfl⟩ rfl (Nat.le_of_ble_eq_true rfl) rfl (fun C hK => s_X1_rowAt_e hG ha0 hf hK)
theorem d_X1_dayAt_0 : decode F_X1_dayAt.2.1 0 = .ok (.aload_n 0, 1) := by decide +kernel
theorem d_X1_dayAt_1 : decode F_X1_dayAt.2.1 1 = .ok (.iload_n 1, 1) := by decide +kernel
theorem d_X1_dayAt_2 : decode F_X1_dayAt.2.1 2 = .ok (.invokevirtual 34, 3) := by decide +kernel
theorem d_X1_dayAt_5 : decode F_X1_dayAt.2.1 5 = .ok (.bipush 16, 2) := by decide +kernel
theorem d_X1_dayAt_7 : decode F_X1_dayAt.2.1 7 = .ok (.ishr, 1) := by decide +kernel
theorem d_X1_dayAt_8 : decode F_X1_dayAt.2.1 8 = .ok (.ireturn, 1) := by decide +kernel
def f_X1_dayAt (μ : Mem) (a0 : Nat) (p1 : Int32) : Option Int32 :=
Option.bind (f_X1_rowAt μ a0 p1) fun t1 =>
some (t1 >>> (16 &&& 31))
theorem s_X1_dayAt_e {G : Gl} (hG : G.1.stackTraces = false) {C : Cx} {n : Nat} {μ : Mem} {a0 : Nat} {p1 : Int32} (ha0 : a0 ∈ bookL) {r : Int32} (hf : f_X1_dayAt μ a0 p1 = some r) (hK : FinR G C F_X1_dayAt (some .int) (some (.int r)) μ) : V G C F_X1_dayAt 0 [some (.ref (G.2.1 + a0)), some (.int p1)] [] (pic G μ) n 0 0 := by
  unfold f_X1_dayAt at hf
  refine V_aload_n d_X1_dayAt_0 rfl rfl ?_
  refine V_iload_n d_X1_dayAt_1 rfl rfl ?_
  obtain ⟨t1, ht1, hf⟩ := ob hf
  refine B_callV1 (s_X1_rowAt hG ha0 ht1) (kBook _ ha0) clX1 m_X1_rowAt kv_RX1_34 d_X1_dayAt_2 rfl (Nat.le_of_ble_eq_true rfl) ⟨rfl, rfl, Nat.le_of_ble_eq_true rfl, Nat.le_of_ble_eq_true rfl, Nat.le_of_ble_eq_true rfl⟩ (fun n => ?_)
  refine V_bipush (v := 16) d_X1_dayAt_5 bp_16 ?_
  refine V_ishr d_X1_dayAt_7 ?_
  cases hf
  exact R_i hK d_X1_dayAt_8 (Nat.le_of_ble_eq_true rfl) (Nat.le_of_ble_eq_true rfl)
theorem s_X1_dayAt {G : Gl} (hG : G.1.stackTraces = false) {μ : Mem} {a0 : Nat} {p1 : Int32} (ha0 : a0 ∈ bookL) {r : Int32} (hf : f_X1_dayAt μ a0 p1 = some r) : Rt G yX1_dayAt F_X1_dayAt (some .int) [.ref (G.2.1 + a0), .int p1] μ (some (.int r)) μ := fun n => Sd.of hG ⟨by decide +kernel, rfl, rfl⟩ rfl (Nat.le_of_ble_eq_true rfl) rfl (fun C hK => s_X1_dayAt_e hG ha0 hf hK)
theorem d_X1_laceAt_0 : decode F_X1_laceAt.2.1 0 = .ok (.aload_n 0, 1) := by decide +kernel
theorem d_X1_laceAt_1 : decode F_X1_laceAt.2.1 1 = .ok (.iload_n 1, 1) := by decide +kernel
theorem d_X1_laceAt_2 : decode F_X1_laceAt.2.1 2 = .ok (.invokevirtual 34, 3) := by decide +kernel
theorem d_X1_laceAt_5 : decode F_X1_laceAt.2.1 5 = .ok (.bipush 12, 2) := by decide +kernel
theorem d_X1_laceAt_7 : decode F_X1_laceAt.2.1 7 = .ok (.ishr, 1) := by decide +kernel
theorem d_X1_laceAt_8 : decode F_X1_laceAt.2.1 8 = .ok (.bipush 15, 2) := by decide +kernel
theorem d_X1_laceAt_10 : decode F_X1_laceAt.2.1 10 = .ok (.iand, 1) := by decide +kernel
theorem d_X1_laceAt_11 : decode F_X1_laceAt.2.1 11 = .ok (.ireturn, 1) := by decide +kernel
def f_X1_laceAt (μ : Mem) (a0 : Nat) (p1 : Int32) : Option Int32 :=
Option.bind (f_X1_rowAt μ a0 p1) fun t1 =>
some ((t1 >>> (12 &&& 31)) &&& 15)
theorem s_X1_laceAt_e {G : Gl} (hG : G.1.stackTraces = false) {C : Cx} {n : Nat} {μ : Mem} {a0 : Nat} {p1 : Int32} (ha0 : a0 ∈ bookL) {r : Int32} (hf : f_X1_laceAt μ a0 p1 = some r) (hK : FinR G C F_X1_laceAt (some .int) (some (.int r)) μ) : V G C F_X1_laceAt 0 [some (.ref (G.2.1 + a0)), some (.int p1)] [] (pic G μ) n 0 0 := by
  unfold f_X1_laceAt at hf
  refine V_aload_n d_X1_laceAt_0 rfl rfl ?_
  refine V_iload_n d_X1_laceAt_1 rfl rfl ?_
  obtain ⟨t1, ht1, hf⟩ := ob hf
  refine B_callV1 (s_X1_rowAt hG ha0 ht1) (kBook _ ha0) clX1 m_X1_rowAt kv_RX1_34 d_X1_laceAt_2 rfl (Nat.le_of_ble_eq_true rfl) ⟨rfl, rfl, Nat.le_of_ble_eq_true rfl, Nat.le_of_ble_eq_true rfl, Nat.le_of_ble_eq_true rfl⟩ (fun n => ?_)
  refine V_bipush (v := 12) d_X1_laceAt_5 bp_12 ?_
  refine V_ishr d_X1_laceAt_7 ?_
  refine V_bipush (v := 15) d_X1_laceAt_8 bp_15 ?_
  refine V_iand d_X1_laceAt_10 ?_
  cases hf
  exact R_i hK d_X1_laceAt_11 (Nat.le_of_ble_eq_true rfl) (Nat.le_of_ble_eq_true rfl)
theorem s_X1_laceAt {G : Gl} (hG : G.1.stackTraces = false) {μ : Mem} {a0 : Nat} {p1 : Int32} (ha0 : a0 ∈ bookL) {r : Int32} (hf : f_X1_laceAt μ a0 p1 = some r) : Rt G yX1_laceAt F_X1_laceAt (some .int) [.ref (G.2.1 + a0), .int p1] μ (some (.int r)) μ := fun n => Sd.of hG ⟨by decide +kernel, rfl, rfl⟩ rfl (Nat.le_of_ble_eq_true rfl) rfl (fun C hK => s_X1_laceAt_e hG ha0 hf hK)
theorem d_X1_whatAt_0 : decode F_X1_whatAt.2.1 0 = .ok (.aload_n 0, 1) := by decide +kernel
theorem d_X1_whatAt_1 : decode F_X1_whatAt.2.1 1 = .ok (.iload_n 1, 1) := by decide +kernel
theorem d_X1_whatAt_2 : decode F_X1_whatAt.2.1 2 = .ok (.invokevirtual 34, 3) := by decide +kernel
theorem d_X1_whatAt_5 : decode F_X1_whatAt.2.1 5 = .ok (.bipush 10, 2) := by decide +kernel
theorem d_X1_whatAt_7 : decode F_X1_whatAt.2.1 7 = .ok (.ishr, 1) := by decide +kernel
theorem d_X1_whatAt_8 : decode F_X1_whatAt.2.1 8 = .ok (.iconst 3, 1) := by decide +kernel
theorem d_X1_whatAt_9 : decode F_X1_whatAt.2.1 9 = .ok (.iand, 1) := by decide +kernel
theorem d_X1_whatAt_10 : decode F_X1_whatAt.2.1 10 = .ok (.ireturn, 1) := by decide +kernel
def f_X1_whatAt (μ : Mem) (a0 : Nat) (p1 : Int32) : Option Int32 :=
Option.bind (f_X1_rowAt μ a0 p1) fun t1 =>
some ((t1 >>> (10 &&& 31)) &&& 3)
theorem s_X1_whatAt_e {G : Gl} (hG : G.1.stackTraces = false) {C : Cx} {n : Nat} {μ : Mem} {a0 : Nat} {p1 : Int32} (ha0 : a0 ∈ bookL) {r : Int32} (hf : f_X1_whatAt μ a0 p1 = some r) (hK : FinR G C F_X1_whatAt (some .int) (some (.int r)) μ) : V G C F_X1_whatAt 0 [some (.ref (G.2.1 + a0)), some (.int p1)] [] (pic G μ) n 0 0 := by
  unfold f_X1_whatAt at hf
  refine V_aload_n d_X1_whatAt_0 rfl rfl ?_
  refine V_iload_n d_X1_whatAt_1 rfl rfl ?_
  obtain ⟨t1, ht1, hf⟩ := ob hf
  refine B_callV1 (s_X1_rowAt hG ha0 ht1) (kBook _ ha0) clX1 m_X1_rowAt kv_RX1_34 d_X1_whatAt_2 rfl (Nat.le_of_ble_eq_true rfl) ⟨rfl, rfl, Nat.le_of_ble_eq_true rfl, Nat.le_of_ble_eq_true rfl, Nat.le_of_ble_eq_true rfl⟩ (fun n => ?_)
  refine V_bipush (v := 10) d_X1_whatAt_5 bp_10 ?_
  refine V_ishr d_X1_whatAt_7 ?_
  refine V_iconst (v := 3) d_X1_whatAt_8 ic_3 ?_
  refine V_iand d_X1_whatAt_9 ?_
  cases hf
  exact R_i hK d_X1_whatAt_10 (Nat.le_of_ble_eq_true rfl) (Nat.le_of_ble_eq_true rfl)
theorem s_X1_whatAt {G : Gl} (hG : G.1.stackTraces = false) {μ : Mem} {a0 : Nat} {p1 : Int32} (ha0 : a0 ∈ bookL) {r : Int32} (hf : f_X1_whatAt μ a0 p1 = some r) : Rt G yX1_whatAt F_X1_whatAt (some .int) [.ref (G.2.1 + a0), .int p1] μ (some (.int r)) μ := fun n => Sd.of hG ⟨by decide +kernel, rfl, rfl⟩ rfl (Nat.le_of_ble_eq_true rfl) rfl (fun C hK => s_X1_whatAt_e hG ha0 hf hK)
theorem d_X1_amountAt_0 : decode F_X1_amountAt.2.1 0 = .ok (.aload_n 0, 1) := by decide +kernel
theorem d_X1_amountAt_1 : decode F_X1_amountAt.2.1 1 = .ok (.iload_n 1, 1) := by decide +kernel
theorem d_X1_amountAt_2 : decode F_X1_amountAt.2.1 2 = .ok (.invokevirtual 34, 3) := by decide +kernel
theorem d_X1_amountAt_5 : decode F_X1_amountAt.2.1 5 = .ok (.sipush 1023, 3) := by decide +kernel
theorem d_X1_amountAt_8 : decode F_X1_amountAt.2.1 8 = .ok (.iand, 1) := by decide +kernel
theorem d_X1_amountAt_9 : decode F_X1_amountAt.2.1 9 = .ok (.ireturn, 1) := by decide +kernel
def f_X1_amountAt (μ : Mem) (a0 : Nat) (p1 : Int32) : Option Int32 :=
Option.bind (f_X1_rowAt μ a0 p1) fun t1 =>
some (t1 &&& 1023)
theorem s_X1_amountAt_e {G : Gl} (hG : G.1.stackTraces = false) {C : Cx} {n : Nat} {μ : Mem} {a0 : Nat} {p1 : Int32} (ha0 : a0 ∈ bookL) {r : Int32} (hf : f_X1_amountAt μ a0 p1 = some r) (hK : FinR G C F_X1_amountAt (some .int) (some (.int r)) μ) : V G C F_X1_amountAt 0 [some (.ref (G.2.1 + a0)), some (.int p1)] [] (pic G μ) n 0 0 := by
  unfold f_X1_amountAt at hf
  refine V_aload_n d_X1_amountAt_0 rfl rfl ?_
  refine V_iload_n d_X1_amountAt_1 rfl rfl ?_
  obtain ⟨t1, ht1, hf⟩ := ob hf
  refine B_callV1 (s_X1_rowAt hG ha0 ht1) (kBook _ ha0) clX1 m_X1_rowAt kv_RX1_34 d_X1_amountAt_2 rfl (Nat.le_of_ble_eq_true rfl) ⟨rfl, rfl, Nat.le_of_ble_eq_true rfl, Nat.le_of_ble_eq_true rfl, Nat.le_of_ble_eq_true rfl⟩ (fun n => ?_)
  refine V_sipush (v := 1023) d_X1_amountAt_5 sp_1023 ?_
  refine V_iand d_X1_amountAt_8 ?_
  cases hf
  exact R_i hK d_X1_amountAt_9 (Nat.le_of_ble_eq_true rfl) (Nat.le_of_ble_eq_true rfl)
theorem s_X1_amountAt {G : Gl} (hG : G.1.stackTraces = false) {μ : Mem} {a0 : Nat} {p1 : Int32} (ha0 : a0 ∈ bookL) {r : Int32} (hf : f_X1_amountAt μ a0 p1 = some r) : Rt G yX1_amountAt F_X1_amountAt (some .int) [.ref (G.2.1 + a0), .int p1] μ (some (.int r)) μ := fun n => Sd.of hG ⟨by decide +kernel, rfl, rfl⟩ rfl (Nat.le_of_ble_eq_true rfl) rfl (fun C hK => s_X1_amountAt_e hG ha0 hf hK)
theorem d_X1_rowsOf_0 : decode F_X1_rowsOf.2.1 0 = .ok (.iconst 0, 1) := by decide +kernel
theorem d_X1_rowsOf_1 : decode F_X1_rowsOf.2.1 1 = .ok (.istore_n 2, 1) := by decide +kernel
theorem d_X1_rowsOf_2 : decode F_X1_rowsOf.2.1 2 = .ok (.iconst 0, 1) := by decide +kernel
theorem d_X1_rowsOf_3 : decode F_X1_rowsOf.2.1 3 = .ok (.istore_n 3, 1) := by decide +kernel
theorem d_X1_rowsOf_4 : decode F_X1_rowsOf.2.1 4 = .ok (.iload_n 3, 1) := by decide +kernel
theorem d_X1_rowsOf_5 : decode F_X1_rowsOf.2.1 5 = .ok (.aload_n 0, 1) := by decide +kernel
theorem d_X1_rowsOf_6 : decode F_X1_rowsOf.2.1 6 = .ok (.getfield 19, 3) := by decide +kernel
theorem d_X1_rowsOf_9 : decode F_X1_rowsOf.2.1 9 = .ok (.if_icmp .ge 21, 3) := by decide +kernel
theorem d_X1_rowsOf_12 : decode F_X1_rowsOf.2.1 12 = .ok (.aload_n 0, 1) := by decide +kernel
theorem d_X1_rowsOf_13 : decode F_X1_rowsOf.2.1 13 = .ok (.iload_n 3, 1) := by decide +kernel
theorem d_X1_rowsOf_14 : decode F_X1_rowsOf.2.1 14 = .ok (.invokevirtual 38, 3) := by decide +kernel
theorem d_X1_rowsOf_17 : decode F_X1_rowsOf.2.1 17 = .ok (.iload_n 1, 1) := by decide +kernel
theorem d_X1_rowsOf_18 : decode F_X1_rowsOf.2.1 18 = .ok (.if_icmp .ne 6, 3) := by decide +kernel
theorem d_X1_rowsOf_21 : decode F_X1_rowsOf.2.1 21 = .ok (.iinc 2 1, 3) := by decide +kernel
theorem d_X1_rowsOf_24 : decode F_X1_rowsOf.2.1 24 = .ok (.iinc 3 1, 3) := by decide +kernel
theorem d_X1_rowsOf_27 : decode F_X1_rowsOf.2.1 27 = .ok (.goto (-23), 3) := by decide +kernel
theorem d_X1_rowsOf_30 : decode F_X1_rowsOf.2.1 30 = .ok (.iload_n 2, 1) := by decide +kernel
theorem d_X1_rowsOf_31 : decode F_X1_rowsOf.2.1 31 = .ok (.ireturn, 1) := by decide +kernel
def f_X1_rowsOf_b4 (μ : Mem) (a0 : Nat) (l1 : Int32) (l2 : Int32) (l3 : Int32) : Option ((Int32 × Int32) ⊕ Int32) :=
if (μ a0 2) ≤ l3 then
some (.inr l2)
else
Option.bind (f_X1_laceAt μ a0 l3) fun t1 =>
some (.inl ((if t1 = l1 then (l2 + 1) else l2), (l3 + 1)))
def f_X1_rowsOf_j30 (μ : Mem) (a0 : Nat) (l2 : Int32) : Option Int32 :=
some l2
def f_X1_rowsOf_l4 (μ : Mem) (a0 : Nat) (l1 : Int32) (l2 : Int32) (l3 : Int32) : Option Int32 := Option.bind (loopN 10000 (fun z : (Int32 × Int32) => f_X1_rowsOf_b4 μ a0 l1 z.1 z.2) (l2, l3)) fun t : Int32 => f_X1_rowsOf_j30 μ a0 t
def f_X1_rowsOf (μ : Mem) (a0 : Nat) (p1 : Int32) : Option Int32 :=
f_X1_rowsOf_l4 μ a0 p1 0 0
theorem s_X1_rowsOf_b4 {G : Gl} (hG : G.1.stackTraces = false) {C : Cx} {n : Nat} {μ : Mem} {a0 : Nat} {l1 : Int32} {l2 : Int32} {l3 : Int32} (ha0 : a0 ∈ bookL) {y : ((Int32 × Int32) ⊕ Int32)} (hf : f_X1_rowsOf_b4 μ a0 l1 l2 l3 = some y) (hK : (∀ z', y = .inl z' → ∀ n, V G C F_X1_rowsOf 4 [some (.ref (G.2.1 + a0)), some (.int l1), some (.int z'.1), some (.int z'.2)] [] (pic G μ) n 0 0) ∧ (∀ x', y = .inr x' → ∀ n, V G C F_X1_rowsOf 30 [none, none, some (.int x'), none] [] (pic G μ) n 0 0)) : V G C F_X1_rowsOf 4 [some (.ref (G.2.1 + a0)), some (.int l1), some (.int l2), some (.int l3)] [] (pic G μ) n 0 0 := by
  unfold f_X1_rowsOf_b4 at hf
  refine V_iload_n d_X1_rowsOf_4 rfl rfl ?_
  refine V_aload_n d_X1_rowsOf_5 rfl rfl ?_
  refine B_get (kBook _ ha0) fl_RX1_19 d_X1_rowsOf_6 g_1_2 ?_
  refine V_icmp_ge (tgt := 30) d_X1_rowsOf_9 (by decide) (fun c9 => ?_) (fun c9 => ?_)
  · replace hf := iteT c9 hf
    refine V_less (ls' := [none, none, some _, none]) ⟨rfl, trivial⟩ ?_
    cases hf
    exact hK.2 _ rfl _
  · replace hf := iteF c9 hf
    refine V_aload_n d_X1_rowsOf_12 rfl rfl ?_
    refine V_iload_n d_X1_rowsOf_13 rfl rfl ?_
    obtain ⟨t1, ht1, hf⟩ := ob hf
    refine B_callV1 (s_X1_laceAt hG ha0 ht1) (kBook _ ha0) clX1 m_X1_laceAt kv_RX1_38 d_X1_rowsOf_14 rfl (Nat.le_of_ble_eq_true rfl) ⟨rfl, rfl, Nat.le_of_ble_eq_true rfl, Nat.le_of_ble_eq_true rfl, Nat.le_of_ble_eq_true rfl⟩ (fun n => ?_)
    refine V_iload_n d_X1_rowsOf_17 rfl rfl ?_
    have hJj2 : ∀ j2 : Int32, j2 = (if t1 = l1 then (l2 + 1) else l2) → V G C F_X1_rowsOf 24 [some (.ref (G.2.1 + a0)), some (.int l1), some (.int j2), some (.int l3)] [] (pic G μ) n 0 0 := by
      intro j2 ej2
      subst ej2
      refine V_iinc (v := (l3 + 1)) (ls' := [_, _, _, _]) d_X1_rowsOf_24 rfl (by rw [ic_1]) rfl ?_
      refine V_goto (tgt := 4) d_X1_rowsOf_27 (by decide) ?_
      refine V_less (ls' := [some _, some _, some _, some _]) ⟨rfl, rfl, rfl, rfl, trivial⟩ ?_
      cases hf
      exact hK.1 _ rfl _
    refine V_icmp_ne (tgt := 24) d_X1_rowsOf_18 (by decide) (fun c18 => ?_) (fun c18 => ?_)
    · refine V_less (ls' := [some _, some _, some _, some _]) ⟨rfl, rfl, rfl, rfl, trivial⟩ ?_
      exact hJj2 l2 (by rw [if_neg c18])
    · refine V_iinc (v := (l2 + 1)) (ls' := [_, _, _, _]) d_X1_rowsOf_21 rfl (by rw [ic_1]) rfl ?_
      refine V_less (ls' := [some _, some _, some _, some _]) ⟨rfl, rfl, rfl, rfl, trivial⟩ ?_
      exact hJj2 (l2 + 1) (by rw [if_pos c18])
theorem s_X1_rowsOf_j30 {G : Gl} (hG : G.1.stackTraces = false) {C : Cx} {n : Nat} {μ : Mem} {a0 : Nat} {l2 : Int32} (ha0 : a0 ∈ bookL) {r : Int32} (hf : f_X1_rowsOf_j30 μ a0 l2 = some r) (hK : FinR G C F_X1_rowsOf (some .int) (some (.int r)) μ) : V G C F_X1_rowsOf 30 [none, none, some (.int l2), none] [] (pic G μ) n 0 0 := by
  unfold f_X1_rowsOf_j30 at hf
  refine V_iload_n d_X1_rowsOf_30 rfl rfl ?_
  cases hf
  exact R_i hK d_X1_rowsOf_31 (Nat.le_of_ble_eq_true rfl) (Nat.le_of_ble_eq_true rfl)
theorem s_X1_rowsOf_l4 {G : Gl} (hG : G.1.stackTraces = false) {C : Cx} {n : Nat} {μ : Mem} {a0 : Nat} {l1 : Int32} {l2 : Int32} {l3 : Int32} (ha0 : a0 ∈ bookL) {r : Int32} (hf : f_X1_rowsOf_l4 μ a0 l1 l2 l3 = some r) (hK : FinR G C F_X1_rowsOf (some .int) (some (.int r)) μ) : V G C F_X1_rowsOf 4 [some (.ref (G.2.1 + a0)), some (.int l1), some (.int l2), some (.int l3)] [] (pic G μ) n 0 0 := by
  unfold f_X1_rowsOf_l4 at hf
  obtain ⟨t, hl, hf⟩ := ob hf
  refine loopV (P := fun z => ∀ n, V G C F_X1_rowsOf 4 [some (.ref (G.2.1 + a0)), some (.int l1), some (.int z.1), some (.int z.2)] [] (pic G μ) n 0 0) (t := t) ?_ _ _ hl n
  intro z y' hy hI hT n
  refine s_X1_rowsOf_b4 hG ha0 hy ⟨hI, fun x9 ex => ?_⟩
  have ex2 := hT x9 ex
  subst ex2
  intro n
  exact s_X1_rowsOf_j30 hG ha0 hf hK
theorem s_X1_rowsOf_e {G : Gl} (hG : G.1.stackTraces = false) {C : Cx} {n : Nat} {μ : Mem} {a0 : Nat} {p1 : Int32} (ha0 : a0 ∈ bookL) {r : Int32} (hf : f_X1_rowsOf μ a0 p1 = some r) (hK : FinR G C F_X1_rowsOf (some .int) (some (.int r)) μ) : V G C F_X1_rowsOf 0 [some (.ref (G.2.1 + a0)), some (.int p1), none, none] [] (pic G μ) n 0 0 := by
  unfold f_X1_rowsOf at hf
  refine V_iconst (v := 0) d_X1_rowsOf_0 ic_0 ?_
  refine V_istore_n (ls' := [_, _, _, _]) d_X1_rowsOf_1 rfl rfl rfl ?_
  refine V_iconst (v := 0) d_X1_rowsOf_2 ic_0 ?_
  refine V_istore_n (ls' := [_, _, _, _]) d_X1_rowsOf_3 rfl rfl rfl ?_
  refine V_less (ls' := [some _, some _, some _, some _]) ⟨rfl, rfl, rfl, rfl, trivial⟩ ?_
  exact s_X1_rowsOf_l4 hG ha0 hf hK
theorem s_X1_rowsOf {G : Gl} (hG : G.1.stackTraces = false) {μ : Mem} {a0 : Nat} {p1 : Int32} (ha0 : a0 ∈ bookL) {r : Int32} (hf : f_X1_rowsOf μ a0 p1 = some r) : Rt G yX1_rowsOf F_X1_rowsOf (some .int) [.ref (G.2.1 + a0), .int p1] μ (some (.int r)) μ := fun n => Sd.of hG ⟨by decide +kernel, rfl, rfl⟩ rfl (Nat.le_of_ble_eq_true rfl) rfl (fun C hK => s_X1_rowsOf_e hG ha0 hf hK)
theorem d_X1_latestDayOf_0 : decode F_X1_latestDayOf.2.1 0 = .ok (.iconst 0, 1) := by decide +kernel
theorem d_X1_latestDayOf_1 : decode F_X1_latestDayOf.2.1 1 = .ok (.istore_n 2, 1) := by decide +kernel
theorem d_X1_latestDayOf_2 : decode F_X1_latestDayOf.2.1 2 = .ok (.iload_n 2, 1) := by decide +kernel
theorem d_X1_latestDayOf_3 : decode F_X1_latestDayOf.2.1 3 = .ok (.aload_n 0, 1) := by decide +kernel
theorem d_X1_latestDayOf_4 : decode F_X1_latestDayOf.2.1 4 = .ok (.getfield 19, 3) := by decide +kernel
theorem d_X1_latestDayOf_7 : decode F_X1_latestDayOf.2.1 7 = .ok (.if_icmp .ge 24, 3) := by decide +kernel
theorem d_X1_latestDayOf_10 : decode F_X1_latestDayOf.2.1 10 = .ok (.aload_n 0, 1) := by decide +kernel
theorem d_X1_latestDayOf_11 : decode F_X1_latestDayOf.2.1 11 = .ok (.iload_n 2, 1) := by decide +kernel
theorem d_X1_latestDayOf_12 : decode F_X1_latestDayOf.2.1 12 = .ok (.invokevirtual 38, 3) := by decide +kernel
theorem d_X1_latestDayOf_15 : decode F_X1_latestDayOf.2.1 15 = .ok (.iload_n 1, 1) := by decide +kernel
theorem d_X1_latestDayOf_16 : decode F_X1_latestDayOf.2.1 16 = .ok (.if_icmp .ne 9, 3) := by decide +kernel
theorem d_X1_latestDayOf_19 : decode F_X1_latestDayOf.2.1 19 = .ok (.aload_n 0, 1) := by decide +kernel
theorem d_X1_latestDayOf_20 : decode F_X1_latestDayOf.2.1 20 = .ok (.iload_n 2, 1) := by decide +kernel
theorem d_X1_latestDayOf_21 : decode F_X1_latestDayOf.2.1 21 = .ok (.invokevirtual 41, 3) := by decide +kernel
theorem d_X1_latestDayOf_24 : decode F_X1_latestDayOf.2.1 24 = .ok (.ireturn, 1) := by decide +kernel
theorem d_X1_latestDayOf_25 : decode F_X1_latestDayOf.2.1 25 = .ok (.iinc 2 1, 3) := by decide +kernel
theorem d_X1_latestDayOf_28 : decode F_X1_latestDayOf.2.1 28 = .ok (.goto (-26), 3) := by decide +kernel
theorem d_X1_latestDayOf_31 : decode F_X1_latestDayOf.2.1 31 = .ok (.iconst (-1), 1) := by decide +kernel
theorem d_X1_latestDayOf_32 : decode F_X1_latestDayOf.2.1 32 = .ok (.ireturn, 1) := by decide +kernel
def f_X1_latestDayOf_b2 (μ : Mem) (a0 : Nat) (l1 : Int32) (l2 : Int32) : Option (Int32 ⊕ (Unit ⊕ Int32)) :=
if (μ a0 2) ≤ l2 then
some (.inr (.inl ()))
else
Option.bind (f_X1_laceAt μ a0 l2) fun t1 =>
if t1 = l1 then
Option.bind (f_X1_dayAt μ a0 l2) fun t2 =>
some (.inr (.inr t2))
else
some (.inl (l2 + 1))
def f_X1_latestDayOf_j31 (μ : Mem) (a0 : Nat) : Option Int32 :=
some (-1)
def f_X1_latestDayOf_l2 (μ : Mem) (a0 : Nat) (l1 : Int32) (l2 : Int32) : Option Int32 := Option.bind (loopN 10000 (fun z : Int32 => f_X1_latestDayOf_b2 μ a0 l1 z) l2) fun t : (Unit ⊕ Int32) => Sum.elim (fun e => f_X1_latestDayOf_j31 μ a0) (fun x => some x) t
def f_X1_latestDayOf (μ : Mem) (a0 : Nat) (p1 : Int32) : Option Int32 :=
f_X1_latestDayOf_l2 μ a0 p1 0
theorem s_X1_latestDayOf_b2 {G : Gl} (hG : G.1.stackTraces = false) {C : Cx} {n : Nat} {μ : Mem} {a0 : Nat} {l1 : Int32} {l2 : Int32} (ha0 : a0 ∈ bookL) {y : (Int32 ⊕ (Unit ⊕ Int32))} (hf : f_X1_latestDayOf_b2 μ a0 l1 l2 = some y) (hK : (∀ z', y = .inl z' → ∀ n, V G C F_X1_latestDayOf 2 [some (.ref (G.2.1 + a0)), some (.int l1), some (.int z')] [] (pic G μ) n 0 0) ∧ (∀ x', y = .inr x' → ((∀ x'', x' = .inl x'' → ∀ n, V G C F_X1_latestDayOf 31 [none, none, none] [] (pic G μ) n 0 0) ∧ (∀ x''', x' = .inr x''' → FinR G C F_X1_latestDayOf (some .int) (some (.int x''')) μ)))) : V G C F_X1_latestDayOf 2 [some (.ref (G.2.1 + a0)), some (.int l1), some (.int l2)] [] (pic G μ) n 0 0 := by
  unfold f_X1_latestDayOf_b2 at hf
  refine V_iload_n d_X1_latestDayOf_2 rfl rfl ?_
  refine V_aload_n d_X1_latestDayOf_3 rfl rfl ?_
  refine B_get (kBook _ ha0) fl_RX1_19 d_X1_latestDayOf_4 g_1_2 ?_
  refine V_icmp_ge (tgt := 31) d_X1_latestDayOf_7 (by decide) (fun c7 => ?_) (fun c7 => ?_)
  · replace hf := iteT c7 hf
    refine V_less (ls' := [none, none, none]) trivial ?_
    cases hf
    exact (hK.2 _ rfl).1 _ rfl _
  · replace hf := iteF c7 hf
    refine V_aload_n d_X1_latestDayOf_10 rfl rfl ?_
    refine V_iload_n d_X1_latestDayOf_11 rfl rfl ?_
    obtain ⟨t1, ht1, hf⟩ := ob hf
    refine B_callV1 (s_X1_laceAt hG ha0 ht1) (kBook _ ha0) clX1 m_X1_laceAt kv_RX1_38 d_X1_latestDayOf_12 rfl (Nat.le_of_ble_eq_true rfl) ⟨rfl, rfl, Nat.le_of_ble_eq_true rfl, Nat.le_of_ble_eq_true rfl, Nat.le_of_ble_eq_true rfl⟩ (fun n => ?_)
    refine V_iload_n d_X1_latestDayOf_15 rfl rfl ?_
    refine V_icmp_ne (tgt := 25) d_X1_latestDayOf_16 (by decide) (fun c16 => ?_) (fun c16 => ?_)
    · replace hf := iteF c16 hf
      refine V_iinc (v := (l2 + 1)) (ls' := [_, _, _]) d_X1_latestDayOf_25 rfl (by rw [ic_1]) rfl ?_
      refine V_goto (tgt := 2) d_X1_latestDayOf_28 (by decide) ?_
      refine V_less (ls' := [some _, some _, some _]) ⟨rfl, rfl, rfl, trivial⟩ ?_
      cases hf
      exact hK.1 _ rfl _
    · replace hf := iteT c16 hf
      refine V_aload_n d_X1_latestDayOf_19 rfl rfl ?_
      refine V_iload_n d_X1_latestDayOf_20 rfl rfl ?_
      obtain ⟨t2, ht2, hf⟩ := ob hf
      refine B_callV1 (s_X1_dayAt hG ha0 ht2) (kBook _ ha0) clX1 m_X1_dayAt kv_RX1_41 d_X1_latestDayOf_21 rfl (Nat.le_of_ble_eq_true rfl) ⟨rfl, rfl, Nat.le_of_ble_eq_true rfl, Nat.le_of_ble_eq_true rfl, Nat.le_of_ble_eq_true rfl⟩ (fun n => ?_)
      cases hf
      exact R_i ((hK.2 _ rfl).2 _ rfl) d_X1_latestDayOf_24 (Nat.le_of_ble_eq_true rfl) (Nat.le_of_ble_eq_true rfl)
theorem s_X1_latestDayOf_j31 {G : Gl} (hG : G.1.stackTraces = false) {C : Cx} {n : Nat} {μ : Mem} {a0 : Nat} (ha0 : a0 ∈ bookL) {r : Int32} (hf : f_X1_latestDayOf_j31 μ a0 = some r) (hK : FinR G C F_X1_latestDayOf (some .int) (some (.int r)) μ) : V G C F_X1_latestDayOf 31 [none, none, none] [] (pic G μ) n 0 0 := by
  unfold f_X1_latestDayOf_j31 at hf
  refine V_iconst (v := (-1)) d_X1_latestDayOf_31 ic_m1 ?_
  cases hf
  exact R_i hK d_X1_latestDayOf_32 (Nat.le_of_ble_eq_true rfl) (Nat.le_of_ble_eq_true rfl)
theorem s_X1_latestDayOf_l2 {G : Gl} (hG : G.1.stackTraces = false) {C : Cx} {n : Nat} {μ : Mem} {a0 : Nat} {l1 : Int32} {l2 : Int32} (ha0 : a0 ∈ bookL) {r : Int32} (hf : f_X1_latestDayOf_l2 μ a0 l1 l2 = some r) (hK : FinR G C F_X1_latestDayOf (some .int) (some (.int r)) μ) : V G C F_X1_latestDayOf 2 [some (.ref (G.2.1 + a0)), some (.int l1), some (.int l2)] [] (pic G μ) n 0 0 := by
  unfold f_X1_latestDayOf_l2 at hf
  obtain ⟨t, hl, hf⟩ := ob hf
  refine loopV (P := fun z => ∀ n, V G C F_X1_latestDayOf 2 [some (.ref (G.2.1 + a0)), some (.int l1), some (.int z)] [] (pic G μ) n 0 0) (t := t) ?_ _ _ hl n
  intro z y' hy hI hT n
  refine s_X1_latestDayOf_b2 hG ha0 hy ⟨hI, fun x9 ex => ?_⟩
  have ex2 := hT x9 ex
  subst ex2
  refine ⟨fun e he => ?_, fun x2 hx => ?_⟩
  · subst he
    intro n
    exact s_X1_latestDayOf_j31 hG ha0 hf hK
  · subst hx
    cases hf
    exact hK
theorem s_X1_latestDayOf_e {G : Gl} (hG : G.1.stackTraces = false) {C : Cx} {n : Nat} {μ : Mem} {a0 : Nat} {p1 : Int32} (ha0 : a0 ∈ bookL) {r : Int32} (hf : f_X1_latestDayOf μ a0 p1 = some r) (hK : FinR G C F_X1_latestDayOf (some .int) (some (.int r)) μ) : V G C F_X1_latestDayOf 0 [some (.ref (G.2.1 + a0)), some (.int p1), none] [] (pic G μ) n 0 0 := by
  unfold f_X1_latestDayOf at hf
  refine V_iconst (v := 0) d_X1_latestDayOf_0 ic_0 ?_
  refine V_istore_n (ls' := [_, _, _]) d_X1_latestDayOf_1 rfl rfl rfl ?_
  refine V_less (ls' := [some _, some _, some _]) ⟨rfl, rfl, rfl, trivial⟩ ?_
  exact s_X1_latestDayOf_l2 hG ha0 hf hK
theorem s_X1_latestDayOf {G : Gl} (hG : G.1.stackTraces = false) {μ : Mem} {a0 : Nat} {p1 : Int32} (ha0 : a0 ∈ bookL) {r : Int32} (hf : f_X1_latestDayOf μ a0 p1 = some r) : Rt G yX1_latestDayOf F_X1_latestDayOf (some .int) [.ref (G.2.1 + a0), .int p1] μ (some (.int r)) μ := fun n => Sd.of hG ⟨by decide +kernel, rfl, rfl⟩ rfl (Nat.le_of_ble_eq_true rfl) rfl (fun C hK => s_X1_latestDayOf_e hG ha0 hf hK)
theorem d_X2_letGo_0 : decode F_X2_letGo.2.1 0 = .ok (.aload_n 0, 1) := by decide +kernel
theorem d_X2_letGo_1 : decode F_X2_letGo.2.1 1 = .ok (.getfield 46, 3) := by decide +kernel
theorem d_X2_letGo_4 : decode F_X2_letGo.2.1 4 = .ok (.iload_n 1, 1) := by decide +kernel
theorem d_X2_letGo_5 : decode F_X2_letGo.2.1 5 = .ok (.iload_n 2, 1) := by decide +kernel
theorem d_X2_letGo_6 : decode F_X2_letGo.2.1 6 = .ok (.iastore, 1) := by decide +kernel
theorem d_X2_letGo_7 : decode F_X2_letGo.2.1 7 = .ok (.aload_n 0, 1) := by decide +kernel
theorem d_X2_letGo_8 : decode F_X2_letGo.2.1 8 = .ok (.getfield 49, 3) := by decide +kernel
theorem d_X2_letGo_11 : decode F_X2_letGo.2.1 11 = .ok (.iload_n 1, 1) := by decide +kernel
theorem d_X2_letGo_12 : decode F_X2_letGo.2.1 12 = .ok (.iload_n 3, 1) := by decide +kernel
theorem d_X2_letGo_13 : decode F_X2_letGo.2.1 13 = .ok (.iastore, 1) := by decide +kernel
theorem d_X2_letGo_14 : decode F_X2_letGo.2.1 14 = .ok (.aload_n 0, 1) := by decide +kernel
theorem d_X2_letGo_15 : decode F_X2_letGo.2.1 15 = .ok (.getfield 52, 3) := by decide +kernel
theorem d_X2_letGo_18 : decode F_X2_letGo.2.1 18 = .ok (.iload_n 1, 1) := by decide +kernel
theorem d_X2_letGo_19 : decode F_X2_letGo.2.1 19 = .ok (.iconst 0, 1) := by decide +kernel
theorem d_X2_letGo_20 : decode F_X2_letGo.2.1 20 = .ok (.iastore, 1) := by decide +kernel
theorem d_X2_letGo_21 : decode F_X2_letGo.2.1 21 = .ok (.aload_n 0, 1) := by decide +kernel
theorem d_X2_letGo_22 : decode F_X2_letGo.2.1 22 = .ok (.getfield 55, 3) := by decide +kernel
theorem d_X2_letGo_25 : decode F_X2_letGo.2.1 25 = .ok (.iload_n 1, 1) := by decide +kernel
theorem d_X2_letGo_26 : decode F_X2_letGo.2.1 26 = .ok (.iconst 0, 1) := by decide +kernel
theorem d_X2_letGo_27 : decode F_X2_letGo.2.1 27 = .ok (.iastore, 1) := by decide +kernel
theorem d_X2_letGo_28 : decode F_X2_letGo.2.1 28 = .ok (.aload_n 0, 1) := by decide +kernel
theorem d_X2_letGo_29 : decode F_X2_letGo.2.1 29 = .ok (.getfield 58, 3) := by decide +kernel
theorem d_X2_letGo_32 : decode F_X2_letGo.2.1 32 = .ok (.iload_n 1, 1) := by decide +kernel
theorem d_X2_letGo_33 : decode F_X2_letGo.2.1 33 = .ok (.iconst 0, 1) := by decide +kernel
theorem d_X2_letGo_34 : decode F_X2_letGo.2.1 34 = .ok (.iastore, 1) := by decide +kernel
theorem d_X2_letGo_35 : decode F_X2_letGo.2.1 35 = .ok (.aload_n 0, 1) := by decide +kernel
theorem d_X2_letGo_36 : decode F_X2_letGo.2.1 36 = .ok (.getfield 61, 3) := by decide +kernel
theorem d_X2_letGo_39 : decode F_X2_letGo.2.1 39 = .ok (.iload_n 1, 1) := by decide +kernel
theorem d_X2_letGo_40 : decode F_X2_letGo.2.1 40 = .ok (.iconst (-1), 1) := by decide +kernel
theorem d_X2_letGo_41 : decode F_X2_letGo.2.1 41 = .ok (.iastore, 1) := by decide +kernel
theorem d_X2_letGo_42 : decode F_X2_letGo.2.1 42 = .ok (.return_, 1) := by decide +kernel
def f_X2_letGo (μ : Mem) (a0 : Nat) (p1 : Int32) (p2 : Int32) (p3 : Int32) : Option Mem :=
Option.bind (wr μ (a0 + 6) 12 p1 p2) fun μ1 =>
Option.bind (wr μ1 (a0 + 7) 12 p1 p3) fun μ2 =>
Option.bind (wr μ2 (a0 + 8) 12 p1 0) fun μ3 =>
Option.bind (wr μ3 (a0 + 9) 12 p1 0) fun μ4 =>
Option.bind (wr μ4 (a0 + 10) 12 p1 0) fun μ5 =>
Option.bind (wr μ5 (a0 + 11) 12 p1 (-1)) fun μ6 =>
some μ6
theorem s_X2_letGo_e {G : Gl} (hG : G.1.stackTraces = false) {C : Cx} {n : Nat} {μ : Mem} {a0 : Nat} {p1 : Int32} {p2 : Int32} {p3 : Int32} (ha0 : a0 ∈ landL) {r : Mem} (hf : f_X2_letGo μ a0 p1 p2 p3 = some r) (hK : FinR G C F_X2_letGo none none r) : V G C F_X2_letGo 0 [some (.ref (G.2.1 + a0)), some (.int p1), some (.int p2), some (.int p3)] [] (pic G μ) n 0 0 := by
  unfold f_X2_letGo at hf
  refine V_aload_n d_X2_letGo_0 rfl rfl ?_
  refine B_get (kLand _ ha0) fl_RX2_46 d_X2_letGo_1 g_2_11 ?_
  refine V_iload_n d_X2_letGo_4 rfl rfl ?_
  refine V_iload_n d_X2_letGo_5 rfl rfl ?_
  obtain ⟨μ1, hμ1, hf⟩ := ob hf
  refine B_iast (kLand_6 _ ha0) hμ1 d_X2_letGo_6 ?_
  refine V_aload_n d_X2_letGo_7 rfl rfl ?_
  refine B_get (kLand _ ha0) fl_RX2_49 d_X2_letGo_8 g_2_12 ?_
  refine V_iload_n d_X2_letGo_11 rfl rfl ?_
  refine V_iload_n d_X2_letGo_12 rfl rfl ?_
  obtain ⟨μ2, hμ2, hf⟩ := ob hf
  refine B_iast (kLand_7 _ ha0) hμ2 d_X2_letGo_13 ?_
  refine V_aload_n d_X2_letGo_14 rfl rfl ?_
  refine B_get (kLand _ ha0) fl_RX2_52 d_X2_letGo_15 g_2_13 ?_
  refine V_iload_n d_X2_letGo_18 rfl rfl ?_
  refine V_iconst (v := 0) d_X2_letGo_19 ic_0 ?_
  obtain ⟨μ3, hμ3, hf⟩ := ob hf
  refine B_iast (kLand_8 _ ha0) hμ3 d_X2_letGo_20 ?_
  refine V_aload_n d_X2_letGo_21 rfl rfl ?_
  refine B_get (kLand _ ha0) fl_RX2_55 d_X2_letGo_22 g_2_14 ?_
  refine V_iload_n d_X2_letGo_25 rfl rfl ?_
  refine V_iconst (v := 0) d_X2_letGo_26 ic_0 ?_
  obtain ⟨μ4, hμ4, hf⟩ := ob hf
  refine B_iast (kLand_9 _ ha0) hμ4 d_X2_letGo_27 ?_
  refine V_aload_n d_X2_letGo_28 rfl rfl ?_
  refine B_get (kLand _ ha0) fl_RX2_58 d_X2_letGo_29 g_2_15 ?_
  refine V_iload_n d_X2_letGo_32 rfl rfl ?_
  refine V_iconst (v := 0) d_X2_letGo_33 ic_0 ?_
  obtain ⟨μ5, hμ5, hf⟩ := ob hf
  refine B_iast (kLand_10 _ ha0) hμ5 d_X2_letGo_34 ?_
  refine V_aload_n d_X2_letGo_35 rfl rfl ?_
  refine B_get (kLand _ ha0) fl_RX2_61 d_X2_letGo_36 g_2_16 ?_
  refine V_iload_n d_X2_letGo_39 rfl rfl ?_
  refine V_iconst (v := (-1)) d_X2_letGo_40 ic_m1 ?_
  obtain ⟨μ6, hμ6, hf⟩ := ob hf
  refine B_iast (kLand_11 _ ha0) hμ6 d_X2_letGo_41 ?_
  cases hf
  exact R_v hK d_X2_letGo_42 (Nat.le_of_ble_eq_true rfl) (Nat.le_of_ble_eq_true rfl)
theorem s_X2_letGo {G : Gl} (hG : G.1.stackTraces = false) {μ : Mem} {a0 : Nat} {p1 : Int32} {p2 : Int32} {p3 : Int32} (ha0 : a0 ∈ landL) {r : Mem} (hf : f_X2_letGo μ a0 p1 p2 p3 = some r) : Rt G yX2_letGo F_X2_letGo none [.ref (G.2.1 + a0), .int p1, .int p2, .int p3] μ none r := fun n => Sd.of hG ⟨by decide +kernel, rfl, rfl⟩ rfl (Nat.le_of_ble_eq_true rfl) rfl (fun C hK => s_X2_letGo_e hG ha0 hf hK)
theorem d_X2_addPerson_0 : decode F_X2_addPerson.2.1 0 = .ok (.aload_n 0, 1) := by decide +kernel
theorem d_X2_addPerson_1 : decode F_X2_addPerson.2.1 1 = .ok (.getfield 30, 3) := by decide +kernel
theorem d_X2_addPerson_4 : decode F_X2_addPerson.2.1 4 = .ok (.aload_n 0, 1) := by decide +kernel
theorem d_X2_addPerson_5 : decode F_X2_addPerson.2.1 5 = .ok (.getfield 9, 3) := by decide +kernel
theorem d_X2_addPerson_8 : decode F_X2_addPerson.2.1 8 = .ok (.iload_n 1, 1) := by decide +kernel
theorem d_X2_addPerson_9 : decode F_X2_addPerson.2.1 9 = .ok (.iastore, 1) := by decide +kernel
theorem d_X2_addPerson_10 : decode F_X2_addPerson.2.1 10 = .ok (.aload_n 0, 1) := by decide +kernel
theorem d_X2_addPerson_11 : decode F_X2_addPerson.2.1 11 = .ok (.getfield 34, 3) := by decide +kernel
theorem d_X2_addPerson_14 : decode F_X2_addPerson.2.1 14 = .ok (.aload_n 0, 1) := by decide +kernel
theorem d_X2_addPerson_15 : decode F_X2_addPerson.2.1 15 = .ok (.getfield 9, 3) := by decide +kernel
theorem d_X2_addPerson_18 : decode F_X2_addPerson.2.1 18 = .ok (.iload_n 2, 1) := by decide +kernel
theorem d_X2_addPerson_19 : decode F_X2_addPerson.2.1 19 = .ok (.iastore, 1) := by decide +kernel
theorem d_X2_addPerson_20 : decode F_X2_addPerson.2.1 20 = .ok (.aload_n 0, 1) := by decide +kernel
theorem d_X2_addPerson_21 : decode F_X2_addPerson.2.1 21 = .ok (.getfield 37, 3) := by decide +kernel
theorem d_X2_addPerson_24 : decode F_X2_addPerson.2.1 24 = .ok (.aload_n 0, 1) := by decide +kernel
theorem d_X2_addPerson_25 : decode F_X2_addPerson.2.1 25 = .ok (.getfield 9, 3) := by decide +kernel
theorem d_X2_addPerson_28 : decode F_X2_addPerson.2.1 28 = .ok (.iload_n 3, 1) := by decide +kernel
theorem d_X2_addPerson_29 : decode F_X2_addPerson.2.1 29 = .ok (.iastore, 1) := by decide +kernel
theorem d_X2_addPerson_30 : decode F_X2_addPerson.2.1 30 = .ok (.aload_n 0, 1) := by decide +kernel
theorem d_X2_addPerson_31 : decode F_X2_addPerson.2.1 31 = .ok (.getfield 40, 3) := by decide +kernel
theorem d_X2_addPerson_34 : decode F_X2_addPerson.2.1 34 = .ok (.aload_n 0, 1) := by decide +kernel
theorem d_X2_addPerson_35 : decode F_X2_addPerson.2.1 35 = .ok (.getfield 9, 3) := by decide +kernel
theorem d_X2_addPerson_38 : decode F_X2_addPerson.2.1 38 = .ok (.iload_n 3, 1) := by decide +kernel
theorem d_X2_addPerson_39 : decode F_X2_addPerson.2.1 39 = .ok (.iastore, 1) := by decide +kernel
theorem d_X2_addPerson_40 : decode F_X2_addPerson.2.1 40 = .ok (.aload_n 0, 1) := by decide +kernel
theorem d_X2_addPerson_41 : decode F_X2_addPerson.2.1 41 = .ok (.getfield 43, 3) := by decide +kernel
theorem d_X2_addPerson_44 : decode F_X2_addPerson.2.1 44 = .ok (.aload_n 0, 1) := by decide +kernel
theorem d_X2_addPerson_45 : decode F_X2_addPerson.2.1 45 = .ok (.getfield 9, 3) := by decide +kernel
theorem d_X2_addPerson_48 : decode F_X2_addPerson.2.1 48 = .ok (.iconst 0, 1) := by decide +kernel
theorem d_X2_addPerson_49 : decode F_X2_addPerson.2.1 49 = .ok (.iastore, 1) := by decide +kernel
theorem d_X2_addPerson_50 : decode F_X2_addPerson.2.1 50 = .ok (.aload_n 0, 1) := by decide +kernel
theorem d_X2_addPerson_51 : decode F_X2_addPerson.2.1 51 = .ok (.iconst 2, 1) := by decide +kernel
theorem d_X2_addPerson_52 : decode F_X2_addPerson.2.1 52 = .ok (.aload_n 0, 1) := by decide +kernel
theorem d_X2_addPerson_53 : decode F_X2_addPerson.2.1 53 = .ok (.getfield 9, 3) := by decide +kernel
theorem d_X2_addPerson_56 : decode F_X2_addPerson.2.1 56 = .ok (.imul, 1) := by decide +kernel
theorem d_X2_addPerson_57 : decode F_X2_addPerson.2.1 57 = .ok (.iconst 0, 1) := by decide +kernel
theorem d_X2_addPerson_58 : decode F_X2_addPerson.2.1 58 = .ok (.iconst (-1), 1) := by decide +kernel
theorem d_X2_addPerson_59 : decode F_X2_addPerson.2.1 59 = .ok (.invokevirtual 84, 3) := by decide +kernel
theorem d_X2_addPerson_62 : decode F_X2_addPerson.2.1 62 = .ok (.aload_n 0, 1) := by decide +kernel
theorem d_X2_addPerson_63 : decode F_X2_addPerson.2.1 63 = .ok (.iconst 2, 1) := by decide +kernel
theorem d_X2_addPerson_64 : decode F_X2_addPerson.2.1 64 = .ok (.aload_n 0, 1) := by decide +kernel
theorem d_X2_addPerson_65 : decode F_X2_addPerson.2.1 65 = .ok (.getfield 9, 3) := by decide +kernel
theorem d_X2_addPerson_68 : decode F_X2_addPerson.2.1 68 = .ok (.imul, 1) := by decide +kernel
theorem d_X2_addPerson_69 : decode F_X2_addPerson.2.1 69 = .ok (.iconst 1, 1) := by decide +kernel
theorem d_X2_addPerson_70 : decode F_X2_addPerson.2.1 70 = .ok (.iadd, 1) := by decide +kernel
theorem d_X2_addPerson_71 : decode F_X2_addPerson.2.1 71 = .ok (.iconst 0, 1) := by decide +kernel
theorem d_X2_addPerson_72 : decode F_X2_addPerson.2.1 72 = .ok (.iconst (-1), 1) := by decide +kernel
theorem d_X2_addPerson_73 : decode F_X2_addPerson.2.1 73 = .ok (.invokevirtual 84, 3) := by decide +kernel
theorem d_X2_addPerson_76 : decode F_X2_addPerson.2.1 76 = .ok (.aload_n 0, 1) := by decide +kernel
theorem d_X2_addPerson_77 : decode F_X2_addPerson.2.1 77 = .ok (.dup, 1) := by decide +kernel
theorem d_X2_addPerson_78 : decode F_X2_addPerson.2.1 78 = .ok (.getfield 9, 3) := by decide +kernel
theorem d_X2_addPerson_81 : decode F_X2_addPerson.2.1 81 = .ok (.iconst 1, 1) := by decide +kernel
theorem d_X2_addPerson_82 : decode F_X2_addPerson.2.1 82 = .ok (.iadd, 1) := by decide +kernel
theorem d_X2_addPerson_83 : decode F_X2_addPerson.2.1 83 = .ok (.putfield 9, 3) := by decide +kernel
theorem d_X2_addPerson_86 : decode F_X2_addPerson.2.1 86 = .ok (.return_, 1) := by decide +kernel
def f_X2_addPerson (μ : Mem) (a0 : Nat) (p1 : Int32) (p2 : Int32) (p3 : Int32) : Option Mem :=
Option.bind (wr μ (a0 + 1) 6 (μ a0 0) p1) fun μ1 =>
Option.bind (wr μ1 (a0 + 2) 6 (μ1 a0 0) p2) fun μ2 =>
Option.bind (wr μ2 (a0 + 3) 6 (μ2 a0 0) p3) fun μ3 =>
Option.bind (wr μ3 (a0 + 4) 6 (μ3 a0 0) p3) fun μ4 =>
Option.bind (wr μ4 (a0 + 5) 6 (μ4 a0 0) 0) fun μ5 =>
Option.bind (f_X2_letGo μ5 a0 (2 * (μ5 a0 0)) 0 (-1)) fun q6 =>
Option.bind (f_X2_letGo q6 a0 ((2 * (q6 a0 0)) + 1) 0 (-1)) fun q7 =>
some (mset q7 a0 0 ((q7 a0 0) + 1))
theorem s_X2_addPerson_e {G : Gl} (hG : G.1.stackTraces = false) {C : Cx} {n : Nat} {μ : Mem} {a0 : Nat} {p1 : Int32} {p2 : Int32} {p3 : Int32} (ha0 : a0 ∈ landL) {r : Mem} (hf : f_X2_addPerson μ a0 p1 p2 p3 = some r) (hK : FinR G C F_X2_addPerson none none r) : V G C F_X2_addPerson 0 [some (.ref (G.2.1 + a0)), some (.int p1), some (.int p2), some (.int p3)] [] (pic G μ) n 0 0 := by
  unfold f_X2_addPerson at hf
  refine V_aload_n d_X2_addPerson_0 rfl rfl ?_
  refine B_get (kLand _ ha0) fl_RX2_30 d_X2_addPerson_1 g_2_6 ?_
  refine V_aload_n d_X2_addPerson_4 rfl rfl ?_
  refine B_get (kLand _ ha0) fl_RX2_9 d_X2_addPerson_5 g_2_0 ?_
  refine V_iload_n d_X2_addPerson_8 rfl rfl ?_
  obtain ⟨μ1, hμ1, hf⟩ := ob hf
  refine B_iast (kLand_1 _ ha0) hμ1 d_X2_addPerson_9 ?_
  refine V_aload_n d_X2_addPerson_10 rfl rfl ?_
  refine B_get (kLand _ ha0) fl_RX2_34 d_X2_addPerson_11 g_2_7 ?_
  refine V_aload_n d_X2_addPerson_14 rfl rfl ?_
  refine B_get (kLand _ ha0) fl_RX2_9 d_X2_addPerson_15 g_2_0 ?_
  refine V_iload_n d_X2_addPerson_18 rfl rfl ?_
  obtain ⟨μ2, hμ2, hf⟩ := ob hf
  refine B_iast (kLand_2 _ ha0) hμ2 d_X2_addPerson_19 ?_
  refine V_aload_n d_X2_addPerson_20 rfl rfl ?_
  refine B_get (kLand _ ha0) fl_RX2_37 d_X2_addPerson_21 g_2_8 ?_
  refine V_aload_n d_X2_addPerson_24 rfl rfl ?_
  refine B_get (kLand _ ha0) fl_RX2_9 d_X2_addPerson_25 g_2_0 ?_
  refine V_iload_n d_X2_addPerson_28 rfl rfl ?_
  obtain ⟨μ3, hμ3, hf⟩ := ob hf
  refine B_iast (kLand_3 _ ha0) hμ3 d_X2_addPerson_29 ?_
  refine V_aload_n d_X2_addPerson_30 rfl rfl ?_
  refine B_get (kLand _ ha0) fl_RX2_40 d_X2_addPerson_31 g_2_9 ?_
  refine V_aload_n d_X2_addPerson_34 rfl rfl ?_
  refine B_get (kLand _ ha0) fl_RX2_9 d_X2_addPerson_35 g_2_0 ?_
  refine V_iload_n d_X2_addPerson_38 rfl rfl ?_
  obtain ⟨μ4, hμ4, hf⟩ := ob hf
  refine B_iast (kLand_4 _ ha0) hμ4 d_X2_addPerson_39 ?_
  refine V_aload_n d_X2_addPerson_40 rfl rfl ?_
  refine B_get (kLand _ ha0) fl_RX2_43 d_X2_addPerson_41 g_2_10 ?_
  refine V_aload_n d_X2_addPerson_44 rfl rfl ?_
  refine B_get (kLand _ ha0) fl_RX2_9 d_X2_addPerson_45 g_2_0 ?_
  refine V_iconst (v := 0) d_X2_addPerson_48 ic_0 ?_
  obtain ⟨μ5, hμ5, hf⟩ := ob hf
  refine B_iast (kLand_5 _ ha0) hμ5 d_X2_addPerson_49 ?_
  refine V_aload_n d_X2_addPerson_50 rfl rfl ?_
  refine V_iconst (v := 2) d_X2_addPerson_51 ic_2 ?_
  refine V_aload_n d_X2_addPerson_52 rfl rfl ?_
  refine B_get (kLand _ ha0) fl_RX2_9 d_X2_addPerson_53 g_2_0 ?_
  refine V_imul d_X2_addPerson_56 ?_
  refine V_iconst (v := 0) d_X2_addPerson_57 ic_0 ?_
  refine V_iconst (v := (-1)) d_X2_addPerson_58 ic_m1 ?_
  obtain ⟨q6, hq6, hf⟩ := ob hf
  refine B_callV0 (s_X2_letGo hG ha0 hq6) (kLand _ ha0) clX2 m_X2_letGo kv_RX2_84 d_X2_addPerson_59 rfl (Nat.le_of_ble_eq_true rfl) ⟨rfl, rfl, Nat.le_of_ble_eq_true rfl, Nat.le_of_ble_eq_true rfl, Nat.le_of_ble_eq_true rfl⟩ (fun n => ?_)
  refine V_aload_n d_X2_addPerson_62 rfl rfl ?_
  refine V_iconst (v := 2) d_X2_addPerson_63 ic_2 ?_
  refine V_aload_n d_X2_addPerson_64 rfl rfl ?_
  refine B_get (kLand _ ha0) fl_RX2_9 d_X2_addPerson_65 g_2_0 ?_
  refine V_imul d_X2_addPerson_68 ?_
  refine V_iconst (v := 1) d_X2_addPerson_69 ic_1 ?_
  refine V_iadd d_X2_addPerson_70 ?_
  refine V_iconst (v := 0) d_X2_addPerson_71 ic_0 ?_
  refine V_iconst (v := (-1)) d_X2_addPerson_72 ic_m1 ?_
  obtain ⟨q7, hq7, hf⟩ := ob hf
  refine B_callV0 (s_X2_letGo hG ha0 hq7) (kLand _ ha0) clX2 m_X2_letGo kv_RX2_84 d_X2_addPerson_73 rfl (Nat.le_of_ble_eq_true rfl) ⟨rfl, rfl, Nat.le_of_ble_eq_true rfl, Nat.le_of_ble_eq_true rfl, Nat.le_of_ble_eq_true rfl⟩ (fun n => ?_)
  refine V_aload_n d_X2_addPerson_76 rfl rfl ?_
  refine V_dup d_X2_addPerson_77 rfl ?_
  refine B_get (kLand _ ha0) fl_RX2_9 d_X2_addPerson_78 g_2_0 ?_
  refine V_iconst (v := 1) d_X2_addPerson_81 ic_1 ?_
  refine V_iadd d_X2_addPerson_82 ?_
  refine B_putI (kLand _ ha0) fl_RX2_9 pt_2_0 (Nat.le_of_ble_eq_true rfl) p_2_0 d_X2_addPerson_83 ?_
  cases hf
  exact R_v hK d_X2_addPerson_86 (Nat.le_of_ble_eq_true rfl) (Nat.le_of_ble_eq_true rfl)
theorem s_X2_addPerson {G : Gl} (hG : G.1.stackTraces = false) {μ : Mem} {a0 : Nat} {p1 : Int32} {p2 : Int32} {p3 : Int32} (ha0 : a0 ∈ landL) {r : Mem} (hf : f_X2_addPerson μ a0 p1 p2 p3 = some r) : Rt G yX2_addPerson F_X2_addPerson none [.ref (G.2.1 + a0), .int p1, .int p2, .int p3] μ none r := fun n => Sd.of hG ⟨by decide +kernel, rfl, rfl⟩ rfl (Nat.le_of_ble_eq_true rfl) rfl (fun C hK => s_X2_addPerson_e hG ha0 hf hK)
theorem d_X2_pledge_0 : decode F_X2_pledge.2.1 0 = .ok (.aload_n 0, 1) := by decide +kernel
theorem d_X2_pledge_1 : decode F_X2_pledge.2.1 1 = .ok (.getfield 46, 3) := by decide +kernel
theorem d_X2_pledge_4 : decode F_X2_pledge.2.1 4 = .ok (.iload_n 1, 1) := by decide +kernel
theorem d_X2_pledge_5 : decode F_X2_pledge.2.1 5 = .ok (.iconst 1, 1) := by decide +kernel
theorem d_X2_pledge_6 : decode F_X2_pledge.2.1 6 = .ok (.iastore, 1) := by decide +kernel
theorem d_X2_pledge_7 : decode F_X2_pledge.2.1 7 = .ok (.aload_n 0, 1) := by decide +kernel
theorem d_X2_pledge_8 : decode F_X2_pledge.2.1 8 = .ok (.getfield 49, 3) := by decide +kernel
theorem d_X2_pledge_11 : decode F_X2_pledge.2.1 11 = .ok (.iload_n 1, 1) := by decide +kernel
theorem d_X2_pledge_12 : decode F_X2_pledge.2.1 12 = .ok (.iload_n 2, 1) := by decide +kernel
theorem d_X2_pledge_13 : decode F_X2_pledge.2.1 13 = .ok (.iastore, 1) := by decide +kernel
theorem d_X2_pledge_14 : decode F_X2_pledge.2.1 14 = .ok (.aload_n 0, 1) := by decide +kernel
theorem d_X2_pledge_15 : decode F_X2_pledge.2.1 15 = .ok (.getfield 52, 3) := by decide +kernel
theorem d_X2_pledge_18 : decode F_X2_pledge.2.1 18 = .ok (.iload_n 1, 1) := by decide +kernel
theorem d_X2_pledge_19 : decode F_X2_pledge.2.1 19 = .ok (.iload_n 3, 1) := by decide +kernel
theorem d_X2_pledge_20 : decode F_X2_pledge.2.1 20 = .ok (.iastore, 1) := by decide +kernel
theorem d_X2_pledge_21 : decode F_X2_pledge.2.1 21 = .ok (.aload_n 0, 1) := by decide +kernel
theorem d_X2_pledge_22 : decode F_X2_pledge.2.1 22 = .ok (.getfield 55, 3) := by decide +kernel
theorem d_X2_pledge_25 : decode F_X2_pledge.2.1 25 = .ok (.iload_n 1, 1) := by decide +kernel
theorem d_X2_pledge_26 : decode F_X2_pledge.2.1 26 = .ok (.iload 4, 2) := by decide +kernel
theorem d_X2_pledge_28 : decode F_X2_pledge.2.1 28 = .ok (.iastore, 1) := by decide +kernel
theorem d_X2_pledge_29 : decode F_X2_pledge.2.1 29 = .ok (.aload_n 0, 1) := by decide +kernel
theorem d_X2_pledge_30 : decode F_X2_pledge.2.1 30 = .ok (.getfield 58, 3) := by decide +kernel
theorem d_X2_pledge_33 : decode F_X2_pledge.2.1 33 = .ok (.iload_n 1, 1) := by decide +kernel
theorem d_X2_pledge_34 : decode F_X2_pledge.2.1 34 = .ok (.iload 5, 2) := by decide +kernel
theorem d_X2_pledge_36 : decode F_X2_pledge.2.1 36 = .ok (.iastore, 1) := by decide +kernel
theorem d_X2_pledge_37 : decode F_X2_pledge.2.1 37 = .ok (.aload_n 0, 1) := by decide +kernel
theorem d_X2_pledge_38 : decode F_X2_pledge.2.1 38 = .ok (.getfield 61, 3) := by decide +kernel
theorem d_X2_pledge_41 : decode F_X2_pledge.2.1 41 = .ok (.iload_n 1, 1) := by decide +kernel
theorem d_X2_pledge_42 : decode F_X2_pledge.2.1 42 = .ok (.iload 6, 2) := by decide +kernel
theorem d_X2_pledge_44 : decode F_X2_pledge.2.1 44 = .ok (.iastore, 1) := by decide +kernel
theorem d_X2_pledge_45 : decode F_X2_pledge.2.1 45 = .ok (.return_, 1) := by decide +kernel
def f_X2_pledge (μ : Mem) (a0 : Nat) (p1 : Int32) (p2 : Int32) (p3 : Int32) (p4 : Int32) (p5 : Int32) (p6 : Int32) : Option Mem :=
Option.bind (wr μ (a0 + 6) 12 p1 1) fun μ1 =>
Option.bind (wr μ1 (a0 + 7) 12 p1 p2) fun μ2 =>
Option.bind (wr μ2 (a0 + 8) 12 p1 p3) fun μ3 =>
Option.bind (wr μ3 (a0 + 9) 12 p1 p4) fun μ4 =>
Option.bind (wr μ4 (a0 + 10) 12 p1 p5) fun μ5 =>
Option.bind (wr μ5 (a0 + 11) 12 p1 p6) fun μ6 =>
some μ6
theorem s_X2_pledge_e {G : Gl} (hG : G.1.stackTraces = false) {C : Cx} {n : Nat} {μ : Mem} {a0 : Nat} {p1 : Int32} {p2 : Int32} {p3 : Int32} {p4 : Int32} {p5 : Int32} {p6 : Int32} (ha0 : a0 ∈ landL) {r : Mem} (hf : f_X2_pledge μ a0 p1 p2 p3 p4 p5 p6 = some r) (hK : FinR G C F_X2_pledge none none r) : V G C F_X2_pledge 0 [some (.ref (G.2.1 + a0)), some (.int p1), some (.int p2), some (.int p3), some (.int p4), some (.int p5), some (.int p6)] [] (pic G μ) n 0 0 := by
  unfold f_X2_pledge at hf
  refine V_aload_n d_X2_pledge_0 rfl rfl ?_
  refine B_get (kLand _ ha0) fl_RX2_46 d_X2_pledge_1 g_2_11 ?_
  refine V_iload_n d_X2_pledge_4 rfl rfl ?_
  refine V_iconst (v := 1) d_X2_pledge_5 ic_1 ?_
  obtain ⟨μ1, hμ1, hf⟩ := ob hf
  refine B_iast (kLand_6 _ ha0) hμ1 d_X2_pledge_6 ?_
  refine V_aload_n d_X2_pledge_7 rfl rfl ?_
  refine B_get (kLand _ ha0) fl_RX2_49 d_X2_pledge_8 g_2_12 ?_
  refine V_iload_n d_X2_pledge_11 rfl rfl ?_
  refine V_iload_n d_X2_pledge_12 rfl rfl ?_
  obtain ⟨μ2, hμ2, hf⟩ := ob hf
  refine B_iast (kLand_7 _ ha0) hμ2 d_X2_pledge_13 ?_
  refine V_aload_n d_X2_pledge_14 rfl rfl ?_
  refine B_get (kLand _ ha0) fl_RX2_52 d_X2_pledge_15 g_2_13 ?_
  refine V_iload_n d_X2_pledge_18 rfl rfl ?_
  refine V_iload_n d_X2_pledge_19 rfl rfl ?_
  obtain ⟨μ3, hμ3, hf⟩ := ob hf
  refine B_iast (kLand_8 _ ha0) hμ3 d_X2_pledge_20 ?_
  refine V_aload_n d_X2_pledge_21 rfl rfl ?_
  refine B_get (kLand _ ha0) fl_RX2_55 d_X2_pledge_22 g_2_14 ?_
  refine V_iload_n d_X2_pledge_25 rfl rfl ?_
  refine V_iload d_X2_pledge_26 rfl ?_
  obtain ⟨μ4, hμ4, hf⟩ := ob hf
  refine B_iast (kLand_9 _ ha0) hμ4 d_X2_pledge_28 ?_
  refine V_aload_n d_X2_pledge_29 rfl rfl ?_
  refine B_get (kLand _ ha0) fl_RX2_58 d_X2_pledge_30 g_2_15 ?_
  refine V_iload_n d_X2_pledge_33 rfl rfl ?_
  refine V_iload d_X2_pledge_34 rfl ?_
  obtain ⟨μ5, hμ5, hf⟩ := ob hf
  refine B_iast (kLand_10 _ ha0) hμ5 d_X2_pledge_36 ?_
  refine V_aload_n d_X2_pledge_37 rfl rfl ?_
  refine B_get (kLand _ ha0) fl_RX2_61 d_X2_pledge_38 g_2_16 ?_
  refine V_iload_n d_X2_pledge_41 rfl rfl ?_
  refine V_iload d_X2_pledge_42 rfl ?_
  obtain ⟨μ6, hμ6, hf⟩ := ob hf
  refine B_iast (kLand_11 _ ha0) hμ6 d_X2_pledge_44 ?_
  cases hf
  exact R_v hK d_X2_pledge_45 (Nat.le_of_ble_eq_true rfl) (Nat.le_of_ble_eq_true rfl)
theorem s_X2_pledge {G : Gl} (hG : G.1.stackTraces = false) {μ : Mem} {a0 : Nat} {p1 : Int32} {p2 : Int32} {p3 : Int32} {p4 : Int32} {p5 : Int32} {p6 : Int32} (ha0 : a0 ∈ landL) {r : Mem} (hf : f_X2_pledge μ a0 p1 p2 p3 p4 p5 p6 = some r) : Rt G yX2_pledge F_X2_pledge none [.ref (G.2.1 + a0), .int p1, .int p2, .int p3, .int p4, .int p5, .int p6] μ none r := fun n => Sd.of hG ⟨by decide +kernel, rfl, rfl⟩ rfl (Nat.le_of_ble_eq_true rfl) rfl (fun C hK => s_X2_pledge_e hG ha0 hf hK)
theorem d_X2_earn_0 : decode F_X2_earn.2.1 0 = .ok (.aload_n 0, 1) := by decide +kernel
theorem d_X2_earn_1 : decode F_X2_earn.2.1 1 = .ok (.getfield 30, 3) := by decide +kernel
theorem d_X2_earn_4 : decode F_X2_earn.2.1 4 = .ok (.iload_n 1, 1) := by decide +kernel
theorem d_X2_earn_5 : decode F_X2_earn.2.1 5 = .ok (.sipush 999, 3) := by decide +kernel
theorem d_X2_earn_8 : decode F_X2_earn.2.1 8 = .ok (.aload_n 0, 1) := by decide +kernel
theorem d_X2_earn_9 : decode F_X2_earn.2.1 9 = .ok (.getfield 30, 3) := by decide +kernel
theorem d_X2_earn_12 : decode F_X2_earn.2.1 12 = .ok (.iload_n 1, 1) := by decide +kernel
theorem d_X2_earn_13 : decode F_X2_earn.2.1 13 = .ok (.iaload, 1) := by decide +kernel
theorem d_X2_earn_14 : decode F_X2_earn.2.1 14 = .ok (.iload_n 2, 1) := by decide +kernel
theorem d_X2_earn_15 : decode F_X2_earn.2.1 15 = .ok (.iadd, 1) := by decide +kernel
theorem d_X2_earn_16 : decode F_X2_earn.2.1 16 = .ok (.invokestatic 96, 3) := by decide +kernel
theorem d_X2_earn_19 : decode F_X2_earn.2.1 19 = .ok (.iastore, 1) := by decide +kernel
theorem d_X2_earn_20 : decode F_X2_earn.2.1 20 = .ok (.return_, 1) := by decide +kernel
def f_X2_earn (μ : Mem) (a0 : Nat) (p1 : Int32) (p2 : Int32) : Option Mem :=
Option.bind (rd μ (a0 + 1) 6 p1) fun t1 =>
Option.bind (f_J9_min_7cf53 μ 999 (t1 + p2)) fun t2 =>
Option.bind (wr μ (a0 + 1) 6 p1 t2) fun μ3 =>
some μ3
theorem s_X2_earn_e {G : Gl} (hG : G.1.stackTraces = false) {C : Cx} {n : Nat} {μ : Mem} {a0 : Nat} {p1 : Int32} {p2 : Int32} (ha0 : a0 ∈ landL) {r : Mem} (hf : f_X2_earn μ a0 p1 p2 = some r) (hK : FinR G C F_X2_earn none none r) : V G C F_X2_earn 0 [some (.ref (G.2.1 + a0)), some (.int p1), some (.int p2)] [] (pic G μ) n 0 0 := by
  unfold f_X2_earn at hf
  refine V_aload_n d_X2_earn_0 rfl rfl ?_
  refine B_get (kLand _ ha0) fl_RX2_30 d_X2_earn_1 g_2_6 ?_
  refine V_iload_n d_X2_earn_4 rfl rfl ?_
  refine V_sipush (v := 999) d_X2_earn_5 sp_999 ?_
  refine V_aload_n d_X2_earn_8 rfl rfl ?_
  refine B_get (kLand _ ha0) fl_RX2_30 d_X2_earn_9 g_2_6 ?_
  refine V_iload_n d_X2_earn_12 rfl rfl ?_
  obtain ⟨t1, ht1, hf⟩ := ob hf
  refine B_iald (kLand_1 _ ha0) ht1 d_X2_earn_13 ?_
  refine V_iload_n d_X2_earn_14 rfl rfl ?_
  refine V_iadd d_X2_earn_15 ?_
  obtain ⟨t2, ht2, hf⟩ := ob hf
  refine B_callS1 (s_J9_min_7cf53 hG ht2) m_J9_min_7cf53 ks_RX2_96 d_X2_earn_16 rfl (Nat.le_of_ble_eq_true rfl) ⟨rfl, rfl, Nat.le_of_ble_eq_true rfl, Nat.le_of_ble_eq_true rfl, Nat.le_of_ble_eq_true rfl⟩ (fun n => ?_)
  obtain ⟨μ3, hμ3, hf⟩ := ob hf
  refine B_iast (kLand_1 _ ha0) hμ3 d_X2_earn_19 ?_
  cases hf
  exact R_v hK d_X2_earn_20 (Nat.le_of_ble_eq_true rfl) (Nat.le_of_ble_eq_true rfl)
theorem s_X2_earn {G : Gl} (hG : G.1.stackTraces = false) {μ : Mem} {a0 : Nat} {p1 : Int32} {p2 : Int32} (ha0 : a0 ∈ landL) {r : Mem} (hf : f_X2_earn μ a0 p1 p2 = some r) : Rt G yX2_earn F_X2_earn none [.ref (G.2.1 + a0), .int p1, .int p2] μ none r := fun n => Sd.of hG ⟨by decide +kernel, rfl, rfl⟩ rfl (Nat.le_of_ble_eq_true rfl) rfl (fun C hK => s_X2_earn_e hG ha0 hf hK)
theorem d_X2_payOff_0 : decode F_X2_payOff.2.1 0 = .ok (.aload_n 0, 1) := by decide +kernel
theorem d_X2_payOff_1 : decode F_X2_payOff.2.1 1 = .ok (.getfield 30, 3) := by decide +kernel
theorem d_X2_payOff_4 : decode F_X2_payOff.2.1 4 = .ok (.iload_n 2, 1) := by decide +kernel
theorem d_X2_payOff_5 : decode F_X2_payOff.2.1 5 = .ok (.dup2, 1) := by decide +kernel
theorem d_X2_payOff_6 : decode F_X2_payOff.2.1 6 = .ok (.iaload, 1) := by decide +kernel
theorem d_X2_payOff_7 : decode F_X2_payOff.2.1 7 = .ok (.aload_n 0, 1) := by decide +kernel
theorem d_X2_payOff_8 : decode F_X2_payOff.2.1 8 = .ok (.getfield 52, 3) := by decide +kernel
theorem d_X2_payOff_11 : decode F_X2_payOff.2.1 11 = .ok (.iload_n 1, 1) := by decide +kernel
theorem d_X2_payOff_12 : decode F_X2_payOff.2.1 12 = .ok (.iaload, 1) := by decide +kernel
theorem d_X2_payOff_13 : decode F_X2_payOff.2.1 13 = .ok (.isub, 1) := by decide +kernel
theorem d_X2_payOff_14 : decode F_X2_payOff.2.1 14 = .ok (.iastore, 1) := by decide +kernel
theorem d_X2_payOff_15 : decode F_X2_payOff.2.1 15 = .ok (.aload_n 0, 1) := by decide +kernel
theorem d_X2_payOff_16 : decode F_X2_payOff.2.1 16 = .ok (.aload_n 0, 1) := by decide +kernel
theorem d_X2_payOff_17 : decode F_X2_payOff.2.1 17 = .ok (.getfield 49, 3) := by decide +kernel
theorem d_X2_payOff_20 : decode F_X2_payOff.2.1 20 = .ok (.iload_n 1, 1) := by decide +kernel
theorem d_X2_payOff_21 : decode F_X2_payOff.2.1 21 = .ok (.iaload, 1) := by decide +kernel
theorem d_X2_payOff_22 : decode F_X2_payOff.2.1 22 = .ok (.aload_n 0, 1) := by decide +kernel
theorem d_X2_payOff_23 : decode F_X2_payOff.2.1 23 = .ok (.getfield 52, 3) := by decide +kernel
theorem d_X2_payOff_26 : decode F_X2_payOff.2.1 26 = .ok (.iload_n 1, 1) := by decide +kernel
theorem d_X2_payOff_27 : decode F_X2_payOff.2.1 27 = .ok (.iaload, 1) := by decide +kernel
theorem d_X2_payOff_28 : decode F_X2_payOff.2.1 28 = .ok (.invokevirtual 88, 3) := by decide +kernel
theorem d_X2_payOff_31 : decode F_X2_payOff.2.1 31 = .ok (.aload_n 0, 1) := by decide +kernel
theorem d_X2_payOff_32 : decode F_X2_payOff.2.1 32 = .ok (.getfield 70, 3) := by decide +kernel
theorem d_X2_payOff_35 : decode F_X2_payOff.2.1 35 = .ok (.aload_n 0, 1) := by decide +kernel
theorem d_X2_payOff_36 : decode F_X2_payOff.2.1 36 = .ok (.getfield 18, 3) := by decide +kernel
theorem d_X2_payOff_39 : decode F_X2_payOff.2.1 39 = .ok (.iload_n 1, 1) := by decide +kernel
theorem d_X2_payOff_40 : decode F_X2_payOff.2.1 40 = .ok (.iconst 1, 1) := by decide +kernel
theorem d_X2_payOff_41 : decode F_X2_payOff.2.1 41 = .ok (.aload_n 0, 1) := by decide +kernel
theorem d_X2_payOff_42 : decode F_X2_payOff.2.1 42 = .ok (.getfield 52, 3) := by decide +kernel
theorem d_X2_payOff_45 : decode F_X2_payOff.2.1 45 = .ok (.iload_n 1, 1) := by decide +kernel
theorem d_X2_payOff_46 : decode F_X2_payOff.2.1 46 = .ok (.iaload, 1) := by decide +kernel
theorem d_X2_payOff_47 : decode F_X2_payOff.2.1 47 = .ok (.invokevirtual 92, 3) := by decide +kernel
theorem d_X2_payOff_50 : decode F_X2_payOff.2.1 50 = .ok (.aload_n 0, 1) := by decide +kernel
theorem d_X2_payOff_51 : decode F_X2_payOff.2.1 51 = .ok (.iload_n 1, 1) := by decide +kernel
theorem d_X2_payOff_52 : decode F_X2_payOff.2.1 52 = .ok (.iconst 0, 1) := by decide +kernel
theorem d_X2_payOff_53 : decode F_X2_payOff.2.1 53 = .ok (.iconst (-1), 1) := by decide +kernel
theorem d_X2_payOff_54 : decode F_X2_payOff.2.1 54 = .ok (.invokevirtual 84, 3) := by decide +kernel
theorem d_X2_payOff_57 : decode F_X2_payOff.2.1 57 = .ok (.return_, 1) := by decide +kernel
def f_X2_payOff (μ : Mem) (a0 : Nat) (p1 : Int32) (p2 : Int32) : Option Mem :=
Option.bind (rd μ (a0 + 1) 6 p2) fun t1 =>
Option.bind (rd μ (a0 + 8) 12 p1) fun t2 =>
Option.bind (wr μ (a0 + 1) 6 p2 (t1 - t2)) fun μ3 =>
Option.bind (rd μ3 (a0 + 7) 12 p1) fun t4 =>
Option.bind (rd μ3 (a0 + 8) 12 p1) fun t5 =>
Option.bind (f_X2_earn μ3 a0 t4 t5) fun q6 =>
Option.bind (rd q6 (a0 + 8) 12 p1) fun t7 =>
Option.bind (f_X1_add q6 (a0 + 13) (q6 a0 2) p1 1 t7) fun q8 =>
Option.bind (f_X2_letGo q8 a0 p1 0 (-1)) fun q9 =>
some q9
theorem s_X2_payOff_e {G : Gl} (hG : G.1.stackTraces = false) {C : Cx} {n : Nat} {μ : Mem} {a0 : Nat} {p1 : Int32} {p2 : Int32} (ha0 : a0 ∈ landL) {r : Mem} (hf : f_X2_payOff μ a0 p1 p2 = some r) (hK : FinR G C F_X2_payOff none none r) : V G C F_X2_payOff 0 [some (.ref (G.2.1 + a0)), some (.int p1), some (.int p2)] [] (pic G μ) n 0 0 := by
  unfold f_X2_payOff at hf
  refine V_aload_n d_X2_payOff_0 rfl rfl ?_
  refine B_get (kLand _ ha0) fl_RX2_30 d_X2_payOff_1 g_2_6 ?_
  refine V_iload_n d_X2_payOff_4 rfl rfl ?_
  refine V_dup2 d_X2_payOff_5 rfl rfl ?_
  obtain ⟨t1, ht1, hf⟩ := ob hf
  refine B_iald (kLand_1 _ ha0) ht1 d_X2_payOff_6 ?_
  refine V_aload_n d_X2_payOff_7 rfl rfl ?_
  refine B_get (kLand _ ha0) fl_RX2_52 d_X2_payOff_8 g_2_13 ?_
  refine V_iload_n d_X2_payOff_11 rfl rfl ?_
  obtain ⟨t2, ht2, hf⟩ := ob hf
  refine B_iald (kLand_8 _ ha0) ht2 d_X2_payOff_12 ?_
  refine V_isub d_X2_payOff_13 ?_
  obtain ⟨μ3, hμ3, hf⟩ := ob hf
  refine B_iast (kLand_1 _ ha0) hμ3 d_X2_payOff_14 ?_
  refine V_aload_n d_X2_payOff_15 rfl rfl ?_
  refine V_aload_n d_X2_payOff_16 rfl rfl ?_
  refine B_get (kLand _ ha0) fl_RX2_49 d_X2_payOff_17 g_2_12 ?_
  refine V_iload_n d_X2_payOff_20 rfl rfl ?_
  obtain ⟨t4, ht4, hf⟩ := ob hf
  refine B_iald (kLand_7 _ ha0) ht4 d_X2_payOff_21 ?_
  refine V_aload_n d_X2_payOff_22 rfl rfl ?_
  refine B_get (kLand _ ha0) fl_RX2_52 d_X2_payOff_23 g_2_13 ?_
  refine V_iload_n d_X2_payOff_26 rfl rfl ?_
  obtain ⟨t5, ht5, hf⟩ := ob hf
  refine B_iald (kLand_8 _ ha0) ht5 d_X2_payOff_27 ?_
  obtain ⟨q6, hq6, hf⟩ := ob hf
  refine B_callV0 (s_X2_earn hG ha0 hq6) (kLand _ ha0) clX2 m_X2_earn kv_RX2_88 d_X2_payOff_28 rfl (Nat.le_of_ble_eq_true rfl) ⟨rfl, rfl, Nat.le_of_ble_eq_true rfl, Nat.le_of_ble_eq_true rfl, Nat.le_of_ble_eq_true rfl⟩ (fun n => ?_)
  refine V_aload_n d_X2_payOff_31 rfl rfl ?_
  refine B_get (kLand _ ha0) fl_RX2_70 d_X2_payOff_32 g_2_18 ?_
  refine V_aload_n d_X2_payOff_35 rfl rfl ?_
  refine B_get (kLand _ ha0) fl_RX2_18 d_X2_payOff_36 g_2_2 ?_
  refine V_iload_n d_X2_payOff_39 rfl rfl ?_
  refine V_iconst (v := 1) d_X2_payOff_40 ic_1 ?_
  refine V_aload_n d_X2_payOff_41 rfl rfl ?_
  refine B_get (kLand _ ha0) fl_RX2_52 d_X2_payOff_42 g_2_13 ?_
  refine V_iload_n d_X2_payOff_45 rfl rfl ?_
  obtain ⟨t7, ht7, hf⟩ := ob hf
  refine B_iald (kLand_8 _ ha0) ht7 d_X2_payOff_46 ?_
  obtain ⟨q8, hq8, hf⟩ := ob hf
  refine B_callV0 (s_X1_add hG (landBook _ ha0) hq8) (kBook _ (landBook _ ha0)) clX1 m_X1_add kv_RX2_92 d_X2_payOff_47 rfl (Nat.le_of_ble_eq_true rfl) ⟨rfl, rfl, Nat.le_of_ble_eq_true rfl, Nat.le_of_ble_eq_true rfl, Nat.le_of_ble_eq_true rfl⟩ (fun n => ?_)
  refine V_aload_n d_X2_payOff_50 rfl rfl ?_
  refine V_iload_n d_X2_payOff_51 rfl rfl ?_
  refine V_iconst (v := 0) d_X2_payOff_52 ic_0 ?_
  refine V_iconst (v := (-1)) d_X2_payOff_53 ic_m1 ?_
  obtain ⟨q9, hq9, hf⟩ := ob hf
  refine B_callV0 (s_X2_letGo hG ha0 hq9) (kLand _ ha0) clX2 m_X2_letGo kv_RX2_84 d_X2_payOff_54 rfl (Nat.le_of_ble_eq_true rfl) ⟨rfl, rfl, Nat.le_of_ble_eq_true rfl, Nat.le_of_ble_eq_true rfl, Nat.le_of_ble_eq_true rfl⟩ (fun n => ?_)
  cases hf
  exact R_v hK d_X2_payOff_57 (Nat.le_of_ble_eq_true rfl) (Nat.le_of_ble_eq_true rfl)
theorem s_X2_payOff {G : Gl} (hG : G.1.stackTraces = false) {μ : Mem} {a0 : Nat} {p1 : Int32} {p2 : Int32} (ha0 : a0 ∈ landL) {r : Mem} (hf : f_X2_payOff μ a0 p1 p2 = some r) : Rt G yX2_payOff F_X2_payOff none [.ref (G.2.1 + a0), .int p1, .int p2] μ none r := fun n => Sd.of hG ⟨by decide +kernel, rfl, rfl⟩ rfl (Nat.le_of_ble_eq_true rfl) rfl (fun C hK => s_X2_payOff_e hG ha0 hf hK)
theorem d_X2_draw_0 : decode F_X2_draw.2.1 0 = .ok (.aload_n 0, 1) := by decide +kernel
theorem d_X2_draw_1 : decode F_X2_draw.2.1 1 = .ok (.ldc 191, 2) := by decide +kernel
theorem d_X2_draw_3 : decode F_X2_draw.2.1 3 = .ok (.aload_n 0, 1) := by decide +kernel
theorem d_X2_draw_4 : decode F_X2_draw.2.1 4 = .ok (.getfield 24, 3) := by decide +kernel
theorem d_X2_draw_7 : decode F_X2_draw.2.1 7 = .ok (.imul, 1) := by decide +kernel
theorem d_X2_draw_8 : decode F_X2_draw.2.1 8 = .ok (.sipush 12345, 3) := by decide +kernel
theorem d_X2_draw_11 : decode F_X2_draw.2.1 11 = .ok (.iadd, 1) := by decide +kernel
theorem d_X2_draw_12 : decode F_X2_draw.2.1 12 = .ok (.putfield 24, 3) := by decide +kernel
theorem d_X2_draw_15 : decode F_X2_draw.2.1 15 = .ok (.aload_n 0, 1) := by decide +kernel
theorem d_X2_draw_16 : decode F_X2_draw.2.1 16 = .ok (.getfield 24, 3) := by decide +kernel
theorem d_X2_draw_19 : decode F_X2_draw.2.1 19 = .ok (.bipush 16, 2) := by decide +kernel
theorem d_X2_draw_21 : decode F_X2_draw.2.1 21 = .ok (.iushr, 1) := by decide +kernel
theorem d_X2_draw_22 : decode F_X2_draw.2.1 22 = .ok (.sipush 32767, 3) := by decide +kernel
theorem d_X2_draw_25 : decode F_X2_draw.2.1 25 = .ok (.iand, 1) := by decide +kernel
theorem d_X2_draw_26 : decode F_X2_draw.2.1 26 = .ok (.ireturn, 1) := by decide +kernel
def f_X2_draw (μ : Mem) (a0 : Nat) : Option (Int32 × Mem) :=
some ((((Int32.toUInt32 ((mset μ a0 4 ((1103515245 * (μ a0 4)) + 12345)) a0 4) >>> (Int32.toUInt32 16 &&& Int32.toUInt32 31)).toInt32) &&& 32767), (mset μ a0 4 ((1103515245 * (μ a0 4)) + 12345)))
theorem s_X2_draw_e {G : Gl} (hG : G.1.stackTraces = false) {C : Cx} {n : Nat} {μ : Mem} {a0 : Nat} (ha0 : a0 ∈ landL) {r : (Int32 × Mem)} (hf : f_X2_draw μ a0 = some r) (hK : FinR G C F_X2_draw (some .int) (some (.int r.1)) r.2) : V G C F_X2_draw 0 [some (.ref (G.2.1 + a0))] [] (pic G μ) n 0 0 := by
  unfold f_X2_draw at hf
  refine V_aload_n d_X2_draw_0 rfl rfl ?_
  refine V_ldc (v := 1103515245) d_X2_draw_1 w_1144 ?_
  refine V_aload_n d_X2_draw_3 rfl rfl ?_
  refine B_get (kLand _ ha0) fl_RX2_24 d_X2_draw_4 g_2_4 ?_
  refine V_imul d_X2_draw_7 ?_
  refine V_sipush (v := 12345) d_X2_draw_8 sp_12345 ?_
  refine V_iadd d_X2_draw_11 ?_
  refine B_putI (kLand _ ha0) fl_RX2_24 pt_2_4 (Nat.le_of_ble_eq_true rfl) p_2_4 d_X2_draw_12 ?_
  refine V_aload_n d_X2_draw_15 rfl rfl ?_
  refine B_get (kLand _ ha0) fl_RX2_24 d_X2_draw_16 g_2_4 ?_
  refine V_bipush (v := 16) d_X2_draw_19 bp_16 ?_
  refine V_iushr d_X2_draw_21 ?_
  refine V_sipush (v := 32767) d_X2_draw_22 sp_32767 ?_
  refine V_iand d_X2_draw_25 ?_
  cases hf
  exact R_i hK d_X2_draw_26 (Nat.le_of_ble_eq_true rfl) (Nat.le_of_ble_eq_true rfl)
theorem s_X2_draw {G : Gl} (hG : G.1.stackTraces = false) {μ : Mem} {a0 : Nat} (ha0 : a0 ∈ landL) {r : (Int32 × Mem)} (hf : f_X2_draw μ a0 = some r) : Rt G yX2_draw F_X2_draw (some .int) [.ref (G.2.1 + a0)] μ (some (.int r.1)) r.2 := fun n => Sd.of hG ⟨by decide +kernel, rfl, rfl⟩ rfl (Nat.le_of_ble_eq_true rfl) rfl (fun C hK => s_X2_draw_e hG ha0 hf hK)
theorem d_X2_gaitOf_0 : decode F_X2_gaitOf.2.1 0 = .ok (.aload_n 0, 1) := by decide +kernel
theorem d_X2_gaitOf_1 : decode F_X2_gaitOf.2.1 1 = .ok (.getfield 46, 3) := by decide +kernel
theorem d_X2_gaitOf_4 : decode F_X2_gaitOf.2.1 4 = .ok (.iconst 2, 1) := by decide +kernel
theorem d_X2_gaitOf_5 : decode F_X2_gaitOf.2.1 5 = .ok (.iload_n 1, 1) := by decide +kernel
theorem d_X2_gaitOf_6 : decode F_X2_gaitOf.2.1 6 = .ok (.imul, 1) := by decide +kernel
theorem d_X2_gaitOf_7 : decode F_X2_gaitOf.2.1 7 = .ok (.iaload, 1) := by decide +kernel
theorem d_X2_gaitOf_8 : decode F_X2_gaitOf.2.1 8 = .ok (.ifCond .eq 7, 3) := by decide +kernel
theorem d_X2_gaitOf_11 : decode F_X2_gaitOf.2.1 11 = .ok (.iconst 1, 1) := by decide +kernel
theorem d_X2_gaitOf_12 : decode F_X2_gaitOf.2.1 12 = .ok (.goto 4, 3) := by decide +kernel
theorem d_X2_gaitOf_15 : decode F_X2_gaitOf.2.1 15 = .ok (.iconst 0, 1) := by decide +kernel
theorem d_X2_gaitOf_16 : decode F_X2_gaitOf.2.1 16 = .ok (.istore_n 2, 1) := by decide +kernel
theorem d_X2_gaitOf_17 : decode F_X2_gaitOf.2.1 17 = .ok (.aload_n 0, 1) := by decide +kernel
theorem d_X2_gaitOf_18 : decode F_X2_gaitOf.2.1 18 = .ok (.getfield 46, 3) := by decide +kernel
theorem d_X2_gaitOf_21 : decode F_X2_gaitOf.2.1 21 = .ok (.iconst 2, 1) := by decide +kernel
theorem d_X2_gaitOf_22 : decode F_X2_gaitOf.2.1 22 = .ok (.iload_n 1, 1) := by decide +kernel
theorem d_X2_gaitOf_23 : decode F_X2_gaitOf.2.1 23 = .ok (.imul, 1) := by decide +kernel
theorem d_X2_gaitOf_24 : decode F_X2_gaitOf.2.1 24 = .ok (.iconst 1, 1) := by decide +kernel
theorem d_X2_gaitOf_25 : decode F_X2_gaitOf.2.1 25 = .ok (.iadd, 1) := by decide +kernel
theorem d_X2_gaitOf_26 : decode F_X2_gaitOf.2.1 26 = .ok (.iaload, 1) := by decide +kernel
theorem d_X2_gaitOf_27 : decode F_X2_gaitOf.2.1 27 = .ok (.ifCond .eq 7, 3) := by decide +kernel
theorem d_X2_gaitOf_30 : decode F_X2_gaitOf.2.1 30 = .ok (.iconst 2, 1) := by decide +kernel
theorem d_X2_gaitOf_31 : decode F_X2_gaitOf.2.1 31 = .ok (.goto 4, 3) := by decide +kernel
theorem d_X2_gaitOf_34 : decode F_X2_gaitOf.2.1 34 = .ok (.iconst 0, 1) := by decide +kernel
theorem d_X2_gaitOf_35 : decode F_X2_gaitOf.2.1 35 = .ok (.istore_n 3, 1) := by decide +kernel
theorem d_X2_gaitOf_36 : decode F_X2_gaitOf.2.1 36 = .ok (.iload_n 2, 1) := by decide +kernel
theorem d_X2_gaitOf_37 : decode F_X2_gaitOf.2.1 37 = .ok (.iload_n 3, 1) := by decide +kernel
theorem d_X2_gaitOf_38 : decode F_X2_gaitOf.2.1 38 = .ok (.iadd, 1) := by decide +kernel
theorem d_X2_gaitOf_39 : decode F_X2_gaitOf.2.1 39 = .ok (.ireturn, 1) := by decide +kernel
def f_X2_gaitOf (μ : Mem) (a0 : Nat) (p1 : Int32) : Option Int32 :=
Option.bind (rd μ (a0 + 6) 12 (2 * p1)) fun t1 =>
Option.bind (rd μ (a0 + 6) 12 ((2 * p1) + 1)) fun t3 =>
some ((b2i (if t1 = 0 then false else true)) + (if t3 = 0 then 0 else 2))
theorem s_X2_gaitOf_e {G : Gl} (hG : G.1.stackTraces = false) {C : Cx} {n : Nat} {μ : Mem} {a0 : Nat} {p1 : Int32} (ha0 : a0 ∈ landL) {r : Int32} (hf : f_X2_gaitOf μ a0 p1 = some r) (hK : FinR G C F_X2_gaitOf (some .int) (some (.int r)) μ) : V G C F_X2_gaitOf 0 [some (.ref (G.2.1 + a0)), some (.int p1), none, none] [] (pic G μ) n 0 0 := by
  unfold f_X2_gaitOf at hf
  refine V_aload_n d_X2_gaitOf_0 rfl rfl ?_
  refine B_get (kLand _ ha0) fl_RX2_46 d_X2_gaitOf_1 g_2_11 ?_
  refine V_iconst (v := 2) d_X2_gaitOf_4 ic_2 ?_
  refine V_iload_n d_X2_gaitOf_5 rfl rfl ?_
  refine V_imul d_X2_gaitOf_6 ?_
  obtain ⟨t1, ht1, hf⟩ := ob hf
  refine B_iald (kLand_6 _ ha0) ht1 d_X2_gaitOf_7 ?_
  have hJj2 : ∀ j2 : Bool, j2 = (if t1 = 0 then false else true) → V G C F_X2_gaitOf 16 [some (.ref (G.2.1 + a0)), some (.int p1), none, none] [.int (b2i j2)] (pic G μ) n 0 0 := by
    intro j2 ej2
    subst ej2
    refine V_istore_n (ls' := [_, _, _, _]) d_X2_gaitOf_16 rfl rfl rfl ?_
    refine V_aload_n d_X2_gaitOf_17 rfl rfl ?_
    refine B_get (kLand _ ha0) fl_RX2_46 d_X2_gaitOf_18 g_2_11 ?_
    refine V_iconst (v := 2) d_X2_gaitOf_21 ic_2 ?_
    refine V_iload_n d_X2_gaitOf_22 rfl rfl ?_
    refine V_imul d_X2_gaitOf_23 ?_
    refine V_iconst (v := 1) d_X2_gaitOf_24 ic_1 ?_
    refine V_iadd d_X2_gaitOf_25 ?_
    obtain ⟨t3, ht3, hf⟩ := ob hf
    refine B_iald (kLand_6 _ ha0) ht3 d_X2_gaitOf_26 ?_
    have hJj4 : ∀ j4 : Int32, j4 = (if t3 = 0 then 0 else 2) → V G C F_X2_gaitOf 35 [none, none, some (.int (b2i (if t1 = 0 then false else true))), none] [.int j4] (pic G μ) n 0 0 := by
      intro j4 ej4
      subst ej4
      refine V_istore_n (ls' := [_, _, _, _]) d_X2_gaitOf_35 rfl rfl rfl ?_
      refine V_iload_n d_X2_gaitOf_36 rfl rfl ?_
      refine V_iload_n d_X2_gaitOf_37 rfl rfl ?_
      refine V_iadd d_X2_gaitOf_38 ?_
      cases hf
      exact R_i hK d_X2_gaitOf_39 (Nat.le_of_ble_eq_true rfl) (Nat.le_of_ble_eq_true rfl)
    refine V_if_eq (tgt := 34) d_X2_gaitOf_27 (by decide) (fun c27 => ?_) (fun c27 => ?_)
    · refine V_iconst (v := 0) d_X2_gaitOf_34 ic_0 ?_
      refine V_less (ls' := [none, none, some _, none]) ⟨rfl, trivial⟩ ?_
      exact hJj4 0 (by rw [if_pos c27])
    · refine V_iconst (v := 2) d_X2_gaitOf_30 ic_2 ?_
      refine V_goto (tgt := 35) d_X2_gaitOf_31 (by decide) ?_
      refine V_less (ls' := [none, none, some _, none]) ⟨rfl, trivial⟩ ?_
      exact hJj4 2 (by rw [if_neg c27])
  refine V_if_eq (tgt := 15) d_X2_gaitOf_8 (by decide) (fun c8 => ?_) (fun c8 => ?_)
  · refine V_iconst (v := 0) d_X2_gaitOf_15 ic_0 ?_
    refine V_less (ls' := [some _, some _, none, none]) ⟨rfl, rfl, trivial⟩ ?_
    exact hJj2 false (by rw [if_pos c8])
  · refine V_iconst (v := 1) d_X2_gaitOf_11 ic_1 ?_
    refine V_goto (tgt := 16) d_X2_gaitOf_12 (by decide) ?_
    refine V_less (ls' := [some _, some _, none, none]) ⟨rfl, rfl, trivial⟩ ?_
    exact hJj2 true (by rw [if_neg c8])
theorem s_X2_gaitOf {G : Gl} (hG : G.1.stackTraces = false) {μ : Mem} {a0 : Nat} {p1 : Int32} (ha0 : a0 ∈ landL) {r : Int32} (hf : f_X2_gaitOf μ a0 p1 = some r) : Rt G yX2_gaitOf F_X2_gaitOf (some .int) [.ref (G.2.1 + a0), .int p1] μ (some (.int r)) μ := fun n => Sd.of hG ⟨by decide +kernel, rfl, rfl⟩ rfl (Nat.le_of_ble_eq_true rfl) rfl (fun C hK => s_X2_gaitOf_e hG ha0 hf hK)
theorem d_J6_bitCount_0f7a4_0 : decode F_J6_bitCount_0f7a4.2.1 0 = .ok (.iload_n 0, 1) := by decide +kernel
theorem d_J6_bitCount_0f7a4_1 : decode F_J6_bitCount_0f7a4.2.1 1 = .ok (.iload_n 0, 1) := by decide +kernel
theorem d_J6_bitCount_0f7a4_2 : decode F_J6_bitCount_0f7a4.2.1 2 = .ok (.iconst 1, 1) := by decide +kernel
theorem d_J6_bitCount_0f7a4_3 : decode F_J6_bitCount_0f7a4.2.1 3 = .ok (.iushr, 1) := by decide +kernel
theorem d_J6_bitCount_0f7a4_4 : decode F_J6_bitCount_0f7a4.2.1 4 = .ok (.ldc_w 265, 3) := by decide +kernel
theorem d_J6_bitCount_0f7a4_7 : decode F_J6_bitCount_0f7a4.2.1 7 = .ok (.iand, 1) := by decide +kernel
theorem d_J6_bitCount_0f7a4_8 : decode F_J6_bitCount_0f7a4.2.1 8 = .ok (.isub, 1) := by decide +kernel
theorem d_J6_bitCount_0f7a4_9 : decode F_J6_bitCount_0f7a4.2.1 9 = .ok (.istore_n 0, 1) := by decide +kernel
theorem d_J6_bitCount_0f7a4_10 : decode F_J6_bitCount_0f7a4.2.1 10 = .ok (.iload_n 0, 1) := by decide +kernel
theorem d_J6_bitCount_0f7a4_11 : decode F_J6_bitCount_0f7a4.2.1 11 = .ok (.ldc_w 266, 3) := by decide +kernel
theorem d_J6_bitCount_0f7a4_14 : decode F_J6_bitCount_0f7a4.2.1 14 = .ok (.iand, 1) := by decide +kernel
theorem d_J6_bitCount_0f7a4_15 : decode F_J6_bitCount_0f7a4.2.1 15 = .ok (.iload_n 0, 1) := by decide +kernel
theorem d_J6_bitCount_0f7a4_16 : decode F_J6_bitCount_0f7a4.2.1 16 = .ok (.iconst 2, 1) := by decide +kernel
theorem d_J6_bitCount_0f7a4_17 : decode F_J6_bitCount_0f7a4.2.1 17 = .ok (.iushr, 1) := by decide +kernel
theorem d_J6_bitCount_0f7a4_18 : decode F_J6_bitCount_0f7a4.2.1 18 = .ok (.ldc_w 266, 3) := by decide +kernel
theorem d_J6_bitCount_0f7a4_21 : decode F_J6_bitCount_0f7a4.2.1 21 = .ok (.iand, 1) := by decide +kernel
theorem d_J6_bitCount_0f7a4_22 : decode F_J6_bitCount_0f7a4.2.1 22 = .ok (.iadd, 1) := by decide +kernel
theorem d_J6_bitCount_0f7a4_23 : decode F_J6_bitCount_0f7a4.2.1 23 = .ok (.istore_n 0, 1) := by decide +kernel
theorem d_J6_bitCount_0f7a4_24 : decode F_J6_bitCount_0f7a4.2.1 24 = .ok (.iload_n 0, 1) := by decide +kernel
theorem d_J6_bitCount_0f7a4_25 : decode F_J6_bitCount_0f7a4.2.1 25 = .ok (.iload_n 0, 1) := by decide +kernel
theorem d_J6_bitCount_0f7a4_26 : decode F_J6_bitCount_0f7a4.2.1 26 = .ok (.iconst 4, 1) := by decide +kernel
theorem d_J6_bitCount_0f7a4_27 : decode F_J6_bitCount_0f7a4.2.1 27 = .ok (.iushr, 1) := by decide +kernel
theorem d_J6_bitCount_0f7a4_28 : decode F_J6_bitCount_0f7a4.2.1 28 = .ok (.iadd, 1) := by decide +kernel
theorem d_J6_bitCount_0f7a4_29 : decode F_J6_bitCount_0f7a4.2.1 29 = .ok (.ldc_w 267, 3) := by decide +kernel
theorem d_J6_bitCount_0f7a4_32 : decode F_J6_bitCount_0f7a4.2.1 32 = .ok (.iand, 1) := by decide +kernel
theorem d_J6_bitCount_0f7a4_33 : decode F_J6_bitCount_0f7a4.2.1 33 = .ok (.istore_n 0, 1) := by decide +kernel
theorem d_J6_bitCount_0f7a4_34 : decode F_J6_bitCount_0f7a4.2.1 34 = .ok (.iload_n 0, 1) := by decide +kernel
theorem d_J6_bitCount_0f7a4_35 : decode F_J6_bitCount_0f7a4.2.1 35 = .ok (.iload_n 0, 1) := by decide +kernel
theorem d_J6_bitCount_0f7a4_36 : decode F_J6_bitCount_0f7a4.2.1 36 = .ok (.bipush 8, 2) := by decide +kernel
theorem d_J6_bitCount_0f7a4_38 : decode F_J6_bitCount_0f7a4.2.1 38 = .ok (.iushr, 1) := by decide +kernel
theorem d_J6_bitCount_0f7a4_39 : decode F_J6_bitCount_0f7a4.2.1 39 = .ok (.iadd, 1) := by decide +kernel
theorem d_J6_bitCount_0f7a4_40 : decode F_J6_bitCount_0f7a4.2.1 40 = .ok (.istore_n 0, 1) := by decide +kernel
theorem d_J6_bitCount_0f7a4_41 : decode F_J6_bitCount_0f7a4.2.1 41 = .ok (.iload_n 0, 1) := by decide +kernel
theorem d_J6_bitCount_0f7a4_42 : decode F_J6_bitCount_0f7a4.2.1 42 = .ok (.iload_n 0, 1) := by decide +kernel
theorem d_J6_bitCount_0f7a4_43 : decode F_J6_bitCount_0f7a4.2.1 43 = .ok (.bipush 16, 2) := by decide +kernel
theorem d_J6_bitCount_0f7a4_45 : decode F_J6_bitCount_0f7a4.2.1 45 = .ok (.iushr, 1) := by decide +kernel
theorem d_J6_bitCount_0f7a4_46 : decode F_J6_bitCount_0f7a4.2.1 46 = .ok (.iadd, 1) := by decide +kernel
theorem d_J6_bitCount_0f7a4_47 : decode F_J6_bitCount_0f7a4.2.1 47 = .ok (.istore_n 0, 1) := by decide +kernel
theorem d_J6_bitCount_0f7a4_48 : decode F_J6_bitCount_0f7a4.2.1 48 = .ok (.iload_n 0, 1) := by decide +kernel
theorem d_J6_bitCount_0f7a4_49 : decode F_J6_bitCount_0f7a4.2.1 49 = .ok (.bipush 63, 2) := by decide +kernel
theorem d_J6_bitCount_0f7a4_51 : decode F_J6_bitCount_0f7a4.2.1 51 = .ok (.iand, 1) := by decide +kernel
theorem d_J6_bitCount_0f7a4_52 : decode F_J6_bitCount_0f7a4.2.1 52 = .ok (.ireturn, 1) := by decide +kernel
def f_J6_bitCount_0f7a4 (μ : Mem) (p0 : Int32) : Option Int32 :=
some ((((((((p0 - (((Int32.toUInt32 p0 >>> (Int32.toUInt32 1 &&& Int32.toUInt32 31)).toInt32) &&& 1431655765)) &&& 858993459) + (((Int32.toUInt32 (p0 - (((Int32.toUInt32 p0 >>> (Int32.toUInt32 1 &&& Int32.toUInt32 31)).toInt32) &&& 1431655765)) >>> (Int32.toUInt32 2 &&& Int32.toUInt32 31)).toInt32) &&& 858993459)) + ((Int32.toUInt32 (((p0 - (((Int32.toUInt32 p0 >>> (Int32.toUInt32 1 &&& Int32.toUInt32 31)).toInt32) &&& 1431655765)) &&& 858993459) + (((Int32.toUInt32 (p0 - (((Int32.toUInt32 p0 >>> (Int32.toUInt32 1 &&& Int32.toUInt32 31)).toInt32) &&& 1431655765)) >>> (Int32.toUInt32 2 &&& Int32.toUInt32 31)).toInt32) &&& 858993459)) >>> (Int32.toUInt32 4 &&& Int32.toUInt32 31)).toInt32)) &&& 252645135) + ((Int32.toUInt32 (((((p0 - (((Int32.toUInt32 p0 >>> (Int32.toUInt32 1 &&& Int32.toUInt32 31)).toInt32) &&& 1431655765)) &&& 858993459) + (((Int32.toUInt32 (p0 - (((Int32.toUInt32 p0 >>> (Int32.toUInt32 1 &&& Int32.toUInt32 31)).toInt32) &&& 1431655765)) >>> (Int32.toUInt32 2 &&& Int32.toUInt32 31)).toInt32) &&& 858993459)) + ((Int32.toUInt32 (((p0 - (((Int32.toUInt32 p0 >>> (Int32.toUInt32 1 &&& Int32.toUInt32 31)).toInt32) &&& 1431655765)) &&& 858993459) + (((Int32.toUInt32 (p0 - (((Int32.toUInt32 p0 >>> (Int32.toUInt32 1 &&& Int32.toUInt32 31)).toInt32) &&& 1431655765)) >>> (Int32.toUInt32 2 &&& Int32.toUInt32 31)).toInt32) &&& 858993459)) >>> (Int32.toUInt32 4 &&& Int32.toUInt32 31)).toInt32)) &&& 252645135) >>> (Int32.toUInt32 8 &&& Int32.toUInt32 31)).toInt32)) + ((Int32.toUInt32 ((((((p0 - (((Int32.toUInt32 p0 >>> (Int32.toUInt32 1 &&& Int32.toUInt32 31)).toInt32) &&& 1431655765)) &&& 858993459) + (((Int32.toUInt32 (p0 - (((Int32.toUInt32 p0 >>> (Int32.toUInt32 1 &&& Int32.toUInt32 31)).toInt32) &&& 1431655765)) >>> (Int32.toUInt32 2 &&& Int32.toUInt32 31)).toInt32) &&& 858993459)) + ((Int32.toUInt32 (((p0 - (((Int32.toUInt32 p0 >>> (Int32.toUInt32 1 &&& Int32.toUInt32 31)).toInt32) &&& 1431655765)) &&& 858993459) + (((Int32.toUInt32 (p0 - (((Int32.toUInt32 p0 >>> (Int32.toUInt32 1 &&& Int32.toUInt32 31)).toInt32) &&& 1431655765)) >>> (Int32.toUInt32 2 &&& Int32.toUInt32 31)).toInt32) &&& 858993459)) >>> (Int32.toUInt32 4 &&& Int32.toUInt32 31)).toInt32)) &&& 252645135) + ((Int32.toUInt32 (((((p0 - (((Int32.toUInt32 p0 >>> (Int32.toUInt32 1 &&& Int32.toUInt32 31)).toInt32) &&& 1431655765)) &&& 858993459) + (((Int32.toUInt32 (p0 - (((Int32.toUInt32 p0 >>> (Int32.toUInt32 1 &&& Int32.toUInt32 31)).toInt32) &&& 1431655765)) >>> (Int32.toUInt32 2 &&& Int32.toUInt32 31)).toInt32) &&& 858993459)) + ((Int32.toUInt32 (((p0 - (((Int32.toUInt32 p0 >>> (Int32.toUInt32 1 &&& Int32.toUInt32 31)).toInt32) &&& 1431655765)) &&& 858993459) + (((Int32.toUInt32 (p0 - (((Int32.toUInt32 p0 >>> (Int32.toUInt32 1 &&& Int32.toUInt32 31)).toInt32) &&& 1431655765)) >>> (Int32.toUInt32 2 &&& Int32.toUInt32 31)).toInt32) &&& 858993459)) >>> (Int32.toUInt32 4 &&& Int32.toUInt32 31)).toInt32)) &&& 252645135) >>> (Int32.toUInt32 8 &&& Int32.toUInt32 31)).toInt32)) >>> (Int32.toUInt32 16 &&& Int32.toUInt32 31)).toInt32)) &&& 63)
theorem s_J6_bitCount_0f7a4_e {G : Gl} (hG : G.1.stackTraces = false) {C : Cx} {n : Nat} {μ : Mem} {p0 : Int32} {r : Int32} (hf : f_J6_bitCount_0f7a4 μ p0 = some r) (hK : FinR G C F_J6_bitCount_0f7a4 (some .int) (some (.int r)) μ) : V G C F_J6_bitCount_0f7a4 0 [some (.int p0)] [] (pic G μ) n 0 0 := by
  unfold f_J6_bitCount_0f7a4 at hf
  refine V_iload_n d_J6_bitCount_0f7a4_0 rfl rfl ?_
  refine V_iload_n d_J6_bitCount_0f7a4_1 rfl rfl ?_
  refine V_iconst (v := 1) d_J6_bitCount_0f7a4_2 ic_1 ?_
  refine V_iushr d_J6_bitCount_0f7a4_3 ?_
  refine V_ldcw (v := 1431655765) d_J6_bitCount_0f7a4_4 w_449 ?_
  refine V_iand d_J6_bitCount_0f7a4_7 ?_
  refine V_isub d_J6_bitCount_0f7a4_8 ?_
  refine V_istore_n (ls' := [_]) d_J6_bitCount_0f7a4_9 rfl rfl rfl ?_
  refine V_iload_n d_J6_bitCount_0f7a4_10 rfl rfl ?_
  refine V_ldcw (v := 858993459) d_J6_bitCount_0f7a4_11 w_450 ?_
  refine V_iand d_J6_bitCount_0f7a4_14 ?_
  refine V_iload_n d_J6_bitCount_0f7a4_15 rfl rfl ?_
  refine V_iconst (v := 2) d_J6_bitCount_0f7a4_16 ic_2 ?_
  refine V_iushr d_J6_bitCount_0f7a4_17 ?_
  refine V_ldcw (v := 858993459) d_J6_bitCount_0f7a4_18 w_450 ?_
  refine V_iand d_J6_bitCount_0f7a4_21 ?_
  refine V_iadd d_J6_bitCount_0f7a4_22 ?_
  refine V_istore_n (ls' := [_]) d_J6_bitCount_0f7a4_23 rfl rfl rfl ?_
  refine V_iload_n d_J6_bitCount_0f7a4_24 rfl rfl ?_
  refine V_iload_n d_J6_bitCount_0f7a4_25 rfl rfl ?_
  refine V_iconst (v := 4) d_J6_bitCount_0f7a4_26 ic_4 ?_
  refine V_iushr d_J6_bitCount_0f7a4_27 ?_
  refine V_iadd d_J6_bitCount_0f7a4_28 ?_
  refine V_ldcw (v := 252645135) d_J6_bitCount_0f7a4_29 w_451 ?_
  refine V_iand d_J6_bitCount_0f7a4_32 ?_
  refine V_istore_n (ls' := [_]) d_J6_bitCount_0f7a4_33 rfl rfl rfl ?_
  refine V_iload_n d_J6_bitCount_0f7a4_34 rfl rfl ?_
  refine V_iload_n d_J6_bitCount_0f7a4_35 rfl rfl ?_
  refine V_bipush (v := 8) d_J6_bitCount_0f7a4_36 bp_8 ?_
  refine V_iushr d_J6_bitCount_0f7a4_38 ?_
  refine V_iadd d_J6_bitCount_0f7a4_39 ?_
  refine V_istore_n (ls' := [_]) d_J6_bitCount_0f7a4_40 rfl rfl rfl ?_
  refine V_iload_n d_J6_bitCount_0f7a4_41 rfl rfl ?_
  refine V_iload_n d_J6_bitCount_0f7a4_42 rfl rfl ?_
  refine V_bipush (v := 16) d_J6_bitCount_0f7a4_43 bp_16 ?_
  refine V_iushr d_J6_bitCount_0f7a4_45 ?_
  refine V_iadd d_J6_bitCount_0f7a4_46 ?_
  refine V_istore_n (ls' := [_]) d_J6_bitCount_0f7a4_47 rfl rfl rfl ?_
  refine V_iload_n d_J6_bitCount_0f7a4_48 rfl rfl ?_
  refine V_bipush (v := 63) d_J6_bitCount_0f7a4_49 bp_63 ?_
  refine V_iand d_J6_bitCount_0f7a4_51 ?_
  cases hf
  exact R_i hK d_J6_bitCount_0f7a4_52 (Nat.le_of_ble_eq_true rfl) (Nat.le_of_ble_eq_true rfl)
theorem s_J6_bitCount_0f7a4 {G : Gl} (hG : G.1.stackTraces = false) {μ : Mem} {p0 : Int32} {r : Int32} (hf : f_J6_bitCount_0f7a4 μ p0 = some r) : Rt G yJ6_bitCount_0f7a4 F_J6_bitCount_0f7a4 (some .int) [.int p0] μ (some (.int r)) μ := fun n => Sd.ofJ hG ⟨by decide +kernel, rfl, rfl⟩ rfl (Nat.le_of_ble_eq_true rfl) rfl (fun C hK => s_J6_bitCount_0f7a4_e hG hf hK)
theorem d_X2_heldBy_0 : decode F_X2_heldBy.2.1 0 = .ok (.iconst 0, 1) := by decide +kernel
theorem d_X2_heldBy_1 : decode F_X2_heldBy.2.1 1 = .ok (.istore_n 2, 1) := by decide +kernel
theorem d_X2_heldBy_2 : decode F_X2_heldBy.2.1 2 = .ok (.iconst 0, 1) := by decide +kernel
theorem d_X2_heldBy_3 : decode F_X2_heldBy.2.1 3 = .ok (.istore_n 3, 1) := by decide +kernel
theorem d_X2_heldBy_4 : decode F_X2_heldBy.2.1 4 = .ok (.iload_n 3, 1) := by decide +kernel
theorem d_X2_heldBy_5 : decode F_X2_heldBy.2.1 5 = .ok (.iconst 2, 1) := by decide +kernel
theorem d_X2_heldBy_6 : decode F_X2_heldBy.2.1 6 = .ok (.aload_n 0, 1) := by decide +kernel
theorem d_X2_heldBy_7 : decode F_X2_heldBy.2.1 7 = .ok (.getfield 9, 3) := by decide +kernel
theorem d_X2_heldBy_10 : decode F_X2_heldBy.2.1 10 = .ok (.imul, 1) := by decide +kernel
theorem d_X2_heldBy_11 : decode F_X2_heldBy.2.1 11 = .ok (.if_icmp .ge 25, 3) := by decide +kernel
theorem d_X2_heldBy_14 : decode F_X2_heldBy.2.1 14 = .ok (.aload_n 0, 1) := by decide +kernel
theorem d_X2_heldBy_15 : decode F_X2_heldBy.2.1 15 = .ok (.getfield 49, 3) := by decide +kernel
theorem d_X2_heldBy_18 : decode F_X2_heldBy.2.1 18 = .ok (.iload_n 3, 1) := by decide +kernel
theorem d_X2_heldBy_19 : decode F_X2_heldBy.2.1 19 = .ok (.iaload, 1) := by decide +kernel
theorem d_X2_heldBy_20 : decode F_X2_heldBy.2.1 20 = .ok (.iload_n 1, 1) := by decide +kernel
theorem d_X2_heldBy_21 : decode F_X2_heldBy.2.1 21 = .ok (.if_icmp .ne 9, 3) := by decide +kernel
theorem d_X2_heldBy_24 : decode F_X2_heldBy.2.1 24 = .ok (.iload_n 2, 1) := by decide +kernel
theorem d_X2_heldBy_25 : decode F_X2_heldBy.2.1 25 = .ok (.iconst 1, 1) := by decide +kernel
theorem d_X2_heldBy_26 : decode F_X2_heldBy.2.1 26 = .ok (.iload_n 3, 1) := by decide +kernel
theorem d_X2_heldBy_27 : decode F_X2_heldBy.2.1 27 = .ok (.ishl, 1) := by decide +kernel
theorem d_X2_heldBy_28 : decode F_X2_heldBy.2.1 28 = .ok (.ior, 1) := by decide +kernel
theorem d_X2_heldBy_29 : decode F_X2_heldBy.2.1 29 = .ok (.istore_n 2, 1) := by decide +kernel
theorem d_X2_heldBy_30 : decode F_X2_heldBy.2.1 30 = .ok (.iinc 3 1, 3) := by decide +kernel
theorem d_X2_heldBy_33 : decode F_X2_heldBy.2.1 33 = .ok (.goto (-29), 3) := by decide +kernel
theorem d_X2_heldBy_36 : decode F_X2_heldBy.2.1 36 = .ok (.iload_n 2, 1) := by decide +kernel
theorem d_X2_heldBy_37 : decode F_X2_heldBy.2.1 37 = .ok (.ireturn, 1) := by decide +kernel
def f_X2_heldBy_b4 (μ : Mem) (a0 : Nat) (l1 : Int32) (l2 : Int32) (l3 : Int32) : Option ((Int32 × Int32) ⊕ Int32) :=
if (2 * (μ a0 0)) ≤ l3 then
some (.inr l2)
else
Option.bind (rd μ (a0 + 7) 12 l3) fun t1 =>
some (.inl ((if t1 = l1 then (l2 ||| (1 <<< (l3 &&& 31))) else l2), (l3 + 1)))
def f_X2_heldBy_j36 (μ : Mem) (a0 : Nat) (l2 : Int32) : Option Int32 :=
some l2
def f_X2_heldBy_l4 (μ : Mem) (a0 : Nat) (l1 : Int32) (l2 : Int32) (l3 : Int32) : Option Int32 := Option.bind (loopN 10000 (fun z : (Int32 × Int32) => f_X2_heldBy_b4 μ a0 l1 z.1 z.2) (l2, l3)) fun t : Int32 => f_X2_heldBy_j36 μ a0 t
def f_X2_heldBy (μ : Mem) (a0 : Nat) (p1 : Int32) : Option Int32 :=
f_X2_heldBy_l4 μ a0 p1 0 0
theorem s_X2_heldBy_b4 {G : Gl} (hG : G.1.stackTraces = false) {C : Cx} {n : Nat} {μ : Mem} {a0 : Nat} {l1 : Int32} {l2 : Int32} {l3 : Int32} (ha0 : a0 ∈ landL) {y : ((Int32 × Int32) ⊕ Int32)} (hf : f_X2_heldBy_b4 μ a0 l1 l2 l3 = some y) (hK : (∀ z', y = .inl z' → ∀ n, V G C F_X2_heldBy 4 [some (.ref (G.2.1 + a0)), some (.int l1), some (.int z'.1), some (.int z'.2)] [] (pic G μ) n 0 0) ∧ (∀ x', y = .inr x' → ∀ n, V G C F_X2_heldBy 36 [none, none, some (.int x'), none] [] (pic G μ) n 0 0)) : V G C F_X2_heldBy 4 [some (.ref (G.2.1 + a0)), some (.int l1), some (.int l2), some (.int l3)] [] (pic G μ) n 0 0 := by
  unfold f_X2_heldBy_b4 at hf
  refine V_iload_n d_X2_heldBy_4 rfl rfl ?_
  refine V_iconst (v := 2) d_X2_heldBy_5 ic_2 ?_
  refine V_aload_n d_X2_heldBy_6 rfl rfl ?_
  refine B_get (kLand _ ha0) fl_RX2_9 d_X2_heldBy_7 g_2_0 ?_
  refine V_imul d_X2_heldBy_10 ?_
  refine V_icmp_ge (tgt := 36) d_X2_heldBy_11 (by decide) (fun c11 => ?_) (fun c11 => ?_)
  · replace hf := iteT c11 hf
    refine V_less (ls' := [none, none, some _, none]) ⟨rfl, trivial⟩ ?_
    cases hf
    exact hK.2 _ rfl _
  · replace hf := iteF c11 hf
    refine V_aload_n d_X2_heldBy_14 rfl rfl ?_
    refine B_get (kLand _ ha0) fl_RX2_49 d_X2_heldBy_15 g_2_12 ?_
    refine V_iload_n d_X2_heldBy_18 rfl rfl ?_
    obtain ⟨t1, ht1, hf⟩ := ob hf
    refine B_iald (kLand_7 _ ha0) ht1 d_X2_heldBy_19 ?_
    refine V_iload_n d_X2_heldBy_20 rfl rfl ?_
    have hJj2 : ∀ j2 : Int32, j2 = (if t1 = l1 then (l2 ||| (1 <<< (l3 &&& 31))) else l2) → V G C F_X2_heldBy 30 [some (.ref (G.2.1 + a0)), some (.int l1), some (.int j2), some (.int l3)] [] (pic G μ) n 0 0 := by
      intro j2 ej2
      subst ej2
      refine V_iinc (v := (l3 + 1)) (ls' := [_, _, _, _]) d_X2_heldBy_30 rfl (by rw [ic_1]) rfl ?_
      refine V_goto (tgt := 4) d_X2_heldBy_33 (by decide) ?_
      refine V_less (ls' := [some _, some _, some _, some _]) ⟨rfl, rfl, rfl, rfl, trivial⟩ ?_
      cases hf
      exact hK.1 _ rfl _
    refine V_icmp_ne (tgt := 30) d_X2_heldBy_21 (by decide) (fun c21 => ?_) (fun c21 => ?_)
    · refine V_less (ls' := [some _, some _, some _, some _]) ⟨rfl, rfl, rfl, rfl, trivial⟩ ?_
      exact hJj2 l2 (by rw [if_neg c21])
    · refine V_iload_n d_X2_heldBy_24 rfl rfl ?_
      refine V_iconst (v := 1) d_X2_heldBy_25 ic_1 ?_
      refine V_iload_n d_X2_heldBy_26 rfl rfl ?_
      refine V_ishl d_X2_heldBy_27 ?_
      refine V_ior d_X2_heldBy_28 ?_
      refine V_istore_n (ls' := [_, _, _, _]) d_X2_heldBy_29 rfl rfl rfl ?_
      refine V_less (ls' := [some _, some _, some _, some _]) ⟨rfl, rfl, rfl, rfl, trivial⟩ ?_
      exact hJj2 (l2 ||| (1 <<< (l3 &&& 31))) (by rw [if_pos c21])
theorem s_X2_heldBy_j36 {G : Gl} (hG : G.1.stackTraces = false) {C : Cx} {n : Nat} {μ : Mem} {a0 : Nat} {l2 : Int32} (ha0 : a0 ∈ landL) {r : Int32} (hf : f_X2_heldBy_j36 μ a0 l2 = some r) (hK : FinR G C F_X2_heldBy (some .int) (some (.int r)) μ) : V G C F_X2_heldBy 36 [none, none, some (.int l2), none] [] (pic G μ) n 0 0 := by
  unfold f_X2_heldBy_j36 at hf
  refine V_iload_n d_X2_heldBy_36 rfl rfl ?_
  cases hf
  exact R_i hK d_X2_heldBy_37 (Nat.le_of_ble_eq_true rfl) (Nat.le_of_ble_eq_true rfl)
theorem s_X2_heldBy_l4 {G : Gl} (hG : G.1.stackTraces = false) {C : Cx} {n : Nat} {μ : Mem} {a0 : Nat} {l1 : Int32} {l2 : Int32} {l3 : Int32} (ha0 : a0 ∈ landL) {r : Int32} (hf : f_X2_heldBy_l4 μ a0 l1 l2 l3 = some r) (hK : FinR G C F_X2_heldBy (some .int) (some (.int r)) μ) : V G C F_X2_heldBy 4 [some (.ref (G.2.1 + a0)), some (.int l1), some (.int l2), some (.int l3)] [] (pic G μ) n 0 0 := by
  unfold f_X2_heldBy_l4 at hf
  obtain ⟨t, hl, hf⟩ := ob hf
  refine loopV (P := fun z => ∀ n, V G C F_X2_heldBy 4 [some (.ref (G.2.1 + a0)), some (.int l1), some (.int z.1), some (.int z.2)] [] (pic G μ) n 0 0) (t := t) ?_ _ _ hl n
  intro z y' hy hI hT n
  refine s_X2_heldBy_b4 hG ha0 hy ⟨hI, fun x9 ex => ?_⟩
  have ex2 := hT x9 ex
  subst ex2
  intro n
  exact s_X2_heldBy_j36 hG ha0 hf hK
theorem s_X2_heldBy_e {G : Gl} (hG : G.1.stackTraces = false) {C : Cx} {n : Nat} {μ : Mem} {a0 : Nat} {p1 : Int32} (ha0 : a0 ∈ landL) {r : Int32} (hf : f_X2_heldBy μ a0 p1 = some r) (hK : FinR G C F_X2_heldBy (some .int) (some (.int r)) μ) : V G C F_X2_heldBy 0 [some (.ref (G.2.1 + a0)), some (.int p1), none, none] [] (pic G μ) n 0 0 := by
  unfold f_X2_heldBy at hf
  refine V_iconst (v := 0) d_X2_heldBy_0 ic_0 ?_
  refine V_istore_n (ls' := [_, _, _, _]) d_X2_heldBy_1 rfl rfl rfl ?_
  refine V_iconst (v := 0) d_X2_heldBy_2 ic_0 ?_
  refine V_istore_n (ls' := [_, _, _, _]) d_X2_heldBy_3 rfl rfl rfl ?_
  refine V_less (ls' := [some _, some _, some _, some _]) ⟨rfl, rfl, rfl, rfl, trivial⟩ ?_
  exact s_X2_heldBy_l4 hG ha0 hf hK
theorem s_X2_heldBy {G : Gl} (hG : G.1.stackTraces = false) {μ : Mem} {a0 : Nat} {p1 : Int32} (ha0 : a0 ∈ landL) {r : Int32} (hf : f_X2_heldBy μ a0 p1 = some r) : Rt G yX2_heldBy F_X2_heldBy (some .int) [.ref (G.2.1 + a0), .int p1] μ (some (.int r)) μ := fun n => Sd.of hG ⟨by decide +kernel, rfl, rfl⟩ rfl (Nat.le_of_ble_eq_true rfl) rfl (fun C hK => s_X2_heldBy_e hG ha0 hf hK)
theorem d_X4_ask_0 : decode F_X4_ask.2.1 0 = .ok (.aload_n 1, 1) := by decide +kernel
theorem d_X4_ask_1 : decode F_X4_ask.2.1 1 = .ok (.iload_n 2, 1) := by decide +kernel
theorem d_X4_ask_2 : decode F_X4_ask.2.1 2 = .ok (.invokevirtual 58, 3) := by decide +kernel
theorem d_X4_ask_5 : decode F_X4_ask.2.1 5 = .ok (.invokestatic 64, 3) := by decide +kernel
theorem d_X4_ask_8 : decode F_X4_ask.2.1 8 = .ok (.istore_n 3, 1) := by decide +kernel
theorem d_X4_ask_9 : decode F_X4_ask.2.1 9 = .ok (.aload_n 0, 1) := by decide +kernel
theorem d_X4_ask_10 : decode F_X4_ask.2.1 10 = .ok (.getfield 38, 3) := by decide +kernel
theorem d_X4_ask_13 : decode F_X4_ask.2.1 13 = .ok (.iconst 0, 1) := by decide +kernel
theorem d_X4_ask_14 : decode F_X4_ask.2.1 14 = .ok (.iload_n 2, 1) := by decide +kernel
theorem d_X4_ask_15 : decode F_X4_ask.2.1 15 = .ok (.iastore, 1) := by decide +kernel
theorem d_X4_ask_16 : decode F_X4_ask.2.1 16 = .ok (.aload_n 0, 1) := by decide +kernel
theorem d_X4_ask_17 : decode F_X4_ask.2.1 17 = .ok (.getfield 38, 3) := by decide +kernel
theorem d_X4_ask_20 : decode F_X4_ask.2.1 20 = .ok (.iconst 1, 1) := by decide +kernel
theorem d_X4_ask_21 : decode F_X4_ask.2.1 21 = .ok (.iload_n 3, 1) := by decide +kernel
theorem d_X4_ask_22 : decode F_X4_ask.2.1 22 = .ok (.iastore, 1) := by decide +kernel
theorem d_X4_ask_23 : decode F_X4_ask.2.1 23 = .ok (.aload_n 0, 1) := by decide +kernel
theorem d_X4_ask_24 : decode F_X4_ask.2.1 24 = .ok (.getfield 38, 3) := by decide +kernel
theorem d_X4_ask_27 : decode F_X4_ask.2.1 27 = .ok (.iconst 2, 1) := by decide +kernel
theorem d_X4_ask_28 : decode F_X4_ask.2.1 28 = .ok (.aload_n 1, 1) := by decide +kernel
theorem d_X4_ask_29 : decode F_X4_ask.2.1 29 = .ok (.iload_n 2, 1) := by decide +kernel
theorem d_X4_ask_30 : decode F_X4_ask.2.1 30 = .ok (.invokevirtual 69, 3) := by decide +kernel
theorem d_X4_ask_33 : decode F_X4_ask.2.1 33 = .ok (.invokestatic 64, 3) := by decide +kernel
theorem d_X4_ask_36 : decode F_X4_ask.2.1 36 = .ok (.iastore, 1) := by decide +kernel
theorem d_X4_ask_37 : decode F_X4_ask.2.1 37 = .ok (.aload_n 0, 1) := by decide +kernel
theorem d_X4_ask_38 : decode F_X4_ask.2.1 38 = .ok (.getfield 38, 3) := by decide +kernel
theorem d_X4_ask_41 : decode F_X4_ask.2.1 41 = .ok (.iconst 3, 1) := by decide +kernel
theorem d_X4_ask_42 : decode F_X4_ask.2.1 42 = .ok (.aload_n 1, 1) := by decide +kernel
theorem d_X4_ask_43 : decode F_X4_ask.2.1 43 = .ok (.getfield 72, 3) := by decide +kernel
theorem d_X4_ask_46 : decode F_X4_ask.2.1 46 = .ok (.iload_n 2, 1) := by decide +kernel
theorem d_X4_ask_47 : decode F_X4_ask.2.1 47 = .ok (.iaload, 1) := by decide +kernel
theorem d_X4_ask_48 : decode F_X4_ask.2.1 48 = .ok (.iastore, 1) := by decide +kernel
theorem d_X4_ask_49 : decode F_X4_ask.2.1 49 = .ok (.aload_n 0, 1) := by decide +kernel
theorem d_X4_ask_50 : decode F_X4_ask.2.1 50 = .ok (.getfield 38, 3) := by decide +kernel
theorem d_X4_ask_53 : decode F_X4_ask.2.1 53 = .ok (.iconst 4, 1) := by decide +kernel
theorem d_X4_ask_54 : decode F_X4_ask.2.1 54 = .ok (.aload_n 1, 1) := by decide +kernel
theorem d_X4_ask_55 : decode F_X4_ask.2.1 55 = .ok (.getfield 75, 3) := by decide +kernel
theorem d_X4_ask_58 : decode F_X4_ask.2.1 58 = .ok (.aload_n 1, 1) := by decide +kernel
theorem d_X4_ask_59 : decode F_X4_ask.2.1 59 = .ok (.getfield 72, 3) := by decide +kernel
theorem d_X4_ask_62 : decode F_X4_ask.2.1 62 = .ok (.iload_n 2, 1) := by decide +kernel
theorem d_X4_ask_63 : decode F_X4_ask.2.1 63 = .ok (.iaload, 1) := by decide +kernel
theorem d_X4_ask_64 : decode F_X4_ask.2.1 64 = .ok (.iaload, 1) := by decide +kernel
theorem d_X4_ask_65 : decode F_X4_ask.2.1 65 = .ok (.iastore, 1) := by decide +kernel
theorem d_X4_ask_66 : decode F_X4_ask.2.1 66 = .ok (.aload_n 0, 1) := by decide +kernel
theorem d_X4_ask_67 : decode F_X4_ask.2.1 67 = .ok (.getfield 38, 3) := by decide +kernel
theorem d_X4_ask_70 : decode F_X4_ask.2.1 70 = .ok (.iconst 5, 1) := by decide +kernel
theorem d_X4_ask_71 : decode F_X4_ask.2.1 71 = .ok (.aload_n 1, 1) := by decide +kernel
theorem d_X4_ask_72 : decode F_X4_ask.2.1 72 = .ok (.getfield 78, 3) := by decide +kernel
theorem d_X4_ask_75 : decode F_X4_ask.2.1 75 = .ok (.iload_n 2, 1) := by decide +kernel
theorem d_X4_ask_76 : decode F_X4_ask.2.1 76 = .ok (.iaload, 1) := by decide +kernel
theorem d_X4_ask_77 : decode F_X4_ask.2.1 77 = .ok (.iastore, 1) := by decide +kernel
theorem d_X4_ask_78 : decode F_X4_ask.2.1 78 = .ok (.aload_n 0, 1) := by decide +kernel
theorem d_X4_ask_79 : decode F_X4_ask.2.1 79 = .ok (.getfield 38, 3) := by decide +kernel
theorem d_X4_ask_82 : decode F_X4_ask.2.1 82 = .ok (.bipush 6, 2) := by decide +kernel
theorem d_X4_ask_84 : decode F_X4_ask.2.1 84 = .ok (.aload_n 1, 1) := by decide +kernel
theorem d_X4_ask_85 : decode F_X4_ask.2.1 85 = .ok (.getfield 81, 3) := by decide +kernel
theorem d_X4_ask_88 : decode F_X4_ask.2.1 88 = .ok (.iastore, 1) := by decide +kernel
theorem d_X4_ask_89 : decode F_X4_ask.2.1 89 = .ok (.aload_n 0, 1) := by decide +kernel
theorem d_X4_ask_90 : decode F_X4_ask.2.1 90 = .ok (.getfield 38, 3) := by decide +kernel
theorem d_X4_ask_93 : decode F_X4_ask.2.1 93 = .ok (.bipush 7, 2) := by decide +kernel
theorem d_X4_ask_95 : decode F_X4_ask.2.1 95 = .ok (.iload_n 3, 1) := by decide +kernel
theorem d_X4_ask_96 : decode F_X4_ask.2.1 96 = .ok (.iconst 1, 1) := by decide +kernel
theorem d_X4_ask_97 : decode F_X4_ask.2.1 97 = .ok (.if_icmp .eq 7, 3) := by decide +kernel
theorem d_X4_ask_100 : decode F_X4_ask.2.1 100 = .ok (.iconst 1, 1) := by decide +kernel
theorem d_X4_ask_101 : decode F_X4_ask.2.1 101 = .ok (.goto 4, 3) := by decide +kernel
theorem d_X4_ask_104 : decode F_X4_ask.2.1 104 = .ok (.iconst 0, 1) := by decide +kernel
theorem d_X4_ask_105 : decode F_X4_ask.2.1 105 = .ok (.iastore, 1) := by decide +kernel
theorem d_X4_ask_106 : decode F_X4_ask.2.1 106 = .ok (.aload_n 0, 1) := by decide +kernel
theorem d_X4_ask_107 : decode F_X4_ask.2.1 107 = .ok (.getfield 38, 3) := by decide +kernel
theorem d_X4_ask_110 : decode F_X4_ask.2.1 110 = .ok (.bipush 8, 2) := by decide +kernel
theorem d_X4_ask_112 : decode F_X4_ask.2.1 112 = .ok (.aload_n 1, 1) := by decide +kernel
theorem d_X4_ask_113 : decode F_X4_ask.2.1 113 = .ok (.getfield 72, 3) := by decide +kernel
theorem d_X4_ask_116 : decode F_X4_ask.2.1 116 = .ok (.iload_n 2, 1) := by decide +kernel
theorem d_X4_ask_117 : decode F_X4_ask.2.1 117 = .ok (.iaload, 1) := by decide +kernel
theorem d_X4_ask_118 : decode F_X4_ask.2.1 118 = .ok (.aload_n 1, 1) := by decide +kernel
theorem d_X4_ask_119 : decode F_X4_ask.2.1 119 = .ok (.getfield 84, 3) := by decide +kernel
theorem d_X4_ask_122 : decode F_X4_ask.2.1 122 = .ok (.iload_n 2, 1) := by decide +kernel
theorem d_X4_ask_123 : decode F_X4_ask.2.1 123 = .ok (.iaload, 1) := by decide +kernel
theorem d_X4_ask_124 : decode F_X4_ask.2.1 124 = .ok (.if_icmp .ne 7, 3) := by decide +kernel
theorem d_X4_ask_127 : decode F_X4_ask.2.1 127 = .ok (.iconst 1, 1) := by decide +kernel
theorem d_X4_ask_128 : decode F_X4_ask.2.1 128 = .ok (.goto 4, 3) := by decide +kernel
theorem d_X4_ask_131 : decode F_X4_ask.2.1 131 = .ok (.iconst 0, 1) := by decide +kernel
theorem d_X4_ask_132 : decode F_X4_ask.2.1 132 = .ok (.iastore, 1) := by decide +kernel
theorem d_X4_ask_133 : decode F_X4_ask.2.1 133 = .ok (.return_, 1) := by decide +kernel
def f_X4_ask (μ : Mem) (a0 : Nat) (a1 : Nat) (p2 : Int32) : Option Mem :=
Option.bind (f_X2_gaitOf μ a1 p2) fun t1 =>
Option.bind (f_J6_bitCount_0f7a4 μ t1) fun t2 =>
Option.bind (wr μ (a0 + 6) 9 0 p2) fun μ3 =>
Option.bind (wr μ3 (a0 + 6) 9 1 t2) fun μ4 =>
Option.bind (f_X2_heldBy μ4 a1 p2) fun t5 =>
Option.bind (f_J6_bitCount_0f7a4 μ4 t5) fun t6 =>
Option.bind (wr μ4 (a0 + 6) 9 2 t6) fun μ7 =>
Option.bind (rd μ7 (a1 + 3) 6 p2) fun t8 =>
Option.bind (wr μ7 (a0 + 6) 9 3 t8) fun μ9 =>
Option.bind (rd μ9 (a1 + 3) 6 p2) fun t10 =>
Option.bind (rd μ9 (a1 + 12) 20 t10) fun t11 =>
Option.bind (wr μ9 (a0 + 6) 9 4 t11) fun μ12 =>
Option.bind (rd μ12 (a1 + 5) 6 p2) fun t13 =>
Option.bind (wr μ12 (a0 + 6) 9 5 t13) fun μ14 =>
Option.bind (wr μ14 (a0 + 6) 9 6 (μ14 a1 2)) fun μ15 =>
Option.bind (wr μ15 (a0 + 6) 9 7 (b2i (if t2 = 1 then false else true))) fun μ17 =>
Option.bind (rd μ17 (a1 + 3) 6 p2) fun t18 =>
Option.bind (rd μ17 (a1 + 4) 6 p2) fun t19 =>
Option.bind (wr μ17 (a0 + 6) 9 8 (b2i (if t18 = t19 then true else false))) fun μ21 =>
some μ21
theorem s_X4_ask_e {G : Gl} (hG : G.1.stackTraces = false) {C : Cx} {n : Nat} {μ : Mem} {a0 : Nat} {a1 : Nat} {p2 : Int32} (ha0 : a0 ∈ lawL) (ha1 : a1 ∈ landL) {r : Mem} (hf : f_X4_ask μ a0 a1 p2 = some r) (hK : FinR G C F_X4_ask none none r) : V G C F_X4_ask 0 [some (.ref (G.2.1 + a0)), some (.ref (G.2.1 + a1)), some (.int p2), none] [] (pic G μ) n 0 0 := by
  unfold f_X4_ask at hf
  refine V_aload_n d_X4_ask_0 rfl rfl ?_
  refine V_iload_n d_X4_ask_1 rfl rfl ?_
  obtain ⟨t1, ht1, hf⟩ := ob hf
  refine B_callV1 (s_X2_gaitOf hG ha1 ht1) (kLand _ ha1) clX2 m_X2_gaitOf kv_RX4_58 d_X4_ask_2 rfl (Nat.le_of_ble_eq_true rfl) ⟨rfl, rfl, Nat.le_of_ble_eq_true rfl, Nat.le_of_ble_eq_true rfl, Nat.le_of_ble_eq_true rfl⟩ (fun n => ?_)
  obtain ⟨t2, ht2, hf⟩ := ob hf
  refine B_callS1 (s_J6_bitCount_0f7a4 hG ht2) m_J6_bitCount_0f7a4 ks_RX4_64 d_X4_ask_5 rfl (Nat.le_of_ble_eq_true rfl) ⟨rfl, rfl, Nat.le_of_ble_eq_true rfl, Nat.le_of_ble_eq_true rfl, Nat.le_of_ble_eq_true rfl⟩ (fun n => ?_)
  refine V_istore_n (ls' := [_, _, _, _]) d_X4_ask_8 rfl rfl rfl ?_
  refine V_aload_n d_X4_ask_9 rfl rfl ?_
  refine B_get (kLaw _ ha0) fl_RX4_38 d_X4_ask_10 g_4_8 ?_
  refine V_iconst (v := 0) d_X4_ask_13 ic_0 ?_
  refine V_iload_n d_X4_ask_14 rfl rfl ?_
  obtain ⟨μ3, hμ3, hf⟩ := ob hf
  refine B_iast (kLaw_6 _ ha0) hμ3 d_X4_ask_15 ?_
  refine V_aload_n d_X4_ask_16 rfl rfl ?_
  refine B_get (kLaw _ ha0) fl_RX4_38 d_X4_ask_17 g_4_8 ?_
  refine V_iconst (v := 1) d_X4_ask_20 ic_1 ?_
  refine V_iload_n d_X4_ask_21 rfl rfl ?_
  obtain ⟨μ4, hμ4, hf⟩ := ob hf
  refine B_iast (kLaw_6 _ ha0) hμ4 d_X4_ask_22 ?_
  refine V_aload_n d_X4_ask_23 rfl rfl ?_
  refine B_get (kLaw _ ha0) fl_RX4_38 d_X4_ask_24 g_4_8 ?_
  refine V_iconst (v := 2) d_X4_ask_27 ic_2 ?_
  refine V_aload_n d_X4_ask_28 rfl rfl ?_
  refine V_iload_n d_X4_ask_29 rfl rfl ?_
  obtain ⟨t5, ht5, hf⟩ := ob hf
  refine B_callV1 (s_X2_heldBy hG ha1 ht5) (kLand _ ha1) clX2 m_X2_heldBy kv_RX4_69 d_X4_ask_30 rfl (Nat.le_of_ble_eq_true rfl) ⟨rfl, rfl, Nat.le_of_ble_eq_true rfl, Nat.le_of_ble_eq_true rfl, Nat.le_of_ble_eq_true rfl⟩ (fun n => ?_)
  obtain ⟨t6, ht6, hf⟩ := ob hf
  refine B_callS1 (s_J6_bitCount_0f7a4 hG ht6) m_J6_bitCount_0f7a4 ks_RX4_64 d_X4_ask_33 rfl (Nat.le_of_ble_eq_true rfl) ⟨rfl, rfl, Nat.le_of_ble_eq_true rfl, Nat.le_of_ble_eq_true rfl, Nat.le_of_ble_eq_true rfl⟩ (fun n => ?_)
  obtain ⟨μ7, hμ7, hf⟩ := ob hf
  refine B_iast (kLaw_6 _ ha0) hμ7 d_X4_ask_36 ?_
  refine V_aload_n d_X4_ask_37 rfl rfl ?_
  refine B_get (kLaw _ ha0) fl_RX4_38 d_X4_ask_38 g_4_8 ?_
  refine V_iconst (v := 3) d_X4_ask_41 ic_3 ?_
  refine V_aload_n d_X4_ask_42 rfl rfl ?_
  refine B_get (kLand _ ha1) fl_RX4_72 d_X4_ask_43 g_2_8 ?_
  refine V_iload_n d_X4_ask_46 rfl rfl ?_
  obtain ⟨t8, ht8, hf⟩ := ob hf
  refine B_iald (kLand_3 _ ha1) ht8 d_X4_ask_47 ?_
  obtain ⟨μ9, hμ9, hf⟩ := ob hf
  refine B_iast (kLaw_6 _ ha0) hμ9 d_X4_ask_48 ?_
  refine V_aload_n d_X4_ask_49 rfl rfl ?_
  refine B_get (kLaw _ ha0) fl_RX4_38 d_X4_ask_50 g_4_8 ?_
  refine V_iconst (v := 4) d_X4_ask_53 ic_4 ?_
  refine V_aload_n d_X4_ask_54 rfl rfl ?_
  refine B_get (kLand _ ha1) fl_RX4_75 d_X4_ask_55 g_2_17 ?_
  refine V_aload_n d_X4_ask_58 rfl rfl ?_
  refine B_get (kLand _ ha1) fl_RX4_72 d_X4_ask_59 g_2_8 ?_
  refine V_iload_n d_X4_ask_62 rfl rfl ?_
  obtain ⟨t10, ht10, hf⟩ := ob hf
  refine B_iald (kLand_3 _ ha1) ht10 d_X4_ask_63 ?_
  obtain ⟨t11, ht11, hf⟩ := ob hf
  refine B_iald (kLand_12 _ ha1) ht11 d_X4_ask_64 ?_
  obtain ⟨μ12, hμ12, hf⟩ := ob hf
  refine B_iast (kLaw_6 _ ha0) hμ12 d_X4_ask_65 ?_
  refine V_aload_n d_X4_ask_66 rfl rfl ?_
  refine B_get (kLaw _ ha0) fl_RX4_38 d_X4_ask_67 g_4_8 ?_
  refine V_iconst (v := 5) d_X4_ask_70 ic_5 ?_
  refine V_aload_n d_X4_ask_71 rfl rfl ?_
  refine B_get (kLand _ ha1) fl_RX4_78 d_X4_ask_72 g_2_10 ?_
  refine V_iload_n d_X4_ask_75 rfl rfl ?_
  obtain ⟨t13, ht13, hf⟩ := ob hf
  refine B_iald (kLand_5 _ ha1) ht13 d_X4_ask_76 ?_
  obtain ⟨μ14, hμ14, hf⟩ := ob hf
  refine B_iast (kLaw_6 _ ha0) hμ14 d_X4_ask_77 ?_
  refine V_aload_n d_X4_ask_78 rfl rfl ?_
  refine B_get (kLaw _ ha0) fl_RX4_38 d_X4_ask_79 g_4_8 ?_
  refine V_bipush (v := 6) d_X4_ask_82 bp_6 ?_
  refine V_aload_n d_X4_ask_84 rfl rfl ?_
  refine B_get (kLand _ ha1) fl_RX4_81 d_X4_ask_85 g_2_2 ?_
  obtain ⟨μ15, hμ15, hf⟩ := ob hf
  refine B_iast (kLaw_6 _ ha0) hμ15 d_X4_ask_88 ?_
  refine V_aload_n d_X4_ask_89 rfl rfl ?_
  refine B_get (kLaw _ ha0) fl_RX4_38 d_X4_ask_90 g_4_8 ?_
  refine V_bipush (v := 7) d_X4_ask_93 bp_7 ?_
  refine V_iload_n d_X4_ask_95 rfl rfl ?_
  refine V_iconst (v := 1) d_X4_ask_96 ic_1 ?_
  have hJj16 : ∀ j16 : Bool, j16 = (if t2 = 1 then false else true) → V G C F_X4_ask 105 [some (.ref (G.2.1 + a0)), some (.ref (G.2.1 + a1)), some (.int p2), none] [.int (b2i j16), .int 7, .ref (G.2.1 + (a0 + 6))] (pic G μ15) n 0 0 := by
    intro j16 ej16
    subst ej16
    obtain ⟨μ17, hμ17, hf⟩ := ob hf
    refine B_iast (kLaw_6 _ ha0) hμ17 d_X4_ask_105 ?_
    refine V_aload_n d_X4_ask_106 rfl rfl ?_
    refine B_get (kLaw _ ha0) fl_RX4_38 d_X4_ask_107 g_4_8 ?_
    refine V_bipush (v := 8) d_X4_ask_110 bp_8 ?_
    refine V_aload_n d_X4_ask_112 rfl rfl ?_
    refine B_get (kLand _ ha1) fl_RX4_72 d_X4_ask_113 g_2_8 ?_
    refine V_iload_n d_X4_ask_116 rfl rfl ?_
    obtain ⟨t18, ht18, hf⟩ := ob hf
    refine B_iald (kLand_3 _ ha1) ht18 d_X4_ask_117 ?_
    refine V_aload_n d_X4_ask_118 rfl rfl ?_
    refine B_get (kLand _ ha1) fl_RX4_84 d_X4_ask_119 g_2_9 ?_
    refine V_iload_n d_X4_ask_122 rfl rfl ?_
    obtain ⟨t19, ht19, hf⟩ := ob hf
    refine B_iald (kLand_4 _ ha1) ht19 d_X4_ask_123 ?_
    have hJj20 : ∀ j20 : Bool, j20 = (if t18 = t19 then true else false) → V G C F_X4_ask 132 [none, none, none, none] [.int (b2i j20), .int 8, .ref (G.2.1 + (a0 + 6))] (pic G μ17) n 0 0 := by
      intro j20 ej20
      subst ej20
      obtain ⟨μ21, hμ21, hf⟩ := ob hf
      refine B_iast (kLaw_6 _ ha0) hμ21 d_X4_ask_132 ?_
      cases hf
      exact R_v hK d_X4_ask_133 (Nat.le_of_ble_eq_true rfl) (Nat.le_of_ble_eq_true rfl)
    refine V_icmp_ne (tgt := 131) d_X4_ask_124 (by decide) (fun c124 => ?_) (fun c124 => ?_)
    · refine V_iconst (v := 0) d_X4_ask_131 ic_0 ?_
      refine V_less (ls' := [none, none, none, none]) trivial ?_
      exact hJj20 false (by rw [if_neg c124])
    · refine V_iconst (v := 1) d_X4_ask_127 ic_1 ?_
      refine V_goto (tgt := 132) d_X4_ask_128 (by decide) ?_
      refine V_less (ls' := [none, none, none, none]) trivial ?_
      exact hJj20 true (by rw [if_pos c124])
  refine V_icmp_eq (tgt := 104) d_X4_ask_97 (by decide) (fun c97 => ?_) (fun c97 => ?_)
  · refine V_iconst (v := 0) d_X4_ask_104 ic_0 ?_
    refine V_less (ls' := [some _, some _, some _, none]) ⟨rfl, rfl, rfl, trivial⟩ ?_
    exact hJj16 false (by rw [if_pos c97])
  · refine V_iconst (v := 1) d_X4_ask_100 ic_1 ?_
    refine V_goto (tgt := 105) d_X4_ask_101 (by decide) ?_
    refine V_less (ls' := [some _, some _, some _, none]) ⟨rfl, rfl, rfl, trivial⟩ ?_
    exact hJj16 true (by rw [if_neg c97])
theorem s_X4_ask {G : Gl} (hG : G.1.stackTraces = false) {μ : Mem} {a0 : Nat} {a1 : Nat} {p2 : Int32} (ha0 : a0 ∈ lawL) (ha1 : a1 ∈ landL) {r : Mem} (hf : f_X4_ask μ a0 a1 p2 = some r) : Rt G yX4_ask F_X4_ask none [.ref (G.2.1 + a0), .ref (G.2.1 + a1), .int p2] μ none r := fun n => Sd.of hG ⟨by decide +kernel, rfl, rfl⟩ rfl (Nat.le_of_ble_eq_true rfl) rfl (fun C hK => s_X4_ask_e hG ha0 ha1 hf hK)
theorem d_X2_slackOf_0 : decode F_X2_slackOf.2.1 0 = .ok (.aload_n 0, 1) := by decide +kernel
theorem d_X2_slackOf_1 : decode F_X2_slackOf.2.1 1 = .ok (.iload_n 1, 1) := by decide +kernel
theorem d_X2_slackOf_2 : decode F_X2_slackOf.2.1 2 = .ok (.invokevirtual 138, 3) := by decide +kernel
theorem d_X2_slackOf_5 : decode F_X2_slackOf.2.1 5 = .ok (.invokestatic 141, 3) := by decide +kernel
theorem d_X2_slackOf_8 : decode F_X2_slackOf.2.1 8 = .ok (.ireturn, 1) := by decide +kernel
def f_X2_slackOf (μ : Mem) (a0 : Nat) (p1 : Int32) : Option Int32 :=
Option.bind (f_X2_gaitOf μ a0 p1) fun t1 =>
Option.bind (f_J6_bitCount_0f7a4 μ t1) fun t2 =>
some t2
theorem s_X2_slackOf_e {G : Gl} (hG : G.1.stackTraces = false) {C : Cx} {n : Nat} {μ : Mem} {a0 : Nat} {p1 : Int32} (ha0 : a0 ∈ landL) {r : Int32} (hf : f_X2_slackOf μ a0 p1 = some r) (hK : FinR G C F_X2_slackOf (some .int) (some (.int r)) μ) : V G C F_X2_slackOf 0 [some (.ref (G.2.1 + a0)), some (.int p1)] [] (pic G μ) n 0 0 := by
  unfold f_X2_slackOf at hf
  refine V_aload_n d_X2_slackOf_0 rfl rfl ?_
  refine V_iload_n d_X2_slackOf_1 rfl rfl ?_
  obtain ⟨t1, ht1, hf⟩ := ob hf
  refine B_callV1 (s_X2_gaitOf hG ha0 ht1) (kLand _ ha0) clX2 m_X2_gaitOf kv_RX2_138 d_X2_slackOf_2 rfl (Nat.le_of_ble_eq_true rfl) ⟨rfl, rfl, Nat.le_of_ble_eq_true rfl, Nat.le_of_ble_eq_true rfl, Nat.le_of_ble_eq_true rfl⟩ (fun n => ?_)
  obtain ⟨t2, ht2, hf⟩ := ob hf
  refine B_callS1 (s_J6_bitCount_0f7a4 hG ht2) m_J6_bitCount_0f7a4 ks_RX2_141 d_X2_slackOf_5 rfl (Nat.le_of_ble_eq_true rfl) ⟨rfl, rfl, Nat.le_of_ble_eq_true rfl, Nat.le_of_ble_eq_true rfl, Nat.le_of_ble_eq_true rfl⟩ (fun n => ?_)
  cases hf
  exact R_i hK d_X2_slackOf_8 (Nat.le_of_ble_eq_true rfl) (Nat.le_of_ble_eq_true rfl)
theorem s_X2_slackOf {G : Gl} (hG : G.1.stackTraces = false) {μ : Mem} {a0 : Nat} {p1 : Int32} (ha0 : a0 ∈ landL) {r : Int32} (hf : f_X2_slackOf μ a0 p1 = some r) : Rt G yX2_slackOf F_X2_slackOf (some .int) [.ref (G.2.1 + a0), .int p1] μ (some (.int r)) μ := fun n => Sd.of hG ⟨by decide +kernel, rfl, rfl⟩ rfl (Nat.le_of_ble_eq_true rfl) rfl (fun C hK => s_X2_slackOf_e hG ha0 hf hK)
theorem d_J9_max_7cf53_0 : decode F_J9_max_7cf53.2.1 0 = .ok (.iload_n 0, 1) := by decide +kernel
theorem d_J9_max_7cf53_1 : decode F_J9_max_7cf53.2.1 1 = .ok (.iload_n 1, 1) := by decide +kernel
theorem d_J9_max_7cf53_2 : decode F_J9_max_7cf53.2.1 2 = .ok (.if_icmp .lt 7, 3) := by decide +kernel
theorem d_J9_max_7cf53_5 : decode F_J9_max_7cf53.2.1 5 = .ok (.iload_n 0, 1) := by decide +kernel
theorem d_J9_max_7cf53_6 : decode F_J9_max_7cf53.2.1 6 = .ok (.goto 4, 3) := by decide +kernel
theorem d_J9_max_7cf53_9 : decode F_J9_max_7cf53.2.1 9 = .ok (.iload_n 1, 1) := by decide +kernel
theorem d_J9_max_7cf53_10 : decode F_J9_max_7cf53.2.1 10 = .ok (.ireturn, 1) := by decide +kernel
def f_J9_max_7cf53 (μ : Mem) (p0 : Int32) (p1 : Int32) : Option Int32 :=
some (if p0 < p1 then p1 else p0)
theorem s_J9_max_7cf53_e {G : Gl} (hG : G.1.stackTraces = false) {C : Cx} {n : Nat} {μ : Mem} {p0 : Int32} {p1 : Int32} {r : Int32} (hf : f_J9_max_7cf53 μ p0 p1 = some r) (hK : FinR G C F_J9_max_7cf53 (some .int) (some (.int r)) μ) : V G C F_J9_max_7cf53 0 [some (.int p0), some (.int p1)] [] (pic G μ) n 0 0 := by
  unfold f_J9_max_7cf53 at hf
  refine V_iload_n d_J9_max_7cf53_0 rfl rfl ?_
  refine V_iload_n d_J9_max_7cf53_1 rfl rfl ?_
  have hJj1 : ∀ j1 : Int32, j1 = (if p0 < p1 then p1 else p0) → V G C F_J9_max_7cf53 10 [none, none] [.int j1] (pic G μ) n 0 0 := by
    intro j1 ej1
    subst ej1
    cases hf
    exact R_i hK d_J9_max_7cf53_10 (Nat.le_of_ble_eq_true rfl) (Nat.le_of_ble_eq_true rfl)
  refine V_icmp_lt (tgt := 9) d_J9_max_7cf53_2 (by decide) (fun c2 => ?_) (fun c2 => ?_)
  · refine V_iload_n d_J9_max_7cf53_9 rfl rfl ?_
    refine V_less (ls' := [none, none]) trivial ?_
    exact hJj1 p1 (by rw [if_pos c2])
  · refine V_iload_n d_J9_max_7cf53_5 rfl rfl ?_
    refine V_goto (tgt := 10) d_J9_max_7cf53_6 (by decide) ?_
    refine V_less (ls' := [none, none]) trivial ?_
    exact hJj1 p0 (by rw [if_neg c2])
theorem s_J9_max_7cf53 {G : Gl} (hG : G.1.stackTraces = false) {μ : Mem} {p0 : Int32} {p1 : Int32} {r : Int32} (hf : f_J9_max_7cf53 μ p0 p1 = some r) : Rt G yJ9_max_7cf53 F_J9_max_7cf53 (some .int) [.int p0, .int p1] μ (some (.int r)) μ := fun n => Sd.ofJ hG ⟨by decide +kernel, rfl, rfl⟩ rfl (Nat.le_of_ble_eq_true rfl) rfl (fun C hK => s_J9_max_7cf53_e hG hf hK)
theorem d_X2_fall_0 : decode F_X2_fall.2.1 0 = .ok (.aload_n 0, 1) := by decide +kernel
theorem d_X2_fall_1 : decode F_X2_fall.2.1 1 = .ok (.getfield 30, 3) := by decide +kernel
theorem d_X2_fall_4 : decode F_X2_fall.2.1 4 = .ok (.iload_n 1, 1) := by decide +kernel
theorem d_X2_fall_5 : decode F_X2_fall.2.1 5 = .ok (.iconst 0, 1) := by decide +kernel
theorem d_X2_fall_6 : decode F_X2_fall.2.1 6 = .ok (.aload_n 0, 1) := by decide +kernel
theorem d_X2_fall_7 : decode F_X2_fall.2.1 7 = .ok (.getfield 30, 3) := by decide +kernel
theorem d_X2_fall_10 : decode F_X2_fall.2.1 10 = .ok (.iload_n 1, 1) := by decide +kernel
theorem d_X2_fall_11 : decode F_X2_fall.2.1 11 = .ok (.iaload, 1) := by decide +kernel
theorem d_X2_fall_12 : decode F_X2_fall.2.1 12 = .ok (.aload_n 0, 1) := by decide +kernel
theorem d_X2_fall_13 : decode F_X2_fall.2.1 13 = .ok (.getfield 21, 3) := by decide +kernel
theorem d_X2_fall_16 : decode F_X2_fall.2.1 16 = .ok (.isub, 1) := by decide +kernel
theorem d_X2_fall_17 : decode F_X2_fall.2.1 17 = .ok (.invokestatic 132, 3) := by decide +kernel
theorem d_X2_fall_20 : decode F_X2_fall.2.1 20 = .ok (.iastore, 1) := by decide +kernel
theorem d_X2_fall_21 : decode F_X2_fall.2.1 21 = .ok (.aload_n 0, 1) := by decide +kernel
theorem d_X2_fall_22 : decode F_X2_fall.2.1 22 = .ok (.getfield 43, 3) := by decide +kernel
theorem d_X2_fall_25 : decode F_X2_fall.2.1 25 = .ok (.iload_n 1, 1) := by decide +kernel
theorem d_X2_fall_26 : decode F_X2_fall.2.1 26 = .ok (.bipush 9, 2) := by decide +kernel
theorem d_X2_fall_28 : decode F_X2_fall.2.1 28 = .ok (.aload_n 0, 1) := by decide +kernel
theorem d_X2_fall_29 : decode F_X2_fall.2.1 29 = .ok (.getfield 43, 3) := by decide +kernel
theorem d_X2_fall_32 : decode F_X2_fall.2.1 32 = .ok (.iload_n 1, 1) := by decide +kernel
theorem d_X2_fall_33 : decode F_X2_fall.2.1 33 = .ok (.iaload, 1) := by decide +kernel
theorem d_X2_fall_34 : decode F_X2_fall.2.1 34 = .ok (.iconst 1, 1) := by decide +kernel
theorem d_X2_fall_35 : decode F_X2_fall.2.1 35 = .ok (.iadd, 1) := by decide +kernel
theorem d_X2_fall_36 : decode F_X2_fall.2.1 36 = .ok (.invokestatic 96, 3) := by decide +kernel
theorem d_X2_fall_39 : decode F_X2_fall.2.1 39 = .ok (.iastore, 1) := by decide +kernel
theorem d_X2_fall_40 : decode F_X2_fall.2.1 40 = .ok (.return_, 1) := by decide +kernel
def f_X2_fall (μ : Mem) (a0 : Nat) (p1 : Int32) : Option Mem :=
Option.bind (rd μ (a0 + 1) 6 p1) fun t1 =>
Option.bind (f_J9_max_7cf53 μ 0 (t1 - (μ a0 3))) fun t2 =>
Option.bind (wr μ (a0 + 1) 6 p1 t2) fun μ3 =>
Option.bind (rd μ3 (a0 + 5) 6 p1) fun t4 =>
Option.bind (f_J9_min_7cf53 μ3 9 (t4 + 1)) fun t5 =>
Option.bind (wr μ3 (a0 + 5) 6 p1 t5) fun μ6 =>
some μ6
theorem s_X2_fall_e {G : Gl} (hG : G.1.stackTraces = false) {C : Cx} {n : Nat} {μ : Mem} {a0 : Nat} {p1 : Int32} (ha0 : a0 ∈ landL) {r : Mem} (hf : f_X2_fall μ a0 p1 = some r) (hK : FinR G C F_X2_fall none none r) : V G C F_X2_fall 0 [some (.ref (G.2.1 + a0)), some (.int p1)] [] (pic G μ) n 0 0 := by
  unfold f_X2_fall at hf
  refine V_aload_n d_X2_fall_0 rfl rfl ?_
  refine B_get (kLand _ ha0) fl_RX2_30 d_X2_fall_1 g_2_6 ?_
  refine V_iload_n d_X2_fall_4 rfl rfl ?_
  refine V_iconst (v := 0) d_X2_fall_5 ic_0 ?_
  refine V_aload_n d_X2_fall_6 rfl rfl ?_
  refine B_get (kLand _ ha0) fl_RX2_30 d_X2_fall_7 g_2_6 ?_
  refine V_iload_n d_X2_fall_10 rfl rfl ?_
  obtain ⟨t1, ht1, hf⟩ := ob hf
  refine B_iald (kLand_1 _ ha0) ht1 d_X2_fall_11 ?_
  refine V_aload_n d_X2_fall_12 rfl rfl ?_
  refine B_get (kLand _ ha0) fl_RX2_21 d_X2_fall_13 g_2_3 ?_
  refine V_isub d_X2_fall_16 ?_
  obtain ⟨t2, ht2, hf⟩ := ob hf
  refine B_callS1 (s_J9_max_7cf53 hG ht2) m_J9_max_7cf53 ks_RX2_132 d_X2_fall_17 rfl (Nat.le_of_ble_eq_true rfl) ⟨rfl, rfl, Nat.le_of_ble_eq_true rfl, Nat.le_of_ble_eq_true rfl, Nat.le_of_ble_eq_true rfl⟩ (fun n => ?_)
  obtain ⟨μ3, hμ3, hf⟩ := ob hf
  refine B_iast (kLand_1 _ ha0) hμ3 d_X2_fall_20 ?_
  refine V_aload_n d_X2_fall_21 rfl rfl ?_
  refine B_get (kLand _ ha0) fl_RX2_43 d_X2_fall_22 g_2_10 ?_
  refine V_iload_n d_X2_fall_25 rfl rfl ?_
  refine V_bipush (v := 9) d_X2_fall_26 bp_9 ?_
  refine V_aload_n d_X2_fall_28 rfl rfl ?_
  refine B_get (kLand _ ha0) fl_RX2_43 d_X2_fall_29 g_2_10 ?_
  refine V_iload_n d_X2_fall_32 rfl rfl ?_
  obtain ⟨t4, ht4, hf⟩ := ob hf
  refine B_iald (kLand_5 _ ha0) ht4 d_X2_fall_33 ?_
  refine V_iconst (v := 1) d_X2_fall_34 ic_1 ?_
  refine V_iadd d_X2_fall_35 ?_
  obtain ⟨t5, ht5, hf⟩ := ob hf
  refine B_callS1 (s_J9_min_7cf53 hG ht5) m_J9_min_7cf53 ks_RX2_96 d_X2_fall_36 rfl (Nat.le_of_ble_eq_true rfl) ⟨rfl, rfl, Nat.le_of_ble_eq_true rfl, Nat.le_of_ble_eq_true rfl, Nat.le_of_ble_eq_true rfl⟩ (fun n => ?_)
  obtain ⟨μ6, hμ6, hf⟩ := ob hf
  refine B_iast (kLand_5 _ ha0) hμ6 d_X2_fall_39 ?_
  cases hf
  exact R_v hK d_X2_fall_40 (Nat.le_of_ble_eq_true rfl) (Nat.le_of_ble_eq_true rfl)
theorem s_X2_fall {G : Gl} (hG : G.1.stackTraces = false) {μ : Mem} {a0 : Nat} {p1 : Int32} (ha0 : a0 ∈ landL) {r : Mem} (hf : f_X2_fall μ a0 p1 = some r) : Rt G yX2_fall F_X2_fall none [.ref (G.2.1 + a0), .int p1] μ none r := fun n => Sd.of hG ⟨by decide +kernel, rfl, rfl⟩ rfl (Nat.le_of_ble_eq_true rfl) rfl (fun C hK => s_X2_fall_e hG ha0 hf hK)
theorem d_X2_walk_0 : decode F_X2_walk.2.1 0 = .ok (.aload_n 0, 1) := by decide +kernel
theorem d_X2_walk_1 : decode F_X2_walk.2.1 1 = .ok (.getfield 37, 3) := by decide +kernel
theorem d_X2_walk_4 : decode F_X2_walk.2.1 4 = .ok (.iload_n 1, 1) := by decide +kernel
theorem d_X2_walk_5 : decode F_X2_walk.2.1 5 = .ok (.iaload, 1) := by decide +kernel
theorem d_X2_walk_6 : decode F_X2_walk.2.1 6 = .ok (.aload_n 0, 1) := by decide +kernel
theorem d_X2_walk_7 : decode F_X2_walk.2.1 7 = .ok (.getfield 40, 3) := by decide +kernel
theorem d_X2_walk_10 : decode F_X2_walk.2.1 10 = .ok (.iload_n 1, 1) := by decide +kernel
theorem d_X2_walk_11 : decode F_X2_walk.2.1 11 = .ok (.iaload, 1) := by decide +kernel
theorem d_X2_walk_12 : decode F_X2_walk.2.1 12 = .ok (.if_icmp .ge 29, 3) := by decide +kernel
theorem d_X2_walk_15 : decode F_X2_walk.2.1 15 = .ok (.aload_n 0, 1) := by decide +kernel
theorem d_X2_walk_16 : decode F_X2_walk.2.1 16 = .ok (.getfield 37, 3) := by decide +kernel
theorem d_X2_walk_19 : decode F_X2_walk.2.1 19 = .ok (.iload_n 1, 1) := by decide +kernel
theorem d_X2_walk_20 : decode F_X2_walk.2.1 20 = .ok (.aload_n 0, 1) := by decide +kernel
theorem d_X2_walk_21 : decode F_X2_walk.2.1 21 = .ok (.getfield 40, 3) := by decide +kernel
theorem d_X2_walk_24 : decode F_X2_walk.2.1 24 = .ok (.iload_n 1, 1) := by decide +kernel
theorem d_X2_walk_25 : decode F_X2_walk.2.1 25 = .ok (.iaload, 1) := by decide +kernel
theorem d_X2_walk_26 : decode F_X2_walk.2.1 26 = .ok (.aload_n 0, 1) := by decide +kernel
theorem d_X2_walk_27 : decode F_X2_walk.2.1 27 = .ok (.getfield 37, 3) := by decide +kernel
theorem d_X2_walk_30 : decode F_X2_walk.2.1 30 = .ok (.iload_n 1, 1) := by decide +kernel
theorem d_X2_walk_31 : decode F_X2_walk.2.1 31 = .ok (.iaload, 1) := by decide +kernel
theorem d_X2_walk_32 : decode F_X2_walk.2.1 32 = .ok (.iload_n 2, 1) := by decide +kernel
theorem d_X2_walk_33 : decode F_X2_walk.2.1 33 = .ok (.iadd, 1) := by decide +kernel
theorem d_X2_walk_34 : decode F_X2_walk.2.1 34 = .ok (.invokestatic 96, 3) := by decide +kernel
theorem d_X2_walk_37 : decode F_X2_walk.2.1 37 = .ok (.iastore, 1) := by decide +kernel
theorem d_X2_walk_38 : decode F_X2_walk.2.1 38 = .ok (.goto 26, 3) := by decide +kernel
theorem d_X2_walk_41 : decode F_X2_walk.2.1 41 = .ok (.aload_n 0, 1) := by decide +kernel
theorem d_X2_walk_42 : decode F_X2_walk.2.1 42 = .ok (.getfield 37, 3) := by decide +kernel
theorem d_X2_walk_45 : decode F_X2_walk.2.1 45 = .ok (.iload_n 1, 1) := by decide +kernel
theorem d_X2_walk_46 : decode F_X2_walk.2.1 46 = .ok (.aload_n 0, 1) := by decide +kernel
theorem d_X2_walk_47 : decode F_X2_walk.2.1 47 = .ok (.getfield 40, 3) := by decide +kernel
theorem d_X2_walk_50 : decode F_X2_walk.2.1 50 = .ok (.iload_n 1, 1) := by decide +kernel
theorem d_X2_walk_51 : decode F_X2_walk.2.1 51 = .ok (.iaload, 1) := by decide +kernel
theorem d_X2_walk_52 : decode F_X2_walk.2.1 52 = .ok (.aload_n 0, 1) := by decide +kernel
theorem d_X2_walk_53 : decode F_X2_walk.2.1 53 = .ok (.getfield 37, 3) := by decide +kernel
theorem d_X2_walk_56 : decode F_X2_walk.2.1 56 = .ok (.iload_n 1, 1) := by decide +kernel
theorem d_X2_walk_57 : decode F_X2_walk.2.1 57 = .ok (.iaload, 1) := by decide +kernel
theorem d_X2_walk_58 : decode F_X2_walk.2.1 58 = .ok (.iload_n 2, 1) := by decide +kernel
theorem d_X2_walk_59 : decode F_X2_walk.2.1 59 = .ok (.isub, 1) := by decide +kernel
theorem d_X2_walk_60 : decode F_X2_walk.2.1 60 = .ok (.invokestatic 132, 3) := by decide +kernel
theorem d_X2_walk_63 : decode F_X2_walk.2.1 63 = .ok (.iastore, 1) := by decide +kernel
theorem d_X2_walk_64 : decode F_X2_walk.2.1 64 = .ok (.return_, 1) := by decide +kernel
def f_X2_walk_j64 (μ : Mem) (a0 : Nat) : Option Mem :=
some μ
def f_X2_walk (μ : Mem) (a0 : Nat) (p1 : Int32) (p2 : Int32) : Option Mem :=
Option.bind (rd μ (a0 + 3) 6 p1) fun t1 =>
Option.bind (rd μ (a0 + 4) 6 p1) fun t2 =>
if t2 ≤ t1 then
Option.bind (rd μ (a0 + 4) 6 p1) fun t3 =>
Option.bind (rd μ (a0 + 3) 6 p1) fun t4 =>
Option.bind (f_J9_max_7cf53 μ t3 (t4 - p2)) fun t5 =>
Option.bind (wr μ (a0 + 3) 6 p1 t5) fun μ6 =>
f_X2_walk_j64 μ6 a0
else
Option.bind (rd μ (a0 + 4) 6 p1) fun t7 =>
Option.bind (rd μ (a0 + 3) 6 p1) fun t8 =>
Option.bind (f_J9_min_7cf53 μ t7 (t8 + p2)) fun t9 =>
Option.bind (wr μ (a0 + 3) 6 p1 t9) fun μ10 =>
f_X2_walk_j64 μ10 a0
theorem s_X2_walk_j64 {G : Gl} (hG : G.1.stackTraces = false) {C : Cx} {n : Nat} {μ : Mem} {a0 : Nat} (ha0 : a0 ∈ landL) {r : Mem} (hf : f_X2_walk_j64 μ a0 = some r) (hK : FinR G C F_X2_walk none none r) : V G C F_X2_walk 64 [none, none, none] [] (pic G μ) n 0 0 := by
  unfold f_X2_walk_j64 at hf
  cases hf
  exact R_v hK d_X2_walk_64 (Nat.le_of_ble_eq_true rfl) (Nat.le_of_ble_eq_true rfl)
theorem s_X2_walk_e {G : Gl} (hG : G.1.stackTraces = false) {C : Cx} {n : Nat} {μ : Mem} {a0 : Nat} {p1 : Int32} {p2 : Int32} (ha0 : a0 ∈ landL) {r : Mem} (hf : f_X2_walk μ a0 p1 p2 = some r) (hK : FinR G C F_X2_walk none none r) : V G C F_X2_walk 0 [some (.ref (G.2.1 + a0)), some (.int p1), some (.int p2)] [] (pic G μ) n 0 0 := by
  unfold f_X2_walk at hf
  refine V_aload_n d_X2_walk_0 rfl rfl ?_
  refine B_get (kLand _ ha0) fl_RX2_37 d_X2_walk_1 g_2_8 ?_
  refine V_iload_n d_X2_walk_4 rfl rfl ?_
  obtain ⟨t1, ht1, hf⟩ := ob hf
  refine B_iald (kLand_3 _ ha0) ht1 d_X2_walk_5 ?_
  refine V_aload_n d_X2_walk_6 rfl rfl ?_
  refine B_get (kLand _ ha0) fl_RX2_40 d_X2_walk_7 g_2_9 ?_
  refine V_iload_n d_X2_walk_10 rfl rfl ?_
  obtain ⟨t2, ht2, hf⟩ := ob hf
  refine B_iald (kLand_4 _ ha0) ht2 d_X2_walk_11 ?_
  refine V_icmp_ge (tgt := 41) d_X2_walk_12 (by decide) (fun c12 => ?_) (fun c12 => ?_)
  · replace hf := iteT c12 hf
    refine V_aload_n d_X2_walk_41 rfl rfl ?_
    refine B_get (kLand _ ha0) fl_RX2_37 d_X2_walk_42 g_2_8 ?_
    refine V_iload_n d_X2_walk_45 rfl rfl ?_
    refine V_aload_n d_X2_walk_46 rfl rfl ?_
    refine B_get (kLand _ ha0) fl_RX2_40 d_X2_walk_47 g_2_9 ?_
    refine V_iload_n d_X2_walk_50 rfl rfl ?_
    obtain ⟨t3, ht3, hf⟩ := ob hf
    refine B_iald (kLand_4 _ ha0) ht3 d_X2_walk_51 ?_
    refine V_aload_n d_X2_walk_52 rfl rfl ?_
    refine B_get (kLand _ ha0) fl_RX2_37 d_X2_walk_53 g_2_8 ?_
    refine V_iload_n d_X2_walk_56 rfl rfl ?_
    obtain ⟨t4, ht4, hf⟩ := ob hf
    refine B_iald (kLand_3 _ ha0) ht4 d_X2_walk_57 ?_
    refine V_iload_n d_X2_walk_58 rfl rfl ?_
    refine V_isub d_X2_walk_59 ?_
    obtain ⟨t5, ht5, hf⟩ := ob hf
    refine B_callS1 (s_J9_max_7cf53 hG ht5) m_J9_max_7cf53 ks_RX2_132 d_X2_walk_60 rfl (Nat.le_of_ble_eq_true rfl) ⟨rfl, rfl, Nat.le_of_ble_eq_true rfl, Nat.le_of_ble_eq_true rfl, Nat.le_of_ble_eq_true rfl⟩ (fun n => ?_)
    obtain ⟨μ6, hμ6, hf⟩ := ob hf
    refine B_iast (kLand_3 _ ha0) hμ6 d_X2_walk_63 ?_
    refine V_less (ls' := [none, none, none]) trivial ?_
    exact s_X2_walk_j64 hG ha0 hf hK
  · replace hf := iteF c12 hf
    refine V_aload_n d_X2_walk_15 rfl rfl ?_
    refine B_get (kLand _ ha0) fl_RX2_37 d_X2_walk_16 g_2_8 ?_
    refine V_iload_n d_X2_walk_19 rfl rfl ?_
    refine V_aload_n d_X2_walk_20 rfl rfl ?_
    refine B_get (kLand _ ha0) fl_RX2_40 d_X2_walk_21 g_2_9 ?_
    refine V_iload_n d_X2_walk_24 rfl rfl ?_
    obtain ⟨t7, ht7, hf⟩ := ob hf
    refine B_iald (kLand_4 _ ha0) ht7 d_X2_walk_25 ?_
    refine V_aload_n d_X2_walk_26 rfl rfl ?_
    refine B_get (kLand _ ha0) fl_RX2_37 d_X2_walk_27 g_2_8 ?_
    refine V_iload_n d_X2_walk_30 rfl rfl ?_
    obtain ⟨t8, ht8, hf⟩ := ob hf
    refine B_iald (kLand_3 _ ha0) ht8 d_X2_walk_31 ?_
    refine V_iload_n d_X2_walk_32 rfl rfl ?_
    refine V_iadd d_X2_walk_33 ?_
    obtain ⟨t9, ht9, hf⟩ := ob hf
    refine B_callS1 (s_J9_min_7cf53 hG ht9) m_J9_min_7cf53 ks_RX2_96 d_X2_walk_34 rfl (Nat.le_of_ble_eq_true rfl) ⟨rfl, rfl, Nat.le_of_ble_eq_true rfl, Nat.le_of_ble_eq_true rfl, Nat.le_of_ble_eq_true rfl⟩ (fun n => ?_)
    obtain ⟨μ10, hμ10, hf⟩ := ob hf
    refine B_iast (kLand_3 _ ha0) hμ10 d_X2_walk_37 ?_
    refine V_goto (tgt := 64) d_X2_walk_38 (by decide) ?_
    refine V_less (ls' := [none, none, none]) trivial ?_
    exact s_X2_walk_j64 hG ha0 hf hK
theorem s_X2_walk {G : Gl} (hG : G.1.stackTraces = false) {μ : Mem} {a0 : Nat} {p1 : Int32} {p2 : Int32} (ha0 : a0 ∈ landL) {r : Mem} (hf : f_X2_walk μ a0 p1 p2 = some r) : Rt G yX2_walk F_X2_walk none [.ref (G.2.1 + a0), .int p1, .int p2] μ none r := fun n => Sd.of hG ⟨by decide +kernel, rfl, rfl⟩ rfl (Nat.le_of_ble_eq_true rfl) rfl (fun C hK => s_X2_walk_e hG ha0 hf hK)
theorem d_X2_isPledged_0 : decode F_X2_isPledged.2.1 0 = .ok (.aload_n 0, 1) := by decide +kernel
theorem d_X2_isPledged_1 : decode F_X2_isPledged.2.1 1 = .ok (.getfield 46, 3) := by decide +kernel
theorem d_X2_isPledged_4 : decode F_X2_isPledged.2.1 4 = .ok (.iload_n 1, 1) := by decide +kernel
theorem d_X2_isPledged_5 : decode F_X2_isPledged.2.1 5 = .ok (.iaload, 1) := by decide +kernel
theorem d_X2_isPledged_6 : decode F_X2_isPledged.2.1 6 = .ok (.iconst 1, 1) := by decide +kernel
theorem d_X2_isPledged_7 : decode F_X2_isPledged.2.1 7 = .ok (.if_icmp .ne 7, 3) := by decide +kernel
theorem d_X2_isPledged_10 : decode F_X2_isPledged.2.1 10 = .ok (.iconst 1, 1) := by decide +kernel
theorem d_X2_isPledged_11 : decode F_X2_isPledged.2.1 11 = .ok (.goto 4, 3) := by decide +kernel
theorem d_X2_isPledged_14 : decode F_X2_isPledged.2.1 14 = .ok (.iconst 0, 1) := by decide +kernel
theorem d_X2_isPledged_15 : decode F_X2_isPledged.2.1 15 = .ok (.ireturn, 1) := by decide +kernel
def f_X2_isPledged (μ : Mem) (a0 : Nat) (p1 : Int32) : Option Bool :=
Option.bind (rd μ (a0 + 6) 12 p1) fun t1 =>
some (if t1 = 1 then true else false)
theorem s_X2_isPledged_e {G : Gl} (hG : G.1.stackTraces = false) {C : Cx} {n : Nat} {μ : Mem} {a0 : Nat} {p1 : Int32} (ha0 : a0 ∈ landL) {r : Bool} (hf : f_X2_isPledged μ a0 p1 = some r) (hK : FinR G C F_X2_isPledged (some .boolean) (some (.int (b2i r))) μ) : V G C F_X2_isPledged 0 [some (.ref (G.2.1 + a0)), some (.int p1)] [] (pic G μ) n 0 0 := by
  unfold f_X2_isPledged at hf
  refine V_aload_n d_X2_isPledged_0 rfl rfl ?_
  refine B_get (kLand _ ha0) fl_RX2_46 d_X2_isPledged_1 g_2_11 ?_
  refine V_iload_n d_X2_isPledged_4 rfl rfl ?_
  obtain ⟨t1, ht1, hf⟩ := ob hf
  refine B_iald (kLand_6 _ ha0) ht1 d_X2_isPledged_5 ?_
  refine V_iconst (v := 1) d_X2_isPledged_6 ic_1 ?_
  have hJj2 : ∀ j2 : Bool, j2 = (if t1 = 1 then true else false) → V G C F_X2_isPledged 15 [none, none] [.int (b2i j2)] (pic G μ) n 0 0 := by
    intro j2 ej2
    subst ej2
    cases hf
    exact R_z hK d_X2_isPledged_15 (Nat.le_of_ble_eq_true rfl) (Nat.le_of_ble_eq_true rfl)
  refine V_icmp_ne (tgt := 14) d_X2_isPledged_7 (by decide) (fun c7 => ?_) (fun c7 => ?_)
  · refine V_iconst (v := 0) d_X2_isPledged_14 ic_0 ?_
    refine V_less (ls' := [none, none]) trivial ?_
    exact hJj2 false (by rw [if_neg c7])
  · refine V_iconst (v := 1) d_X2_isPledged_10 ic_1 ?_
    refine V_goto (tgt := 15) d_X2_isPledged_11 (by decide) ?_
    refine V_less (ls' := [none, none]) trivial ?_
    exact hJj2 true (by rw [if_pos c7])
theorem s_X2_isPledged {G : Gl} (hG : G.1.stackTraces = false) {μ : Mem} {a0 : Nat} {p1 : Int32} (ha0 : a0 ∈ landL) {r : Bool} (hf : f_X2_isPledged μ a0 p1 = some r) : Rt G yX2_isPledged F_X2_isPledged (some .boolean) [.ref (G.2.1 + a0), .int p1] μ (some (.int (b2i r))) μ := fun n => Sd.of hG ⟨by decide +kernel, rfl, rfl⟩ rfl (Nat.le_of_ble_eq_true rfl) rfl (fun C hK => s_X2_isPledged_e hG ha0 hf hK)
theorem d_X11_ownerOf_0 : decode F_X11_ownerOf.2.1 0 = .ok (.iload_n 0, 1) := by decide +kernel
theorem d_X11_ownerOf_1 : decode F_X11_ownerOf.2.1 1 = .ok (.iconst 1, 1) := by decide +kernel
theorem d_X11_ownerOf_2 : decode F_X11_ownerOf.2.1 2 = .ok (.ishr, 1) := by decide +kernel
theorem d_X11_ownerOf_3 : decode F_X11_ownerOf.2.1 3 = .ok (.ireturn, 1) := by decide +kernel
def f_X11_ownerOf (μ : Mem) (p0 : Int32) : Option Int32 :=
some (p0 >>> (1 &&& 31))
theorem s_X11_ownerOf_e {G : Gl} (hG : G.1.stackTraces = false) {C : Cx} {n : Nat} {μ : Mem} {p0 : Int32} {r : Int32} (hf : f_X11_ownerOf μ p0 = some r) (hK : FinR G C F_X11_ownerOf (some .int) (some (.int r)) μ) : V G C F_X11_ownerOf 0 [some (.int p0)] [] (pic G μ) n 0 0 := by
  unfold f_X11_ownerOf at hf
  refine V_iload_n d_X11_ownerOf_0 rfl rfl ?_
  refine V_iconst (v := 1) d_X11_ownerOf_1 ic_1 ?_
  refine V_ishr d_X11_ownerOf_2 ?_
  cases hf
  exact R_i hK d_X11_ownerOf_3 (Nat.le_of_ble_eq_true rfl) (Nat.le_of_ble_eq_true rfl)
theorem s_X11_ownerOf {G : Gl} (hG : G.1.stackTraces = false) {μ : Mem} {p0 : Int32} {r : Int32} (hf : f_X11_ownerOf μ p0 = some r) : Rt G yX11_ownerOf F_X11_ownerOf (some .int) [.int p0] μ (some (.int r)) μ := fun n => Sd.of hG ⟨by decide +kernel, rfl, rfl⟩ rfl (Nat.le_of_ble_eq_true rfl) rfl (fun C hK => s_X11_ownerOf_e hG hf hK)
theorem d_X2_settle_0 : decode F_X2_settle.2.1 0 = .ok (.iload_n 1, 1) := by decide +kernel
theorem d_X2_settle_1 : decode F_X2_settle.2.1 1 = .ok (.invokestatic 135, 3) := by decide +kernel
theorem d_X2_settle_4 : decode F_X2_settle.2.1 4 = .ok (.istore_n 2, 1) := by decide +kernel
theorem d_X2_settle_5 : decode F_X2_settle.2.1 5 = .ok (.aload_n 0, 1) := by decide +kernel
theorem d_X2_settle_6 : decode F_X2_settle.2.1 6 = .ok (.getfield 61, 3) := by decide +kernel
theorem d_X2_settle_9 : decode F_X2_settle.2.1 9 = .ok (.iload_n 1, 1) := by decide +kernel
theorem d_X2_settle_10 : decode F_X2_settle.2.1 10 = .ok (.iaload, 1) := by decide +kernel
theorem d_X2_settle_11 : decode F_X2_settle.2.1 11 = .ok (.istore_n 3, 1) := by decide +kernel
theorem d_X2_settle_12 : decode F_X2_settle.2.1 12 = .ok (.aload_n 0, 1) := by decide +kernel
theorem d_X2_settle_13 : decode F_X2_settle.2.1 13 = .ok (.getfield 30, 3) := by decide +kernel
theorem d_X2_settle_16 : decode F_X2_settle.2.1 16 = .ok (.iload_n 2, 1) := by decide +kernel
theorem d_X2_settle_17 : decode F_X2_settle.2.1 17 = .ok (.iaload, 1) := by decide +kernel
theorem d_X2_settle_18 : decode F_X2_settle.2.1 18 = .ok (.aload_n 0, 1) := by decide +kernel
theorem d_X2_settle_19 : decode F_X2_settle.2.1 19 = .ok (.getfield 52, 3) := by decide +kernel
theorem d_X2_settle_22 : decode F_X2_settle.2.1 22 = .ok (.iload_n 1, 1) := by decide +kernel
theorem d_X2_settle_23 : decode F_X2_settle.2.1 23 = .ok (.iaload, 1) := by decide +kernel
theorem d_X2_settle_24 : decode F_X2_settle.2.1 24 = .ok (.if_icmp .lt 12, 3) := by decide +kernel
theorem d_X2_settle_27 : decode F_X2_settle.2.1 27 = .ok (.aload_n 0, 1) := by decide +kernel
theorem d_X2_settle_28 : decode F_X2_settle.2.1 28 = .ok (.iload_n 1, 1) := by decide +kernel
theorem d_X2_settle_29 : decode F_X2_settle.2.1 29 = .ok (.iload_n 2, 1) := by decide +kernel
theorem d_X2_settle_30 : decode F_X2_settle.2.1 30 = .ok (.invokevirtual 192, 3) := by decide +kernel
theorem d_X2_settle_33 : decode F_X2_settle.2.1 33 = .ok (.goto 63, 3) := by decide +kernel
theorem d_X2_settle_36 : decode F_X2_settle.2.1 36 = .ok (.iload_n 3, 1) := by decide +kernel
theorem d_X2_settle_37 : decode F_X2_settle.2.1 37 = .ok (.iconst (-1), 1) := by decide +kernel
theorem d_X2_settle_38 : decode F_X2_settle.2.1 38 = .ok (.if_icmp .eq 27, 3) := by decide +kernel
theorem d_X2_settle_41 : decode F_X2_settle.2.1 41 = .ok (.aload_n 0, 1) := by decide +kernel
theorem d_X2_settle_42 : decode F_X2_settle.2.1 42 = .ok (.getfield 30, 3) := by decide +kernel
theorem d_X2_settle_45 : decode F_X2_settle.2.1 45 = .ok (.iload_n 3, 1) := by decide +kernel
theorem d_X2_settle_46 : decode F_X2_settle.2.1 46 = .ok (.iaload, 1) := by decide +kernel
theorem d_X2_settle_47 : decode F_X2_settle.2.1 47 = .ok (.aload_n 0, 1) := by decide +kernel
theorem d_X2_settle_48 : decode F_X2_settle.2.1 48 = .ok (.getfield 52, 3) := by decide +kernel
theorem d_X2_settle_51 : decode F_X2_settle.2.1 51 = .ok (.iload_n 1, 1) := by decide +kernel
theorem d_X2_settle_52 : decode F_X2_settle.2.1 52 = .ok (.iaload, 1) := by decide +kernel
theorem d_X2_settle_53 : decode F_X2_settle.2.1 53 = .ok (.if_icmp .lt 12, 3) := by decide +kernel
theorem d_X2_settle_56 : decode F_X2_settle.2.1 56 = .ok (.aload_n 0, 1) := by decide +kernel
theorem d_X2_settle_57 : decode F_X2_settle.2.1 57 = .ok (.iload_n 1, 1) := by decide +kernel
theorem d_X2_settle_58 : decode F_X2_settle.2.1 58 = .ok (.iload_n 3, 1) := by decide +kernel
theorem d_X2_settle_59 : decode F_X2_settle.2.1 59 = .ok (.invokevirtual 192, 3) := by decide +kernel
theorem d_X2_settle_62 : decode F_X2_settle.2.1 62 = .ok (.goto 34, 3) := by decide +kernel
theorem d_X2_settle_65 : decode F_X2_settle.2.1 65 = .ok (.aload_n 0, 1) := by decide +kernel
theorem d_X2_settle_66 : decode F_X2_settle.2.1 66 = .ok (.getfield 70, 3) := by decide +kernel
theorem d_X2_settle_69 : decode F_X2_settle.2.1 69 = .ok (.aload_n 0, 1) := by decide +kernel
theorem d_X2_settle_70 : decode F_X2_settle.2.1 70 = .ok (.getfield 18, 3) := by decide +kernel
theorem d_X2_settle_73 : decode F_X2_settle.2.1 73 = .ok (.iload_n 1, 1) := by decide +kernel
theorem d_X2_settle_74 : decode F_X2_settle.2.1 74 = .ok (.iconst 2, 1) := by decide +kernel
theorem d_X2_settle_75 : decode F_X2_settle.2.1 75 = .ok (.aload_n 0, 1) := by decide +kernel
theorem d_X2_settle_76 : decode F_X2_settle.2.1 76 = .ok (.getfield 52, 3) := by decide +kernel
theorem d_X2_settle_79 : decode F_X2_settle.2.1 79 = .ok (.iload_n 1, 1) := by decide +kernel
theorem d_X2_settle_80 : decode F_X2_settle.2.1 80 = .ok (.iaload, 1) := by decide +kernel
theorem d_X2_settle_81 : decode F_X2_settle.2.1 81 = .ok (.invokevirtual 92, 3) := by decide +kernel
theorem d_X2_settle_84 : decode F_X2_settle.2.1 84 = .ok (.aload_n 0, 1) := by decide +kernel
theorem d_X2_settle_85 : decode F_X2_settle.2.1 85 = .ok (.iload_n 1, 1) := by decide +kernel
theorem d_X2_settle_86 : decode F_X2_settle.2.1 86 = .ok (.iconst 2, 1) := by decide +kernel
theorem d_X2_settle_87 : decode F_X2_settle.2.1 87 = .ok (.aload_n 0, 1) := by decide +kernel
theorem d_X2_settle_88 : decode F_X2_settle.2.1 88 = .ok (.getfield 49, 3) := by decide +kernel
theorem d_X2_settle_91 : decode F_X2_settle.2.1 91 = .ok (.iload_n 1, 1) := by decide +kernel
theorem d_X2_settle_92 : decode F_X2_settle.2.1 92 = .ok (.iaload, 1) := by decide +kernel
theorem d_X2_settle_93 : decode F_X2_settle.2.1 93 = .ok (.invokevirtual 84, 3) := by decide +kernel
theorem d_X2_settle_96 : decode F_X2_settle.2.1 96 = .ok (.return_, 1) := by decide +kernel
def f_X2_settle_j96 (μ : Mem) (a0 : Nat) : Option Mem :=
some μ
def f_X2_settle_j65 (μ : Mem) (a0 : Nat) (l1 : Int32) : Option Mem :=
Option.bind (rd μ (a0 + 8) 12 l1) fun t1 =>
Option.bind (f_X1_add μ (a0 + 13) (μ a0 2) l1 2 t1) fun q2 =>
Option.bind (rd q2 (a0 + 7) 12 l1) fun t3 =>
Option.bind (f_X2_letGo q2 a0 l1 2 t3) fun q4 =>
f_X2_settle_j96 q4 a0
def f_X2_settle (μ : Mem) (a0 : Nat) (p1 : Int32) : Option Mem :=
Option.bind (f_X11_ownerOf μ p1) fun t1 =>
Option.bind (rd μ (a0 + 11) 12 p1) fun t2 =>
Option.bind (rd μ (a0 + 1) 6 t1) fun t3 =>
Option.bind (rd μ (a0 + 8) 12 p1) fun t4 =>
if t3 < t4 then
if t2 = (-1) then
f_X2_settle_j65 μ a0 p1
else
Option.bind (rd μ (a0 + 1) 6 t2) fun t5 =>
Option.bind (rd μ (a0 + 8) 12 p1) fun t6 =>
if t5 < t6 then
f_X2_settle_j65 μ a0 p1
else
Option.bind (f_X2_payOff μ a0 p1 t2) fun q7 =>
f_X2_settle_j96 q7 a0
else
Option.bind (f_X2_payOff μ a0 p1 t1) fun q8 =>
f_X2_settle_j96 q8 a0
theorem s_X2_settle_j96 {G : Gl} (hG : G.1.stackTraces = false) {C : Cx} {n : Nat} {μ : Mem} {a0 : Nat} (ha0 : a0 ∈ landL) {r : Mem} (hf : f_X2_settle_j96 μ a0 = some r) (hK : FinR G C F_X2_settle none none r) : V G C F_X2_settle 96 [none, none, none, none] [] (pic G μ) n 0 0 := by
  unfold f_X2_settle_j96 at hf
  cases hf
  exact R_v hK d_X2_settle_96 (Nat.le_of_ble_eq_true rfl) (Nat.le_of_ble_eq_true rfl)
theorem s_X2_settle_j65 {G : Gl} (hG : G.1.stackTraces = false) {C : Cx} {n : Nat} {μ : Mem} {a0 : Nat} {l1 : Int32} (ha0 : a0 ∈ landL) {r : Mem} (hf : f_X2_settle_j65 μ a0 l1 = some r) (hK : FinR G C F_X2_settle none none r) : V G C F_X2_settle 65 [some (.ref (G.2.1 + a0)), some (.int l1), none, none] [] (pic G μ) n 0 0 := by
  unfold f_X2_settle_j65 at hf
  refine V_aload_n d_X2_settle_65 rfl rfl ?_
  refine B_get (kLand _ ha0) fl_RX2_70 d_X2_settle_66 g_2_18 ?_
  refine V_aload_n d_X2_settle_69 rfl rfl ?_
  refine B_get (kLand _ ha0) fl_RX2_18 d_X2_settle_70 g_2_2 ?_
  refine V_iload_n d_X2_settle_73 rfl rfl ?_
  refine V_iconst (v := 2) d_X2_settle_74 ic_2 ?_
  refine V_aload_n d_X2_settle_75 rfl rfl ?_
  refine B_get (kLand _ ha0) fl_RX2_52 d_X2_settle_76 g_2_13 ?_
  refine V_iload_n d_X2_settle_79 rfl rfl ?_
  obtain ⟨t1, ht1, hf⟩ := ob hf
  refine B_iald (kLand_8 _ ha0) ht1 d_X2_settle_80 ?_
  obtain ⟨q2, hq2, hf⟩ := ob hf
  refine B_callV0 (s_X1_add hG (landBook _ ha0) hq2) (kBook _ (landBook _ ha0)) clX1 m_X1_add kv_RX2_92 d_X2_settle_81 rfl (Nat.le_of_ble_eq_true rfl) ⟨rfl, rfl, Nat.le_of_ble_eq_true rfl, Nat.le_of_ble_eq_true rfl, Nat.le_of_ble_eq_true rfl⟩ (fun n => ?_)
  refine V_aload_n d_X2_settle_84 rfl rfl ?_
  refine V_iload_n d_X2_settle_85 rfl rfl ?_
  refine V_iconst (v := 2) d_X2_settle_86 ic_2 ?_
  refine V_aload_n d_X2_settle_87 rfl rfl ?_
  refine B_get (kLand _ ha0) fl_RX2_49 d_X2_settle_88 g_2_12 ?_
  refine V_iload_n d_X2_settle_91 rfl rfl ?_
  obtain ⟨t3, ht3, hf⟩ := ob hf
  refine B_iald (kLand_7 _ ha0) ht3 d_X2_settle_92 ?_
  obtain ⟨q4, hq4, hf⟩ := ob hf
  refine B_callV0 (s_X2_letGo hG ha0 hq4) (kLand _ ha0) clX2 m_X2_letGo kv_RX2_84 d_X2_settle_93 rfl (Nat.le_of_ble_eq_true rfl) ⟨rfl, rfl, Nat.le_of_ble_eq_true rfl, Nat.le_of_ble_eq_true rfl, Nat.le_of_ble_eq_true rfl⟩ (fun n => ?_)
  refine V_less (ls' := [none, none, none, none]) trivial ?_
  exact s_X2_settle_j96 hG ha0 hf hK
theorem s_X2_settle_e {G : Gl} (hG : G.1.stackTraces = false) {C : Cx} {n : Nat} {μ : Mem} {a0 : Nat} {p1 : Int32} (ha0 : a0 ∈ landL) {r : Mem} (hf : f_X2_settle μ a0 p1 = some r) (hK : FinR G C F_X2_settle none none r) : V G C F_X2_settle 0 [some (.ref (G.2.1 + a0)), some (.int p1), none, none] [] (pic G μ) n 0 0 := by
  unfold f_X2_settle at hf
  refine V_iload_n d_X2_settle_0 rfl rfl ?_
  obtain ⟨t1, ht1, hf⟩ := ob hf
  refine B_callSN1 (s_X11_ownerOf hG ht1) m_X11_ownerOf ks_RX2_135 d_X2_settle_1 rfl (Nat.le_of_ble_eq_true rfl) ⟨rfl, rfl, Nat.le_of_ble_eq_true rfl, Nat.le_of_ble_eq_true rfl, Nat.le_of_ble_eq_true rfl⟩ (fun n => ?_)
  refine V_istore_n (ls' := [_, _, _, _]) d_X2_settle_4 rfl rfl rfl ?_
  refine V_aload_n d_X2_settle_5 rfl rfl ?_
  refine B_get (kLand _ ha0) fl_RX2_61 d_X2_settle_6 g_2_16 ?_
  refine V_iload_n d_X2_settle_9 rfl rfl ?_
  obtain ⟨t2, ht2, hf⟩ := ob hf
  refine B_iald (kLand_11 _ ha0) ht2 d_X2_settle_10 ?_
  refine V_istore_n (ls' := [_, _, _, _]) d_X2_settle_11 rfl rfl rfl ?_
  refine V_aload_n d_X2_settle_12 rfl rfl ?_
  refine B_get (kLand _ ha0) fl_RX2_30 d_X2_settle_13 g_2_6 ?_
  refine V_iload_n d_X2_settle_16 rfl rfl ?_
  obtain ⟨t3, ht3, hf⟩ := ob hf
  refine B_iald (kLand_1 _ ha0) ht3 d_X2_settle_17 ?_
  refine V_aload_n d_X2_settle_18 rfl rfl ?_
  refine B_get (kLand _ ha0) fl_RX2_52 d_X2_settle_19 g_2_13 ?_
  refine V_iload_n d_X2_settle_22 rfl rfl ?_
  obtain ⟨t4, ht4, hf⟩ := ob hf
  refine B_iald (kLand_8 _ ha0) ht4 d_X2_settle_23 ?_
  refine V_icmp_lt (tgt := 36) d_X2_settle_24 (by decide) (fun c24 => ?_) (fun c24 => ?_)
  · replace hf := iteT c24 hf
    refine V_iload_n d_X2_settle_36 rfl rfl ?_
    refine V_iconst (v := (-1)) d_X2_settle_37 ic_m1 ?_
    refine V_icmp_eq (tgt := 65) d_X2_settle_38 (by decide) (fun c38 => ?_) (fun c38 => ?_)
    · replace hf := iteT c38 hf
      refine V_less (ls' := [some _, some _, none, none]) ⟨rfl, rfl, trivial⟩ ?_
      exact s_X2_settle_j65 hG ha0 hf hK
    · replace hf := iteF c38 hf
      refine V_aload_n d_X2_settle_41 rfl rfl ?_
      refine B_get (kLand _ ha0) fl_RX2_30 d_X2_settle_42 g_2_6 ?_
      refine V_iload_n d_X2_settle_45 rfl rfl ?_
      obtain ⟨t5, ht5, hf⟩ := ob hf
      refine B_iald (kLand_1 _ ha0) ht5 d_X2_settle_46 ?_
      refine V_aload_n d_X2_settle_47 rfl rfl ?_
      refine B_get (kLand _ ha0) fl_RX2_52 d_X2_settle_48 g_2_13 ?_
      refine V_iload_n d_X2_settle_51 rfl rfl ?_
      obtain ⟨t6, ht6, hf⟩ := ob hf
      refine B_iald (kLand_8 _ ha0) ht6 d_X2_settle_52 ?_
      refine V_icmp_lt (tgt := 65) d_X2_settle_53 (by decide) (fun c53 => ?_) (fun c53 => ?_)
      · replace hf := iteT c53 hf
        refine V_less (ls' := [some _, some _, none, none]) ⟨rfl, rfl, trivial⟩ ?_
        exact s_X2_settle_j65 hG ha0 hf hK
      · replace hf := iteF c53 hf
        refine V_aload_n d_X2_settle_56 rfl rfl ?_
        refine V_iload_n d_X2_settle_57 rfl rfl ?_
        refine V_iload_n d_X2_settle_58 rfl rfl ?_
        obtain ⟨q7, hq7, hf⟩ := ob hf
        refine B_callV0 (s_X2_payOff hG ha0 hq7) (kLand _ ha0) clX2 m_X2_payOff kv_RX2_192 d_X2_settle_59 rfl (Nat.le_of_ble_eq_true rfl) ⟨rfl, rfl, Nat.le_of_ble_eq_true rfl, Nat.le_of_ble_eq_true rfl, Nat.le_of_ble_eq_true rfl⟩ (fun n => ?_)
        refine V_goto (tgt := 96) d_X2_settle_62 (by decide) ?_
        refine V_less (ls' := [none, none, none, none]) trivial ?_
        exact s_X2_settle_j96 hG ha0 hf hK
  · replace hf := iteF c24 hf
    refine V_aload_n d_X2_settle_27 rfl rfl ?_
    refine V_iload_n d_X2_settle_28 rfl rfl ?_
    refine V_iload_n d_X2_settle_29 rfl rfl ?_
    obtain ⟨q8, hq8, hf⟩ := ob hf
    refine B_callV0 (s_X2_payOff hG ha0 hq8) (kLand _ ha0) clX2 m_X2_payOff kv_RX2_192 d_X2_settle_30 rfl (Nat.le_of_ble_eq_true rfl) ⟨rfl, rfl, Nat.le_of_ble_eq_true rfl, Nat.le_of_ble_eq_true rfl, Nat.le_of_ble_eq_true rfl⟩ (fun n => ?_)
    refine V_goto (tgt := 96) d_X2_settle_33 (by decide) ?_
    refine V_less (ls' := [none, none, none, none]) trivial ?_
    exact s_X2_settle_j96 hG ha0 hf hK
theorem s_X2_settle {G : Gl} (hG : G.1.stackTraces = false) {μ : Mem} {a0 : Nat} {p1 : Int32} (ha0 : a0 ∈ landL) {r : Mem} (hf : f_X2_settle μ a0 p1 = some r) : Rt G yX2_settle F_X2_settle none [.ref (G.2.1 + a0), .int p1] μ none r := fun n => Sd.of hG ⟨by decide +kernel, rfl, rfl⟩ rfl (Nat.le_of_ble_eq_true rfl) rfl (fun C hK => s_X2_settle_e hG ha0 hf hK)
theorem d_X2_lacesThatAre_0 : decode F_X2_lacesThatAre.2.1 0 = .ok (.iconst 0, 1) := by decide +kernel
theorem d_X2_lacesThatAre_1 : decode F_X2_lacesThatAre.2.1 1 = .ok (.istore_n 2, 1) := by decide +kernel
theorem d_X2_lacesThatAre_2 : decode F_X2_lacesThatAre.2.1 2 = .ok (.iconst 0, 1) := by decide +kernel
theorem d_X2_lacesThatAre_3 : decode F_X2_lacesThatAre.2.1 3 = .ok (.istore_n 3, 1) := by decide +kernel
theorem d_X2_lacesThatAre_4 : decode F_X2_lacesThatAre.2.1 4 = .ok (.iload_n 3, 1) := by decide +kernel
theorem d_X2_lacesThatAre_5 : decode F_X2_lacesThatAre.2.1 5 = .ok (.iconst 2, 1) := by decide +kernel
theorem d_X2_lacesThatAre_6 : decode F_X2_lacesThatAre.2.1 6 = .ok (.aload_n 0, 1) := by decide +kernel
theorem d_X2_lacesThatAre_7 : decode F_X2_lacesThatAre.2.1 7 = .ok (.getfield 9, 3) := by decide +kernel
theorem d_X2_lacesThatAre_10 : decode F_X2_lacesThatAre.2.1 10 = .ok (.imul, 1) := by decide +kernel
theorem d_X2_lacesThatAre_11 : decode F_X2_lacesThatAre.2.1 11 = .ok (.if_icmp .ge 25, 3) := by decide +kernel
theorem d_X2_lacesThatAre_14 : decode F_X2_lacesThatAre.2.1 14 = .ok (.aload_n 0, 1) := by decide +kernel
theorem d_X2_lacesThatAre_15 : decode F_X2_lacesThatAre.2.1 15 = .ok (.getfield 46, 3) := by decide +kernel
theorem d_X2_lacesThatAre_18 : decode F_X2_lacesThatAre.2.1 18 = .ok (.iload_n 3, 1) := by decide +kernel
theorem d_X2_lacesThatAre_19 : decode F_X2_lacesThatAre.2.1 19 = .ok (.iaload, 1) := by decide +kernel
theorem d_X2_lacesThatAre_20 : decode F_X2_lacesThatAre.2.1 20 = .ok (.iload_n 1, 1) := by decide +kernel
theorem d_X2_lacesThatAre_21 : decode F_X2_lacesThatAre.2.1 21 = .ok (.if_icmp .ne 9, 3) := by decide +kernel
theorem d_X2_lacesThatAre_24 : decode F_X2_lacesThatAre.2.1 24 = .ok (.iload_n 2, 1) := by decide +kernel
theorem d_X2_lacesThatAre_25 : decode F_X2_lacesThatAre.2.1 25 = .ok (.iconst 1, 1) := by decide +kernel
theorem d_X2_lacesThatAre_26 : decode F_X2_lacesThatAre.2.1 26 = .ok (.iload_n 3, 1) := by decide +kernel
theorem d_X2_lacesThatAre_27 : decode F_X2_lacesThatAre.2.1 27 = .ok (.ishl, 1) := by decide +kernel
theorem d_X2_lacesThatAre_28 : decode F_X2_lacesThatAre.2.1 28 = .ok (.ior, 1) := by decide +kernel
theorem d_X2_lacesThatAre_29 : decode F_X2_lacesThatAre.2.1 29 = .ok (.istore_n 2, 1) := by decide +kernel
theorem d_X2_lacesThatAre_30 : decode F_X2_lacesThatAre.2.1 30 = .ok (.iinc 3 1, 3) := by decide +kernel
theorem d_X2_lacesThatAre_33 : decode F_X2_lacesThatAre.2.1 33 = .ok (.goto (-29), 3) := by decide +kernel
theorem d_X2_lacesThatAre_36 : decode F_X2_lacesThatAre.2.1 36 = .ok (.iload_n 2, 1) := by decide +kernel
theorem d_X2_lacesThatAre_37 : decode F_X2_lacesThatAre.2.1 37 = .ok (.ireturn, 1) := by decide +kernel
def f_X2_lacesThatAre_b4 (μ : Mem) (a0 : Nat) (l1 : Int32) (l2 : Int32) (l3 : Int32) : Option ((Int32 × Int32) ⊕ Int32) :=
if (2 * (μ a0 0)) ≤ l3 then
some (.inr l2)
else
Option.bind (rd μ (a0 + 6) 12 l3) fun t1 =>
some (.inl ((if t1 = l1 then (l2 ||| (1 <<< (l3 &&& 31))) else l2), (l3 + 1)))
def f_X2_lacesThatAre_j36 (μ : Mem) (a0 : Nat) (l2 : Int32) : Option Int32 :=
some l2
def f_X2_lacesThatAre_l4 (μ : Mem) (a0 : Nat) (l1 : Int32) (l2 : Int32) (l3 : Int32) : Option Int32 := Option.bind (loopN 10000 (fun z : (Int32 × Int32) => f_X2_lacesThatAre_b4 μ a0 l1 z.1 z.2) (l2, l3)) fun t : Int32 => f_X2_lacesThatAre_j36 μ a0 t
def f_X2_lacesThatAre (μ : Mem) (a0 : Nat) (p1 : Int32) : Option Int32 :=
f_X2_lacesThatAre_l4 μ a0 p1 0 0
theorem s_X2_lacesThatAre_b4 {G : Gl} (hG : G.1.stackTraces = false) {C : Cx} {n : Nat} {μ : Mem} {a0 : Nat} {l1 : Int32} {l2 : Int32} {l3 : Int32} (ha0 : a0 ∈ landL) {y : ((Int32 × Int32) ⊕ Int32)} (hf : f_X2_lacesThatAre_b4 μ a0 l1 l2 l3 = some y) (hK : (∀ z', y = .inl z' → ∀ n, V G C F_X2_lacesThatAre 4 [some (.ref (G.2.1 + a0)), some (.int l1), some (.int z'.1), some (.int z'.2)] [] (pic G μ) n 0 0) ∧ (∀ x', y = .inr x' → ∀ n, V G C F_X2_lacesThatAre 36 [none, none, some (.int x'), none] [] (pic G μ) n 0 0)) : V G C F_X2_lacesThatAre 4 [some (.ref (G.2.1 + a0)), some (.int l1), some (.int l2), some (.int l3)] [] (pic G μ) n 0 0 := by
  unfold f_X2_lacesThatAre_b4 at hf
  refine V_iload_n d_X2_lacesThatAre_4 rfl rfl ?_
  refine V_iconst (v := 2) d_X2_lacesThatAre_5 ic_2 ?_
  refine V_aload_n d_X2_lacesThatAre_6 rfl rfl ?_
  refine B_get (kLand _ ha0) fl_RX2_9 d_X2_lacesThatAre_7 g_2_0 ?_
  refine V_imul d_X2_lacesThatAre_10 ?_
  refine V_icmp_ge (tgt := 36) d_X2_lacesThatAre_11 (by decide) (fun c11 => ?_) (fun c11 => ?_)
  · replace hf := iteT c11 hf
    refine V_less (ls' := [none, none, some _, none]) ⟨rfl, trivial⟩ ?_
    cases hf
    exact hK.2 _ rfl _
  · replace hf := iteF c11 hf
    refine V_aload_n d_X2_lacesThatAre_14 rfl rfl ?_
    refine B_get (kLand _ ha0) fl_RX2_46 d_X2_lacesThatAre_15 g_2_11 ?_
    refine V_iload_n d_X2_lacesThatAre_18 rfl rfl ?_
    obtain ⟨t1, ht1, hf⟩ := ob hf
    refine B_iald (kLand_6 _ ha0) ht1 d_X2_lacesThatAre_19 ?_
    refine V_iload_n d_X2_lacesThatAre_20 rfl rfl ?_
    have hJj2 : ∀ j2 : Int32, j2 = (if t1 = l1 then (l2 ||| (1 <<< (l3 &&& 31))) else l2) → V G C F_X2_lacesThatAre 30 [some (.ref (G.2.1 + a0)), some (.int l1), some (.int j2), some (.int l3)] [] (pic G μ) n 0 0 := by
      intro j2 ej2
      subst ej2
      refine V_iinc (v := (l3 + 1)) (ls' := [_, _, _, _]) d_X2_lacesThatAre_30 rfl (by rw [ic_1]) rfl ?_
      refine V_goto (tgt := 4) d_X2_lacesThatAre_33 (by decide) ?_
      refine V_less (ls' := [some _, some _, some _, some _]) ⟨rfl, rfl, rfl, rfl, trivial⟩ ?_
      cases hf
      exact hK.1 _ rfl _
    refine V_icmp_ne (tgt := 30) d_X2_lacesThatAre_21 (by decide) (fun c21 => ?_) (fun c21 => ?_)
    · refine V_less (ls' := [some _, some _, some _, some _]) ⟨rfl, rfl, rfl, rfl, trivial⟩ ?_
      exact hJj2 l2 (by rw [if_neg c21])
    · refine V_iload_n d_X2_lacesThatAre_24 rfl rfl ?_
      refine V_iconst (v := 1) d_X2_lacesThatAre_25 ic_1 ?_
      refine V_iload_n d_X2_lacesThatAre_26 rfl rfl ?_
      refine V_ishl d_X2_lacesThatAre_27 ?_
      refine V_ior d_X2_lacesThatAre_28 ?_
      refine V_istore_n (ls' := [_, _, _, _]) d_X2_lacesThatAre_29 rfl rfl rfl ?_
      refine V_less (ls' := [some _, some _, some _, some _]) ⟨rfl, rfl, rfl, rfl, trivial⟩ ?_
      exact hJj2 (l2 ||| (1 <<< (l3 &&& 31))) (by rw [if_pos c21])
theorem s_X2_lacesThatAre_j36 {G : Gl} (hG : G.1.stackTraces = false) {C : Cx} {n : Nat} {μ : Mem} {a0 : Nat} {l2 : Int32} (ha0 : a0 ∈ landL) {r : Int32} (hf : f_X2_lacesThatAre_j36 μ a0 l2 = some r) (hK : FinR G C F_X2_lacesThatAre (some .int) (some (.int r)) μ) : V G C F_X2_lacesThatAre 36 [none, none, some (.int l2), none] [] (pic G μ) n 0 0 := by
  unfold f_X2_lacesThatAre_j36 at hf
  refine V_iload_n d_X2_lacesThatAre_36 rfl rfl ?_
  cases hf
  exact R_i hK d_X2_lacesThatAre_37 (Nat.le_of_ble_eq_true rfl) (Nat.le_of_ble_eq_true rfl)
theorem s_X2_lacesThatAre_l4 {G : Gl} (hG : G.1.stackTraces = false) {C : Cx} {n : Nat} {μ : Mem} {a0 : Nat} {l1 : Int32} {l2 : Int32} {l3 : Int32} (ha0 : a0 ∈ landL) {r : Int32} (hf : f_X2_lacesThatAre_l4 μ a0 l1 l2 l3 = some r) (hK : FinR G C F_X2_lacesThatAre (some .int) (some (.int r)) μ) : V G C F_X2_lacesThatAre 4 [some (.ref (G.2.1 + a0)), some (.int l1), some (.int l2), some (.int l3)] [] (pic G μ) n 0 0 := by
  unfold f_X2_lacesThatAre_l4 at hf
  obtain ⟨t, hl, hf⟩ := ob hf
  refine loopV (P := fun z => ∀ n, V G C F_X2_lacesThatAre 4 [some (.ref (G.2.1 + a0)), some (.int l1), some (.int z.1), some (.int z.2)] [] (pic G μ) n 0 0) (t := t) ?_ _ _ hl n
  intro z y' hy hI hT n
  refine s_X2_lacesThatAre_b4 hG ha0 hy ⟨hI, fun x9 ex => ?_⟩
  have ex2 := hT x9 ex
  subst ex2
  intro n
  exact s_X2_lacesThatAre_j36 hG ha0 hf hK
theorem s_X2_lacesThatAre_e {G : Gl} (hG : G.1.stackTraces = false) {C : Cx} {n : Nat} {μ : Mem} {a0 : Nat} {p1 : Int32} (ha0 : a0 ∈ landL) {r : Int32} (hf : f_X2_lacesThatAre μ a0 p1 = some r) (hK : FinR G C F_X2_lacesThatAre (some .int) (some (.int r)) μ) : V G C F_X2_lacesThatAre 0 [some (.ref (G.2.1 + a0)), some (.int p1), none, none] [] (pic G μ) n 0 0 := by
  unfold f_X2_lacesThatAre at hf
  refine V_iconst (v := 0) d_X2_lacesThatAre_0 ic_0 ?_
  refine V_istore_n (ls' := [_, _, _, _]) d_X2_lacesThatAre_1 rfl rfl rfl ?_
  refine V_iconst (v := 0) d_X2_lacesThatAre_2 ic_0 ?_
  refine V_istore_n (ls' := [_, _, _, _]) d_X2_lacesThatAre_3 rfl rfl rfl ?_
  refine V_less (ls' := [some _, some _, some _, some _]) ⟨rfl, rfl, rfl, rfl, trivial⟩ ?_
  exact s_X2_lacesThatAre_l4 hG ha0 hf hK
theorem s_X2_lacesThatAre {G : Gl} (hG : G.1.stackTraces = false) {μ : Mem} {a0 : Nat} {p1 : Int32} (ha0 : a0 ∈ landL) {r : Int32} (hf : f_X2_lacesThatAre μ a0 p1 = some r) : Rt G yX2_lacesThatAre F_X2_lacesThatAre (some .int) [.ref (G.2.1 + a0), .int p1] μ (some (.int r)) μ := fun n => Sd.of hG ⟨by decide +kernel, rfl, rfl⟩ rfl (Nat.le_of_ble_eq_true rfl) rfl (fun C hK => s_X2_lacesThatAre_e hG ha0 hf hK)
theorem d_X11_lacesOf_0 : decode F_X11_lacesOf.2.1 0 = .ok (.iconst 3, 1) := by decide +kernel
theorem d_X11_lacesOf_1 : decode F_X11_lacesOf.2.1 1 = .ok (.iconst 2, 1) := by decide +kernel
theorem d_X11_lacesOf_2 : decode F_X11_lacesOf.2.1 2 = .ok (.iload_n 0, 1) := by decide +kernel
theorem d_X11_lacesOf_3 : decode F_X11_lacesOf.2.1 3 = .ok (.imul, 1) := by decide +kernel
theorem d_X11_lacesOf_4 : decode F_X11_lacesOf.2.1 4 = .ok (.ishl, 1) := by decide +kernel
theorem d_X11_lacesOf_5 : decode F_X11_lacesOf.2.1 5 = .ok (.ireturn, 1) := by decide +kernel
def f_X11_lacesOf (μ : Mem) (p0 : Int32) : Option Int32 :=
some (3 <<< ((2 * p0) &&& 31))
theorem s_X11_lacesOf_e {G : Gl} (hG : G.1.stackTraces = false) {C : Cx} {n : Nat} {μ : Mem} {p0 : Int32} {r : Int32} (hf : f_X11_lacesOf μ p0 = some r) (hK : FinR G C F_X11_lacesOf (some .int) (some (.int r)) μ) : V G C F_X11_lacesOf 0 [some (.int p0)] [] (pic G μ) n 0 0 := by
  unfold f_X11_lacesOf at hf
  refine V_iconst (v := 3) d_X11_lacesOf_0 ic_3 ?_
  refine V_iconst (v := 2) d_X11_lacesOf_1 ic_2 ?_
  refine V_iload_n d_X11_lacesOf_2 rfl rfl ?_
  refine V_imul d_X11_lacesOf_3 ?_
  refine V_ishl d_X11_lacesOf_4 ?_
  cases hf
  exact R_i hK d_X11_lacesOf_5 (Nat.le_of_ble_eq_true rfl) (Nat.le_of_ble_eq_true rfl)
theorem s_X11_lacesOf {G : Gl} (hG : G.1.stackTraces = false) {μ : Mem} {p0 : Int32} {r : Int32} (hf : f_X11_lacesOf μ p0 = some r) : Rt G yX11_lacesOf F_X11_lacesOf (some .int) [.int p0] μ (some (.int r)) μ := fun n => Sd.of hG ⟨by decide +kernel, rfl, rfl⟩ rfl (Nat.le_of_ble_eq_true rfl) rfl (fun C hK => s_X11_lacesOf_e hG hf hK)
theorem d_X11_hasBit_0 : decode F_X11_hasBit.2.1 0 = .ok (.iload_n 0, 1) := by decide +kernel
theorem d_X11_hasBit_1 : decode F_X11_hasBit.2.1 1 = .ok (.iload_n 1, 1) := by decide +kernel
theorem d_X11_hasBit_2 : decode F_X11_hasBit.2.1 2 = .ok (.ishr, 1) := by decide +kernel
theorem d_X11_hasBit_3 : decode F_X11_hasBit.2.1 3 = .ok (.iconst 1, 1) := by decide +kernel
theorem d_X11_hasBit_4 : decode F_X11_hasBit.2.1 4 = .ok (.iand, 1) := by decide +kernel
theorem d_X11_hasBit_5 : decode F_X11_hasBit.2.1 5 = .ok (.ifCond .eq 7, 3) := by decide +kernel
theorem d_X11_hasBit_8 : decode F_X11_hasBit.2.1 8 = .ok (.iconst 1, 1) := by decide +kernel
theorem d_X11_hasBit_9 : decode F_X11_hasBit.2.1 9 = .ok (.goto 4, 3) := by decide +kernel
theorem d_X11_hasBit_12 : decode F_X11_hasBit.2.1 12 = .ok (.iconst 0, 1) := by decide +kernel
theorem d_X11_hasBit_13 : decode F_X11_hasBit.2.1 13 = .ok (.ireturn, 1) := by decide +kernel
def f_X11_hasBit (μ : Mem) (p0 : Int32) (p1 : Int32) : Option Bool :=
some (if ((p0 >>> (p1 &&& 31)) &&& 1) = 0 then false else true)
theorem s_X11_hasBit_e {G : Gl} (hG : G.1.stackTraces = false) {C : Cx} {n : Nat} {μ : Mem} {p0 : Int32} {p1 : Int32} {r : Bool} (hf : f_X11_hasBit μ p0 p1 = some r) (hK : FinR G C F_X11_hasBit (some .boolean) (some (.int (b2i r))) μ) : V G C F_X11_hasBit 0 [some (.int p0), some (.int p1)] [] (pic G μ) n 0 0 := by
  unfold f_X11_hasBit at hf
  refine V_iload_n d_X11_hasBit_0 rfl rfl ?_
  refine V_iload_n d_X11_hasBit_1 rfl rfl ?_
  refine V_ishr d_X11_hasBit_2 ?_
  refine V_iconst (v := 1) d_X11_hasBit_3 ic_1 ?_
  refine V_iand d_X11_hasBit_4 ?_
  have hJj1 : ∀ j1 : Bool, j1 = (if ((p0 >>> (p1 &&& 31)) &&& 1) = 0 then false else true) → V G C F_X11_hasBit 13 [none, none] [.int (b2i j1)] (pic G μ) n 0 0 := by
    intro j1 ej1
    subst ej1
    cases hf
    exact R_z hK d_X11_hasBit_13 (Nat.le_of_ble_eq_true rfl) (Nat.le_of_ble_eq_true rfl)
  refine V_if_eq (tgt := 12) d_X11_hasBit_5 (by decide) (fun c5 => ?_) (fun c5 => ?_)
  · refine V_iconst (v := 0) d_X11_hasBit_12 ic_0 ?_
    refine V_less (ls' := [none, none]) trivial ?_
    exact hJj1 false (by rw [if_pos c5])
  · refine V_iconst (v := 1) d_X11_hasBit_8 ic_1 ?_
    refine V_goto (tgt := 13) d_X11_hasBit_9 (by decide) ?_
    refine V_less (ls' := [none, none]) trivial ?_
    exact hJj1 true (by rw [if_neg c5])
theorem s_X11_hasBit {G : Gl} (hG : G.1.stackTraces = false) {μ : Mem} {p0 : Int32} {p1 : Int32} {r : Bool} (hf : f_X11_hasBit μ p0 p1 = some r) : Rt G yX11_hasBit F_X11_hasBit (some .boolean) [.int p0, .int p1] μ (some (.int (b2i r))) μ := fun n => Sd.of hG ⟨by decide +kernel, rfl, rfl⟩ rfl (Nat.le_of_ble_eq_true rfl) rfl (fun C hK => s_X11_hasBit_e hG hf hK)
theorem d_X2_amountOf_0 : decode F_X2_amountOf.2.1 0 = .ok (.iconst 0, 1) := by decide +kernel
theorem d_X2_amountOf_1 : decode F_X2_amountOf.2.1 1 = .ok (.istore_n 2, 1) := by decide +kernel
theorem d_X2_amountOf_2 : decode F_X2_amountOf.2.1 2 = .ok (.iconst 0, 1) := by decide +kernel
theorem d_X2_amountOf_3 : decode F_X2_amountOf.2.1 3 = .ok (.istore_n 3, 1) := by decide +kernel
theorem d_X2_amountOf_4 : decode F_X2_amountOf.2.1 4 = .ok (.iload_n 3, 1) := by decide +kernel
theorem d_X2_amountOf_5 : decode F_X2_amountOf.2.1 5 = .ok (.iconst 2, 1) := by decide +kernel
theorem d_X2_amountOf_6 : decode F_X2_amountOf.2.1 6 = .ok (.aload_n 0, 1) := by decide +kernel
theorem d_X2_amountOf_7 : decode F_X2_amountOf.2.1 7 = .ok (.getfield 9, 3) := by decide +kernel
theorem d_X2_amountOf_10 : decode F_X2_amountOf.2.1 10 = .ok (.imul, 1) := by decide +kernel
theorem d_X2_amountOf_11 : decode F_X2_amountOf.2.1 11 = .ok (.if_icmp .ge 26, 3) := by decide +kernel
theorem d_X2_amountOf_14 : decode F_X2_amountOf.2.1 14 = .ok (.iload_n 1, 1) := by decide +kernel
theorem d_X2_amountOf_15 : decode F_X2_amountOf.2.1 15 = .ok (.iload_n 3, 1) := by decide +kernel
theorem d_X2_amountOf_16 : decode F_X2_amountOf.2.1 16 = .ok (.invokestatic 155, 3) := by decide +kernel
theorem d_X2_amountOf_19 : decode F_X2_amountOf.2.1 19 = .ok (.ifCond .eq 12, 3) := by decide +kernel
theorem d_X2_amountOf_22 : decode F_X2_amountOf.2.1 22 = .ok (.iload_n 2, 1) := by decide +kernel
theorem d_X2_amountOf_23 : decode F_X2_amountOf.2.1 23 = .ok (.aload_n 0, 1) := by decide +kernel
theorem d_X2_amountOf_24 : decode F_X2_amountOf.2.1 24 = .ok (.getfield 52, 3) := by decide +kernel
theorem d_X2_amountOf_27 : decode F_X2_amountOf.2.1 27 = .ok (.iload_n 3, 1) := by decide +kernel
theorem d_X2_amountOf_28 : decode F_X2_amountOf.2.1 28 = .ok (.iaload, 1) := by decide +kernel
theorem d_X2_amountOf_29 : decode F_X2_amountOf.2.1 29 = .ok (.iadd, 1) := by decide +kernel
theorem d_X2_amountOf_30 : decode F_X2_amountOf.2.1 30 = .ok (.istore_n 2, 1) := by decide +kernel
theorem d_X2_amountOf_31 : decode F_X2_amountOf.2.1 31 = .ok (.iinc 3 1, 3) := by decide +kernel
theorem d_X2_amountOf_34 : decode F_X2_amountOf.2.1 34 = .ok (.goto (-30), 3) := by decide +kernel
theorem d_X2_amountOf_37 : decode F_X2_amountOf.2.1 37 = .ok (.iload_n 2, 1) := by decide +kernel
theorem d_X2_amountOf_38 : decode F_X2_amountOf.2.1 38 = .ok (.ireturn, 1) := by decide +kernel
def f_X2_amountOf_j31_4 (μ : Mem) (a0 : Nat) (l1 : Int32) (l2 : Int32) (l3 : Int32) : Option ((Int32 × Int32) ⊕ Int32) :=
some (.inl (l2, (l3 + 1)))
def f_X2_amountOf_b4 (μ : Mem) (a0 : Nat) (l1 : Int32) (l2 : Int32) (l3 : Int32) : Option ((Int32 × Int32) ⊕ Int32) :=
if (2 * (μ a0 0)) ≤ l3 then
some (.inr l2)
else
Option.bind (f_X11_hasBit μ l1 l3) fun t1 =>
if t1 = true then
Option.bind (rd μ (a0 + 8) 12 l3) fun t2 =>
f_X2_amountOf_j31_4 μ a0 l1 (l2 + t2) l3
else
f_X2_amountOf_j31_4 μ a0 l1 l2 l3
def f_X2_amountOf_j37 (μ : Mem) (a0 : Nat) (l2 : Int32) : Option Int32 :=
some l2
def f_X2_amountOf_l4 (μ : Mem) (a0 : Nat) (l1 : Int32) (l2 : Int32) (l3 : Int32) : Option Int32 := Option.bind (loopN 10000 (fun z : (Int32 × Int32) => f_X2_amountOf_b4 μ a0 l1 z.1 z.2) (l2, l3)) fun t : Int32 => f_X2_amountOf_j37 μ a0 t
def f_X2_amountOf (μ : Mem) (a0 : Nat) (p1 : Int32) : Option Int32 :=
f_X2_amountOf_l4 μ a0 p1 0 0
theorem s_X2_amountOf_j31_4 {G : Gl} (hG : G.1.stackTraces = false) {C : Cx} {n : Nat} {μ : Mem} {a0 : Nat} {l1 : Int32} {l2 : Int32} {l3 : Int32} (ha0 : a0 ∈ landL) {y : ((Int32 × Int32) ⊕ Int32)} (hf : f_X2_amountOf_j31_4 μ a0 l1 l2 l3 = some y) (hK : (∀ z', y = .inl z' → ∀ n, V G C F_X2_amountOf 4 [some (.ref (G.2.1 + a0)), some (.int l1), some (.int z'.1), some (.int z'.2)] [] (pic G μ) n 0 0) ∧ (∀ x', y = .inr x' → ∀ n, V G C F_X2_amountOf 37 [none, none, some (.int x'), none] [] (pic G μ) n 0 0)) : V G C F_X2_amountOf 31 [some (.ref (G.2.1 + a0)), some (.int l1), some (.int l2), some (.int l3)] [] (pic G μ) n 0 0 := by
  unfold f_X2_amountOf_j31_4 at hf
  refine V_iinc (v := (l3 + 1)) (ls' := [_, _, _, _]) d_X2_amountOf_31 rfl (by rw [ic_1]) rfl ?_
  refine V_goto (tgt := 4) d_X2_amountOf_34 (by decide) ?_
  refine V_less (ls' := [some _, some _, some _, some _]) ⟨rfl, rfl, rfl, rfl, trivial⟩ ?_
  cases hf
  exact hK.1 _ rfl _
theorem s_X2_amountOf_b4 {G : Gl} (hG : G.1.stackTraces = false) {C : Cx} {n : Nat} {μ : Mem} {a0 : Nat} {l1 : Int32} {l2 : Int32} {l3 : Int32} (ha0 : a0 ∈ landL) {y : ((Int32 × Int32) ⊕ Int32)} (hf : f_X2_amountOf_b4 μ a0 l1 l2 l3 = some y) (hK : (∀ z', y = .inl z' → ∀ n, V G C F_X2_amountOf 4 [some (.ref (G.2.1 + a0)), some (.int l1), some (.int z'.1), some (.int z'.2)] [] (pic G μ) n 0 0) ∧ (∀ x', y = .inr x' → ∀ n, V G C F_X2_amountOf 37 [none, none, some (.int x'), none] [] (pic G μ) n 0 0)) : V G C F_X2_amountOf 4 [some (.ref (G.2.1 + a0)), some (.int l1), some (.int l2), some (.int l3)] [] (pic G μ) n 0 0 := by
  unfold f_X2_amountOf_b4 at hf
  refine V_iload_n d_X2_amountOf_4 rfl rfl ?_
  refine V_iconst (v := 2) d_X2_amountOf_5 ic_2 ?_
  refine V_aload_n d_X2_amountOf_6 rfl rfl ?_
  refine B_get (kLand _ ha0) fl_RX2_9 d_X2_amountOf_7 g_2_0 ?_
  refine V_imul d_X2_amountOf_10 ?_
  refine V_icmp_ge (tgt := 37) d_X2_amountOf_11 (by decide) (fun c11 => ?_) (fun c11 => ?_)
  · replace hf := iteT c11 hf
    refine V_less (ls' := [none, none, some _, none]) ⟨rfl, trivial⟩ ?_
    cases hf
    exact hK.2 _ rfl _
  · replace hf := iteF c11 hf
    refine V_iload_n d_X2_amountOf_14 rfl rfl ?_
    refine V_iload_n d_X2_amountOf_15 rfl rfl ?_
    obtain ⟨t1, ht1, hf⟩ := ob hf
    refine B_callSN1 (s_X11_hasBit hG ht1) m_X11_hasBit ks_RX2_155 d_X2_amountOf_16 rfl (Nat.le_of_ble_eq_true rfl) ⟨rfl, rfl, Nat.le_of_ble_eq_true rfl, Nat.le_of_ble_eq_true rfl, Nat.le_of_ble_eq_true rfl⟩ (fun n => ?_)
    refine V_if_eq (tgt := 31) d_X2_amountOf_19 (by decide) (fun c19 => ?_) (fun c19 => ?_)
    · replace hf := iteF (b2i_nt (b2i_eq0 c19)) hf
      refine V_less (ls' := [some _, some _, some _, some _]) ⟨rfl, rfl, rfl, rfl, trivial⟩ ?_
      exact s_X2_amountOf_j31_4 hG ha0 hf hK
    · replace hf := iteT (b2i_ne0 c19) hf
      refine V_iload_n d_X2_amountOf_22 rfl rfl ?_
      refine V_aload_n d_X2_amountOf_23 rfl rfl ?_
      refine B_get (kLand _ ha0) fl_RX2_52 d_X2_amountOf_24 g_2_13 ?_
      refine V_iload_n d_X2_amountOf_27 rfl rfl ?_
      obtain ⟨t2, ht2, hf⟩ := ob hf
      refine B_iald (kLand_8 _ ha0) ht2 d_X2_amountOf_28 ?_
      refine V_iadd d_X2_amountOf_29 ?_
      refine V_istore_n (ls' := [_, _, _, _]) d_X2_amountOf_30 rfl rfl rfl ?_
      refine V_less (ls' := [some _, some _, some _, some _]) ⟨rfl, rfl, rfl, rfl, trivial⟩ ?_
      exact s_X2_amountOf_j31_4 hG ha0 hf hK
theorem s_X2_amountOf_j37 {G : Gl} (hG : G.1.stackTraces = false) {C : Cx} {n : Nat} {μ : Mem} {a0 : Nat} {l2 : Int32} (ha0 : a0 ∈ landL) {r : Int32} (hf : f_X2_amountOf_j37 μ a0 l2 = some r) (hK : FinR G C F_X2_amountOf (some .int) (some (.int r)) μ) : V G C F_X2_amountOf 37 [none, none, some (.int l2), none] [] (pic G μ) n 0 0 := by
  unfold f_X2_amountOf_j37 at hf
  refine V_iload_n d_X2_amountOf_37 rfl rfl ?_
  cases hf
  exact R_i hK d_X2_amountOf_38 (Nat.le_of_ble_eq_true rfl) (Nat.le_of_ble_eq_true rfl)
theorem s_X2_amountOf_l4 {G : Gl} (hG : G.1.stackTraces = false) {C : Cx} {n : Nat} {μ : Mem} {a0 : Nat} {l1 : Int32} {l2 : Int32} {l3 : Int32} (ha0 : a0 ∈ landL) {r : Int32} (hf : f_X2_amountOf_l4 μ a0 l1 l2 l3 = some r) (hK : FinR G C F_X2_amountOf (some .int) (some (.int r)) μ) : V G C F_X2_amountOf 4 [some (.ref (G.2.1 + a0)), some (.int l1), some (.int l2), some (.int l3)] [] (pic G μ) n 0 0 := by
  unfold f_X2_amountOf_l4 at hf
  obtain ⟨t, hl, hf⟩ := ob hf
  refine loopV (P := fun z => ∀ n, V G C F_X2_amountOf 4 [some (.ref (G.2.1 + a0)), some (.int l1), some (.int z.1), some (.int z.2)] [] (pic G μ) n 0 0) (t := t) ?_ _ _ hl n
  intro z y' hy hI hT n
  refine s_X2_amountOf_b4 hG ha0 hy ⟨hI, fun x9 ex => ?_⟩
  have ex2 := hT x9 ex
  subst ex2
  intro n
  exact s_X2_amountOf_j37 hG ha0 hf hK
theorem s_X2_amountOf_e {G : Gl} (hG : G.1.stackTraces = false) {C : Cx} {n : Nat} {μ : Mem} {a0 : Nat} {p1 : Int32} (ha0 : a0 ∈ landL) {r : Int32} (hf : f_X2_amountOf μ a0 p1 = some r) (hK : FinR G C F_X2_amountOf (some .int) (some (.int r)) μ) : V G C F_X2_amountOf 0 [some (.ref (G.2.1 + a0)), some (.int p1), none, none] [] (pic G μ) n 0 0 := by
  unfold f_X2_amountOf at hf
  refine V_iconst (v := 0) d_X2_amountOf_0 ic_0 ?_
  refine V_istore_n (ls' := [_, _, _, _]) d_X2_amountOf_1 rfl rfl rfl ?_
  refine V_iconst (v := 0) d_X2_amountOf_2 ic_0 ?_
  refine V_istore_n (ls' := [_, _, _, _]) d_X2_amountOf_3 rfl rfl rfl ?_
  refine V_less (ls' := [some _, some _, some _, some _]) ⟨rfl, rfl, rfl, rfl, trivial⟩ ?_
  exact s_X2_amountOf_l4 hG ha0 hf hK
theorem s_X2_amountOf {G : Gl} (hG : G.1.stackTraces = false) {μ : Mem} {a0 : Nat} {p1 : Int32} (ha0 : a0 ∈ landL) {r : Int32} (hf : f_X2_amountOf μ a0 p1 = some r) : Rt G yX2_amountOf F_X2_amountOf (some .int) [.ref (G.2.1 + a0), .int p1] μ (some (.int r)) μ := fun n => Sd.of hG ⟨by decide +kernel, rfl, rfl⟩ rfl (Nat.le_of_ble_eq_true rfl) rfl (fun C hK => s_X2_amountOf_e hG ha0 hf hK)
theorem d_X2_owedBy_0 : decode F_X2_owedBy.2.1 0 = .ok (.aload_n 0, 1) := by decide +kernel
theorem d_X2_owedBy_1 : decode F_X2_owedBy.2.1 1 = .ok (.iload_n 1, 1) := by decide +kernel
theorem d_X2_owedBy_2 : decode F_X2_owedBy.2.1 2 = .ok (.invokestatic 146, 3) := by decide +kernel
theorem d_X2_owedBy_5 : decode F_X2_owedBy.2.1 5 = .ok (.invokevirtual 149, 3) := by decide +kernel
theorem d_X2_owedBy_8 : decode F_X2_owedBy.2.1 8 = .ok (.ireturn, 1) := by decide +kernel
def f_X2_owedBy (μ : Mem) (a0 : Nat) (p1 : Int32) : Option Int32 :=
Option.bind (f_X11_lacesOf μ p1) fun t1 =>
Option.bind (f_X2_amountOf μ a0 t1) fun t2 =>
some t2
theorem s_X2_owedBy_e {G : Gl} (hG : G.1.stackTraces = false) {C : Cx} {n : Nat} {μ : Mem} {a0 : Nat} {p1 : Int32} (ha0 : a0 ∈ landL) {r : Int32} (hf : f_X2_owedBy μ a0 p1 = some r) (hK : FinR G C F_X2_owedBy (some .int) (some (.int r)) μ) : V G C F_X2_owedBy 0 [some (.ref (G.2.1 + a0)), some (.int p1)] [] (pic G μ) n 0 0 := by
  unfold f_X2_owedBy at hf
  refine V_aload_n d_X2_owedBy_0 rfl rfl ?_
  refine V_iload_n d_X2_owedBy_1 rfl rfl ?_
  obtain ⟨t1, ht1, hf⟩ := ob hf
  refine B_callSN1 (s_X11_lacesOf hG ht1) m_X11_lacesOf ks_RX2_146 d_X2_owedBy_2 rfl (Nat.le_of_ble_eq_true rfl) ⟨rfl, rfl, Nat.le_of_ble_eq_true rfl, Nat.le_of_ble_eq_true rfl, Nat.le_of_ble_eq_true rfl⟩ (fun n => ?_)
  obtain ⟨t2, ht2, hf⟩ := ob hf
  refine B_callV1 (s_X2_amountOf hG ha0 ht2) (kLand _ ha0) clX2 m_X2_amountOf kv_RX2_149 d_X2_owedBy_5 rfl (Nat.le_of_ble_eq_true rfl) ⟨rfl, rfl, Nat.le_of_ble_eq_true rfl, Nat.le_of_ble_eq_true rfl, Nat.le_of_ble_eq_true rfl⟩ (fun n => ?_)
  cases hf
  exact R_i hK d_X2_owedBy_8 (Nat.le_of_ble_eq_true rfl) (Nat.le_of_ble_eq_true rfl)
theorem s_X2_owedBy {G : Gl} (hG : G.1.stackTraces = false) {μ : Mem} {a0 : Nat} {p1 : Int32} (ha0 : a0 ∈ landL) {r : Int32} (hf : f_X2_owedBy μ a0 p1 = some r) : Rt G yX2_owedBy F_X2_owedBy (some .int) [.ref (G.2.1 + a0), .int p1] μ (some (.int r)) μ := fun n => Sd.of hG ⟨by decide +kernel, rfl, rfl⟩ rfl (Nat.le_of_ble_eq_true rfl) rfl (fun C hK => s_X2_owedBy_e hG ha0 hf hK)
theorem d_X2_dueTo_0 : decode F_X2_dueTo.2.1 0 = .ok (.aload_n 0, 1) := by decide +kernel
theorem d_X2_dueTo_1 : decode F_X2_dueTo.2.1 1 = .ok (.aload_n 0, 1) := by decide +kernel
theorem d_X2_dueTo_2 : decode F_X2_dueTo.2.1 2 = .ok (.iload_n 1, 1) := by decide +kernel
theorem d_X2_dueTo_3 : decode F_X2_dueTo.2.1 3 = .ok (.invokevirtual 152, 3) := by decide +kernel
theorem d_X2_dueTo_6 : decode F_X2_dueTo.2.1 6 = .ok (.invokevirtual 149, 3) := by decide +kernel
theorem d_X2_dueTo_9 : decode F_X2_dueTo.2.1 9 = .ok (.ireturn, 1) := by decide +kernel
def f_X2_dueTo (μ : Mem) (a0 : Nat) (p1 : Int32) : Option Int32 :=
Option.bind (f_X2_heldBy μ a0 p1) fun t1 =>
Option.bind (f_X2_amountOf μ a0 t1) fun t2 =>
some t2
theorem s_X2_dueTo_e {G : Gl} (hG : G.1.stackTraces = false) {C : Cx} {n : Nat} {μ : Mem} {a0 : Nat} {p1 : Int32} (ha0 : a0 ∈ landL) {r : Int32} (hf : f_X2_dueTo μ a0 p1 = some r) (hK : FinR G C F_X2_dueTo (some .int) (some (.int r)) μ) : V G C F_X2_dueTo 0 [some (.ref (G.2.1 + a0)), some (.int p1)] [] (pic G μ) n 0 0 := by
  unfold f_X2_dueTo at hf
  refine V_aload_n d_X2_dueTo_0 rfl rfl ?_
  refine V_aload_n d_X2_dueTo_1 rfl rfl ?_
  refine V_iload_n d_X2_dueTo_2 rfl rfl ?_
  obtain ⟨t1, ht1, hf⟩ := ob hf
  refine B_callV1 (s_X2_heldBy hG ha0 ht1) (kLand _ ha0) clX2 m_X2_heldBy kv_RX2_152 d_X2_dueTo_3 rfl (Nat.le_of_ble_eq_true rfl) ⟨rfl, rfl, Nat.le_of_ble_eq_true rfl, Nat.le_of_ble_eq_true rfl, Nat.le_of_ble_eq_true rfl⟩ (fun n => ?_)
  obtain ⟨t2, ht2, hf⟩ := ob hf
  refine B_callV1 (s_X2_amountOf hG ha0 ht2) (kLand _ ha0) clX2 m_X2_amountOf kv_RX2_149 d_X2_dueTo_6 rfl (Nat.le_of_ble_eq_true rfl) ⟨rfl, rfl, Nat.le_of_ble_eq_true rfl, Nat.le_of_ble_eq_true rfl, Nat.le_of_ble_eq_true rfl⟩ (fun n => ?_)
  cases hf
  exact R_i hK d_X2_dueTo_9 (Nat.le_of_ble_eq_true rfl) (Nat.le_of_ble_eq_true rfl)
theorem s_X2_dueTo {G : Gl} (hG : G.1.stackTraces = false) {μ : Mem} {a0 : Nat} {p1 : Int32} (ha0 : a0 ∈ landL) {r : Int32} (hf : f_X2_dueTo μ a0 p1 = some r) : Rt G yX2_dueTo F_X2_dueTo (some .int) [.ref (G.2.1 + a0), .int p1] μ (some (.int r)) μ := fun n => Sd.of hG ⟨by decide +kernel, rfl, rfl⟩ rfl (Nat.le_of_ble_eq_true rfl) rfl (fun C hK => s_X2_dueTo_e hG ha0 hf hK)
theorem d_X2_allPurses_0 : decode F_X2_allPurses.2.1 0 = .ok (.iconst 0, 1) := by decide +kernel
theorem d_X2_allPurses_1 : decode F_X2_allPurses.2.1 1 = .ok (.istore_n 1, 1) := by decide +kernel
theorem d_X2_allPurses_2 : decode F_X2_allPurses.2.1 2 = .ok (.iconst 0, 1) := by decide +kernel
theorem d_X2_allPurses_3 : decode F_X2_allPurses.2.1 3 = .ok (.istore_n 2, 1) := by decide +kernel
theorem d_X2_allPurses_4 : decode F_X2_allPurses.2.1 4 = .ok (.iload_n 2, 1) := by decide +kernel
theorem d_X2_allPurses_5 : decode F_X2_allPurses.2.1 5 = .ok (.aload_n 0, 1) := by decide +kernel
theorem d_X2_allPurses_6 : decode F_X2_allPurses.2.1 6 = .ok (.getfield 9, 3) := by decide +kernel
theorem d_X2_allPurses_9 : decode F_X2_allPurses.2.1 9 = .ok (.if_icmp .ge 18, 3) := by decide +kernel
theorem d_X2_allPurses_12 : decode F_X2_allPurses.2.1 12 = .ok (.iload_n 1, 1) := by decide +kernel
theorem d_X2_allPurses_13 : decode F_X2_allPurses.2.1 13 = .ok (.aload_n 0, 1) := by decide +kernel
theorem d_X2_allPurses_14 : decode F_X2_allPurses.2.1 14 = .ok (.getfield 30, 3) := by decide +kernel
theorem d_X2_allPurses_17 : decode F_X2_allPurses.2.1 17 = .ok (.iload_n 2, 1) := by decide +kernel
theorem d_X2_allPurses_18 : decode F_X2_allPurses.2.1 18 = .ok (.iaload, 1) := by decide +kernel
theorem d_X2_allPurses_19 : decode F_X2_allPurses.2.1 19 = .ok (.iadd, 1) := by decide +kernel
theorem d_X2_allPurses_20 : decode F_X2_allPurses.2.1 20 = .ok (.istore_n 1, 1) := by decide +kernel
theorem d_X2_allPurses_21 : decode F_X2_allPurses.2.1 21 = .ok (.iinc 2 1, 3) := by decide +kernel
theorem d_X2_allPurses_24 : decode F_X2_allPurses.2.1 24 = .ok (.goto (-20), 3) := by decide +kernel
theorem d_X2_allPurses_27 : decode F_X2_allPurses.2.1 27 = .ok (.iload_n 1, 1) := by decide +kernel
theorem d_X2_allPurses_28 : decode F_X2_allPurses.2.1 28 = .ok (.ireturn, 1) := by decide +kernel
def f_X2_allPurses_b4 (μ : Mem) (a0 : Nat) (l1 : Int32) (l2 : Int32) : Option ((Int32 × Int32) ⊕ Int32) :=
if (μ a0 0) ≤ l2 then
some (.inr l1)
else
Option.bind (rd μ (a0 + 1) 6 l2) fun t1 =>
some (.inl ((l1 + t1), (l2 + 1)))
def f_X2_allPurses_j27 (μ : Mem) (a0 : Nat) (l1 : Int32) : Option Int32 :=
some l1
def f_X2_allPurses_l4 (μ : Mem) (a0 : Nat) (l1 : Int32) (l2 : Int32) : Option Int32 := Option.bind (loopN 10000 (fun z : (Int32 × Int32) => f_X2_allPurses_b4 μ a0 z.1 z.2) (l1, l2)) fun t : Int32 => f_X2_allPurses_j27 μ a0 t
def f_X2_allPurses (μ : Mem) (a0 : Nat) : Option Int32 :=
f_X2_allPurses_l4 μ a0 0 0
theorem s_X2_allPurses_b4 {G : Gl} (hG : G.1.stackTraces = false) {C : Cx} {n : Nat} {μ : Mem} {a0 : Nat} {l1 : Int32} {l2 : Int32} (ha0 : a0 ∈ landL) {y : ((Int32 × Int32) ⊕ Int32)} (hf : f_X2_allPurses_b4 μ a0 l1 l2 = some y) (hK : (∀ z', y = .inl z' → ∀ n, V G C F_X2_allPurses 4 [some (.ref (G.2.1 + a0)), some (.int z'.1), some (.int z'.2)] [] (pic G μ) n 0 0) ∧ (∀ x', y = .inr x' → ∀ n, V G C F_X2_allPurses 27 [none, some (.int x'), none] [] (pic G μ) n 0 0)) : V G C F_X2_allPurses 4 [some (.ref (G.2.1 + a0)), some (.int l1), some (.int l2)] [] (pic G μ) n 0 0 := by
  unfold f_X2_allPurses_b4 at hf
  refine V_iload_n d_X2_allPurses_4 rfl rfl ?_
  refine V_aload_n d_X2_allPurses_5 rfl rfl ?_
  refine B_get (kLand _ ha0) fl_RX2_9 d_X2_allPurses_6 g_2_0 ?_
  refine V_icmp_ge (tgt := 27) d_X2_allPurses_9 (by decide) (fun c9 => ?_) (fun c9 => ?_)
  · replace hf := iteT c9 hf
    refine V_less (ls' := [none, some _, none]) ⟨rfl, trivial⟩ ?_
    cases hf
    exact hK.2 _ rfl _
  · replace hf := iteF c9 hf
    refine V_iload_n d_X2_allPurses_12 rfl rfl ?_
    refine V_aload_n d_X2_allPurses_13 rfl rfl ?_
    refine B_get (kLand _ ha0) fl_RX2_30 d_X2_allPurses_14 g_2_6 ?_
    refine V_iload_n d_X2_allPurses_17 rfl rfl ?_
    obtain ⟨t1, ht1, hf⟩ := ob hf
    refine B_iald (kLand_1 _ ha0) ht1 d_X2_allPurses_18 ?_
    refine V_iadd d_X2_allPurses_19 ?_
    refine V_istore_n (ls' := [_, _, _]) d_X2_allPurses_20 rfl rfl rfl ?_
    refine V_iinc (v := (l2 + 1)) (ls' := [_, _, _]) d_X2_allPurses_21 rfl (by rw [ic_1]) rfl ?_
    refine V_goto (tgt := 4) d_X2_allPurses_24 (by decide) ?_
    refine V_less (ls' := [some _, some _, some _]) ⟨rfl, rfl, rfl, trivial⟩ ?_
    cases hf
    exact hK.1 _ rfl _
theorem s_X2_allPurses_j27 {G : Gl} (hG : G.1.stackTraces = false) {C : Cx} {n : Nat} {μ : Mem} {a0 : Nat} {l1 : Int32} (ha0 : a0 ∈ landL) {r : Int32} (hf : f_X2_allPurses_j27 μ a0 l1 = some r) (hK : FinR G C F_X2_allPurses (some .int) (some (.int r)) μ) : V G C F_X2_allPurses 27 [none, some (.int l1), none] [] (pic G μ) n 0 0 := by
  unfold f_X2_allPurses_j27 at hf
  refine V_iload_n d_X2_allPurses_27 rfl rfl ?_
  cases hf
  exact R_i hK d_X2_allPurses_28 (Nat.le_of_ble_eq_true rfl) (Nat.le_of_ble_eq_true rfl)
theorem s_X2_allPurses_l4 {G : Gl} (hG : G.1.stackTraces = false) {C : Cx} {n : Nat} {μ : Mem} {a0 : Nat} {l1 : Int32} {l2 : Int32} (ha0 : a0 ∈ landL) {r : Int32} (hf : f_X2_allPurses_l4 μ a0 l1 l2 = some r) (hK : FinR G C F_X2_allPurses (some .int) (some (.int r)) μ) : V G C F_X2_allPurses 4 [some (.ref (G.2.1 + a0)), some (.int l1), some (.int l2)] [] (pic G μ) n 0 0 := by
  unfold f_X2_allPurses_l4 at hf
  obtain ⟨t, hl, hf⟩ := ob hf
  refine loopV (P := fun z => ∀ n, V G C F_X2_allPurses 4 [some (.ref (G.2.1 + a0)), some (.int z.1), some (.int z.2)] [] (pic G μ) n 0 0) (t := t) ?_ _ _ hl n
  intro z y' hy hI hT n
  refine s_X2_allPurses_b4 hG ha0 hy ⟨hI, fun x9 ex => ?_⟩
  have ex2 := hT x9 ex
  subst ex2
  intro n
  exact s_X2_allPurses_j27 hG ha0 hf hK
theorem s_X2_allPurses_e {G : Gl} (hG : G.1.stackTraces = false) {C : Cx} {n : Nat} {μ : Mem} {a0 : Nat} (ha0 : a0 ∈ landL) {r : Int32} (hf : f_X2_allPurses μ a0 = some r) (hK : FinR G C F_X2_allPurses (some .int) (some (.int r)) μ) : V G C F_X2_allPurses 0 [some (.ref (G.2.1 + a0)), none, none] [] (pic G μ) n 0 0 := by
  unfold f_X2_allPurses at hf
  refine V_iconst (v := 0) d_X2_allPurses_0 ic_0 ?_
  refine V_istore_n (ls' := [_, _, _]) d_X2_allPurses_1 rfl rfl rfl ?_
  refine V_iconst (v := 0) d_X2_allPurses_2 ic_0 ?_
  refine V_istore_n (ls' := [_, _, _]) d_X2_allPurses_3 rfl rfl rfl ?_
  refine V_less (ls' := [some _, some _, some _]) ⟨rfl, rfl, rfl, trivial⟩ ?_
  exact s_X2_allPurses_l4 hG ha0 hf hK
theorem s_X2_allPurses {G : Gl} (hG : G.1.stackTraces = false) {μ : Mem} {a0 : Nat} (ha0 : a0 ∈ landL) {r : Int32} (hf : f_X2_allPurses μ a0 = some r) : Rt G yX2_allPurses F_X2_allPurses (some .int) [.ref (G.2.1 + a0)] μ (some (.int r)) μ := fun n => Sd.of hG ⟨by decide +kernel, rfl, rfl⟩ rfl (Nat.le_of_ble_eq_true rfl) rfl (fun C hK => s_X2_allPurses_e hG ha0 hf hK)
theorem d_X2_shareOf_0 : decode F_X2_shareOf.2.1 0 = .ok (.aload_n 0, 1) := by decide +kernel
theorem d_X2_shareOf_1 : decode F_X2_shareOf.2.1 1 = .ok (.iconst 2, 1) := by decide +kernel
theorem d_X2_shareOf_2 : decode F_X2_shareOf.2.1 2 = .ok (.invokevirtual 159, 3) := by decide +kernel
theorem d_X2_shareOf_5 : decode F_X2_shareOf.2.1 5 = .ok (.istore_n 2, 1) := by decide +kernel
theorem d_X2_shareOf_6 : decode F_X2_shareOf.2.1 6 = .ok (.iload_n 2, 1) := by decide +kernel
theorem d_X2_shareOf_7 : decode F_X2_shareOf.2.1 7 = .ok (.invokestatic 141, 3) := by decide +kernel
theorem d_X2_shareOf_10 : decode F_X2_shareOf.2.1 10 = .ok (.istore_n 3, 1) := by decide +kernel
theorem d_X2_shareOf_11 : decode F_X2_shareOf.2.1 11 = .ok (.iload_n 3, 1) := by decide +kernel
theorem d_X2_shareOf_12 : decode F_X2_shareOf.2.1 12 = .ok (.ifCond .ne 7, 3) := by decide +kernel
theorem d_X2_shareOf_15 : decode F_X2_shareOf.2.1 15 = .ok (.iconst 0, 1) := by decide +kernel
theorem d_X2_shareOf_16 : decode F_X2_shareOf.2.1 16 = .ok (.goto 18, 3) := by decide +kernel
theorem d_X2_shareOf_19 : decode F_X2_shareOf.2.1 19 = .ok (.bipush 100, 2) := by decide +kernel
theorem d_X2_shareOf_21 : decode F_X2_shareOf.2.1 21 = .ok (.iload_n 2, 1) := by decide +kernel
theorem d_X2_shareOf_22 : decode F_X2_shareOf.2.1 22 = .ok (.aload_n 0, 1) := by decide +kernel
theorem d_X2_shareOf_23 : decode F_X2_shareOf.2.1 23 = .ok (.iload_n 1, 1) := by decide +kernel
theorem d_X2_shareOf_24 : decode F_X2_shareOf.2.1 24 = .ok (.invokevirtual 152, 3) := by decide +kernel
theorem d_X2_shareOf_27 : decode F_X2_shareOf.2.1 27 = .ok (.iand, 1) := by decide +kernel
theorem d_X2_shareOf_28 : decode F_X2_shareOf.2.1 28 = .ok (.invokestatic 141, 3) := by decide +kernel
theorem d_X2_shareOf_31 : decode F_X2_shareOf.2.1 31 = .ok (.imul, 1) := by decide +kernel
theorem d_X2_shareOf_32 : decode F_X2_shareOf.2.1 32 = .ok (.iload_n 3, 1) := by decide +kernel
theorem d_X2_shareOf_33 : decode F_X2_shareOf.2.1 33 = .ok (.idiv, 1) := by decide +kernel
theorem d_X2_shareOf_34 : decode F_X2_shareOf.2.1 34 = .ok (.ireturn, 1) := by decide +kernel
def f_X2_shareOf_j34 (μ : Mem) (a0 : Nat) (k0 : Int32) : Option Int32 :=
some k0
def f_X2_shareOf (μ : Mem) (a0 : Nat) (p1 : Int32) : Option Int32 :=
Option.bind (f_X2_lacesThatAre μ a0 2) fun t1 =>
Option.bind (f_J6_bitCount_0f7a4 μ t1) fun t2 =>
if t2 = 0 then
f_X2_shareOf_j34 μ a0 0
else
Option.bind (f_X2_heldBy μ a0 p1) fun t3 =>
Option.bind (f_J6_bitCount_0f7a4 μ (t1 &&& t3)) fun t4 =>
Option.bind (dv (100 * t4) t2) fun t5 =>
f_X2_shareOf_j34 μ a0 t5
theorem s_X2_shareOf_j34 {G : Gl} (hG : G.1.stackTraces = false) {C : Cx} {n : Nat} {μ : Mem} {a0 : Nat} {k0 : Int32} (ha0 : a0 ∈ landL) {r : Int32} (hf : f_X2_shareOf_j34 μ a0 k0 = some r) (hK : FinR G C F_X2_shareOf (some .int) (some (.int r)) μ) : V G C F_X2_shareOf 34 [none, none, none, none] [.int k0] (pic G μ) n 0 0 := by
  unfold f_X2_shareOf_j34 at hf
  cases hf
  exact R_i hK d_X2_shareOf_34 (Nat.le_of_ble_eq_true rfl) (Nat.le_of_ble_eq_true rfl)
theorem s_X2_shareOf_e {G : Gl} (hG : G.1.stackTraces = false) {C : Cx} {n : Nat} {μ : Mem} {a0 : Nat} {p1 : Int32} (ha0 : a0 ∈ landL) {r : Int32} (hf : f_X2_shareOf μ a0 p1 = some r) (hK : FinR G C F_X2_shareOf (some .int) (some (.int r)) μ) : V G C F_X2_shareOf 0 [some (.ref (G.2.1 + a0)), some (.int p1), none, none] [] (pic G μ) n 0 0 := by
  unfold f_X2_shareOf at hf
  refine V_aload_n d_X2_shareOf_0 rfl rfl ?_
  refine V_iconst (v := 2) d_X2_shareOf_1 ic_2 ?_
  obtain ⟨t1, ht1, hf⟩ := ob hf
  refine B_callV1 (s_X2_lacesThatAre hG ha0 ht1) (kLand _ ha0) clX2 m_X2_lacesThatAre kv_RX2_159 d_X2_shareOf_2 rfl (Nat.le_of_ble_eq_true rfl) ⟨rfl, rfl, Nat.le_of_ble_eq_true rfl, Nat.le_of_ble_eq_true rfl, Nat.le_of_ble_eq_true rfl⟩ (fun n => ?_)
  refine V_istore_n (ls' := [_, _, _, _]) d_X2_shareOf_5 rfl rfl rfl ?_
  refine V_iload_n d_X2_shareOf_6 rfl rfl ?_
  obtain ⟨t2, ht2, hf⟩ := ob hf
  refine B_callS1 (s_J6_bitCount_0f7a4 hG ht2) m_J6_bitCount_0f7a4 ks_RX2_141 d_X2_shareOf_7 rfl (Nat.le_of_ble_eq_true rfl) ⟨rfl, rfl, Nat.le_of_ble_eq_true rfl, Nat.le_of_ble_eq_true rfl, Nat.le_of_ble_eq_true rfl⟩ (fun n => ?_)
  refine V_istore_n (ls' := [_, _, _, _]) d_X2_shareOf_10 rfl rfl rfl ?_
  refine V_iload_n d_X2_shareOf_11 rfl rfl ?_
  refine V_if_ne (tgt := 19) d_X2_shareOf_12 (by decide) (fun c12 => ?_) (fun c12 => ?_)
  · replace hf := iteF c12 hf
    refine V_bipush (v := 100) d_X2_shareOf_19 bp_100 ?_
    refine V_iload_n d_X2_shareOf_21 rfl rfl ?_
    refine V_aload_n d_X2_shareOf_22 rfl rfl ?_
    refine V_iload_n d_X2_shareOf_23 rfl rfl ?_
    obtain ⟨t3, ht3, hf⟩ := ob hf
    refine B_callV1 (s_X2_heldBy hG ha0 ht3) (kLand _ ha0) clX2 m_X2_heldBy kv_RX2_152 d_X2_shareOf_24 rfl (Nat.le_of_ble_eq_true rfl) ⟨rfl, rfl, Nat.le_of_ble_eq_true rfl, Nat.le_of_ble_eq_true rfl, Nat.le_of_ble_eq_true rfl⟩ (fun n => ?_)
    refine V_iand d_X2_shareOf_27 ?_
    obtain ⟨t4, ht4, hf⟩ := ob hf
    refine B_callS1 (s_J6_bitCount_0f7a4 hG ht4) m_J6_bitCount_0f7a4 ks_RX2_141 d_X2_shareOf_28 rfl (Nat.le_of_ble_eq_true rfl) ⟨rfl, rfl, Nat.le_of_ble_eq_true rfl, Nat.le_of_ble_eq_true rfl, Nat.le_of_ble_eq_true rfl⟩ (fun n => ?_)
    refine V_imul d_X2_shareOf_31 ?_
    refine V_iload_n d_X2_shareOf_32 rfl rfl ?_
    obtain ⟨t5, ht5, hf⟩ := ob hf
    obtain ⟨gt5, ht5⟩ := dv_some ht5
    refine V_idiv d_X2_shareOf_33 gt5 ?_
    rw [ht5]
    refine V_less (ls' := [none, none, none, none]) trivial ?_
    exact s_X2_shareOf_j34 hG ha0 hf hK
  · replace hf := iteT c12 hf
    refine V_iconst (v := 0) d_X2_shareOf_15 ic_0 ?_
    refine V_goto (tgt := 34) d_X2_shareOf_16 (by decide) ?_
    refine V_less (ls' := [none, none, none, none]) trivial ?_
    exact s_X2_shareOf_j34 hG ha0 hf hK
theorem s_X2_shareOf {G : Gl} (hG : G.1.stackTraces = false) {μ : Mem} {a0 : Nat} {p1 : Int32} (ha0 : a0 ∈ landL) {r : Int32} (hf : f_X2_shareOf μ a0 p1 = some r) : Rt G yX2_shareOf F_X2_shareOf (some .int) [.ref (G.2.1 + a0), .int p1] μ (some (.int r)) μ := fun n => Sd.of hG ⟨by decide +kernel, rfl, rfl⟩ rfl (Nat.le_of_ble_eq_true rfl) rfl (fun C hK => s_X2_shareOf_e hG ha0 hf hK)
theorem d_X2_hangingOn_0 : decode F_X2_hangingOn.2.1 0 = .ok (.iconst 0, 1) := by decide +kernel
theorem d_X2_hangingOn_1 : decode F_X2_hangingOn.2.1 1 = .ok (.istore_n 2, 1) := by decide +kernel
theorem d_X2_hangingOn_2 : decode F_X2_hangingOn.2.1 2 = .ok (.iconst 0, 1) := by decide +kernel
theorem d_X2_hangingOn_3 : decode F_X2_hangingOn.2.1 3 = .ok (.istore_n 3, 1) := by decide +kernel
theorem d_X2_hangingOn_4 : decode F_X2_hangingOn.2.1 4 = .ok (.iload_n 3, 1) := by decide +kernel
theorem d_X2_hangingOn_5 : decode F_X2_hangingOn.2.1 5 = .ok (.iconst 2, 1) := by decide +kernel
theorem d_X2_hangingOn_6 : decode F_X2_hangingOn.2.1 6 = .ok (.aload_n 0, 1) := by decide +kernel
theorem d_X2_hangingOn_7 : decode F_X2_hangingOn.2.1 7 = .ok (.getfield 9, 3) := by decide +kernel
theorem d_X2_hangingOn_10 : decode F_X2_hangingOn.2.1 10 = .ok (.imul, 1) := by decide +kernel
theorem d_X2_hangingOn_11 : decode F_X2_hangingOn.2.1 11 = .ok (.if_icmp .ge 25, 3) := by decide +kernel
theorem d_X2_hangingOn_14 : decode F_X2_hangingOn.2.1 14 = .ok (.aload_n 0, 1) := by decide +kernel
theorem d_X2_hangingOn_15 : decode F_X2_hangingOn.2.1 15 = .ok (.getfield 61, 3) := by decide +kernel
theorem d_X2_hangingOn_18 : decode F_X2_hangingOn.2.1 18 = .ok (.iload_n 3, 1) := by decide +kernel
theorem d_X2_hangingOn_19 : decode F_X2_hangingOn.2.1 19 = .ok (.iaload, 1) := by decide +kernel
theorem d_X2_hangingOn_20 : decode F_X2_hangingOn.2.1 20 = .ok (.iload_n 1, 1) := by decide +kernel
theorem d_X2_hangingOn_21 : decode F_X2_hangingOn.2.1 21 = .ok (.if_icmp .ne 9, 3) := by decide +kernel
theorem d_X2_hangingOn_24 : decode F_X2_hangingOn.2.1 24 = .ok (.iload_n 2, 1) := by decide +kernel
theorem d_X2_hangingOn_25 : decode F_X2_hangingOn.2.1 25 = .ok (.iconst 1, 1) := by decide +kernel
theorem d_X2_hangingOn_26 : decode F_X2_hangingOn.2.1 26 = .ok (.iload_n 3, 1) := by decide +kernel
theorem d_X2_hangingOn_27 : decode F_X2_hangingOn.2.1 27 = .ok (.ishl, 1) := by decide +kernel
theorem d_X2_hangingOn_28 : decode F_X2_hangingOn.2.1 28 = .ok (.ior, 1) := by decide +kernel
theorem d_X2_hangingOn_29 : decode F_X2_hangingOn.2.1 29 = .ok (.istore_n 2, 1) := by decide +kernel
theorem d_X2_hangingOn_30 : decode F_X2_hangingOn.2.1 30 = .ok (.iinc 3 1, 3) := by decide +kernel
theorem d_X2_hangingOn_33 : decode F_X2_hangingOn.2.1 33 = .ok (.goto (-29), 3) := by decide +kernel
theorem d_X2_hangingOn_36 : decode F_X2_hangingOn.2.1 36 = .ok (.iload_n 2, 1) := by decide +kernel
theorem d_X2_hangingOn_37 : decode F_X2_hangingOn.2.1 37 = .ok (.ireturn, 1) := by decide +kernel
def f_X2_hangingOn_b4 (μ : Mem) (a0 : Nat) (l1 : Int32) (l2 : Int32) (l3 : Int32) : Option ((Int32 × Int32) ⊕ Int32) :=
if (2 * (μ a0 0)) ≤ l3 then
some (.inr l2)
else
Option.bind (rd μ (a0 + 11) 12 l3) fun t1 =>
some (.inl ((if t1 = l1 then (l2 ||| (1 <<< (l3 &&& 31))) else l2), (l3 + 1)))
def f_X2_hangingOn_j36 (μ : Mem) (a0 : Nat) (l2 : Int32) : Option Int32 :=
some l2
def f_X2_hangingOn_l4 (μ : Mem) (a0 : Nat) (l1 : Int32) (l2 : Int32) (l3 : Int32) : Option Int32 := Option.bind (loopN 10000 (fun z : (Int32 × Int32) => f_X2_hangingOn_b4 μ a0 l1 z.1 z.2) (l2, l3)) fun t : Int32 => f_X2_hangingOn_j36 μ a0 t
def f_X2_hangingOn (μ : Mem) (a0 : Nat) (p1 : Int32) : Option Int32 :=
f_X2_hangingOn_l4 μ a0 p1 0 0
theorem s_X2_hangingOn_b4 {G : Gl} (hG : G.1.stackTraces = false) {C : Cx} {n : Nat} {μ : Mem} {a0 : Nat} {l1 : Int32} {l2 : Int32} {l3 : Int32} (ha0 : a0 ∈ landL) {y : ((Int32 × Int32) ⊕ Int32)} (hf : f_X2_hangingOn_b4 μ a0 l1 l2 l3 = some y) (hK : (∀ z', y = .inl z' → ∀ n, V G C F_X2_hangingOn 4 [some (.ref (G.2.1 + a0)), some (.int l1), some (.int z'.1), some (.int z'.2)] [] (pic G μ) n 0 0) ∧ (∀ x', y = .inr x' → ∀ n, V G C F_X2_hangingOn 36 [none, none, some (.int x'), none] [] (pic G μ) n 0 0)) : V G C F_X2_hangingOn 4 [some (.ref (G.2.1 + a0)), some (.int l1), some (.int l2), some (.int l3)] [] (pic G μ) n 0 0 := by
  unfold f_X2_hangingOn_b4 at hf
  refine V_iload_n d_X2_hangingOn_4 rfl rfl ?_
  refine V_iconst (v := 2) d_X2_hangingOn_5 ic_2 ?_
  refine V_aload_n d_X2_hangingOn_6 rfl rfl ?_
  refine B_get (kLand _ ha0) fl_RX2_9 d_X2_hangingOn_7 g_2_0 ?_
  refine V_imul d_X2_hangingOn_10 ?_
  refine V_icmp_ge (tgt := 36) d_X2_hangingOn_11 (by decide) (fun c11 => ?_) (fun c11 => ?_)
  · replace hf := iteT c11 hf
    refine V_less (ls' := [none, none, some _, none]) ⟨rfl, trivial⟩ ?_
    cases hf
    exact hK.2 _ rfl _
  · replace hf := iteF c11 hf
    refine V_aload_n d_X2_hangingOn_14 rfl rfl ?_
    refine B_get (kLand _ ha0) fl_RX2_61 d_X2_hangingOn_15 g_2_16 ?_
    refine V_iload_n d_X2_hangingOn_18 rfl rfl ?_
    obtain ⟨t1, ht1, hf⟩ := ob hf
    refine B_iald (kLand_11 _ ha0) ht1 d_X2_hangingOn_19 ?_
    refine V_iload_n d_X2_hangingOn_20 rfl rfl ?_
    have hJj2 : ∀ j2 : Int32, j2 = (if t1 = l1 then (l2 ||| (1 <<< (l3 &&& 31))) else l2) → V G C F_X2_hangingOn 30 [some (.ref (G.2.1 + a0)), some (.int l1), some (.int j2), some (.int l3)] [] (pic G μ) n 0 0 := by
      intro j2 ej2
      subst ej2
      refine V_iinc (v := (l3 + 1)) (ls' := [_, _, _, _]) d_X2_hangingOn_30 rfl (by rw [ic_1]) rfl ?_
      refine V_goto (tgt := 4) d_X2_hangingOn_33 (by decide) ?_
      refine V_less (ls' := [some _, some _, some _, some _]) ⟨rfl, rfl, rfl, rfl, trivial⟩ ?_
      cases hf
      exact hK.1 _ rfl _
    refine V_icmp_ne (tgt := 30) d_X2_hangingOn_21 (by decide) (fun c21 => ?_) (fun c21 => ?_)
    · refine V_less (ls' := [some _, some _, some _, some _]) ⟨rfl, rfl, rfl, rfl, trivial⟩ ?_
      exact hJj2 l2 (by rw [if_neg c21])
    · refine V_iload_n d_X2_hangingOn_24 rfl rfl ?_
      refine V_iconst (v := 1) d_X2_hangingOn_25 ic_1 ?_
      refine V_iload_n d_X2_hangingOn_26 rfl rfl ?_
      refine V_ishl d_X2_hangingOn_27 ?_
      refine V_ior d_X2_hangingOn_28 ?_
      refine V_istore_n (ls' := [_, _, _, _]) d_X2_hangingOn_29 rfl rfl rfl ?_
      refine V_less (ls' := [some _, some _, some _, some _]) ⟨rfl, rfl, rfl, rfl, trivial⟩ ?_
      exact hJj2 (l2 ||| (1 <<< (l3 &&& 31))) (by rw [if_pos c21])
theorem s_X2_hangingOn_j36 {G : Gl} (hG : G.1.stackTraces = false) {C : Cx} {n : Nat} {μ : Mem} {a0 : Nat} {l2 : Int32} (ha0 : a0 ∈ landL) {r : Int32} (hf : f_X2_hangingOn_j36 μ a0 l2 = some r) (hK : FinR G C F_X2_hangingOn (some .int) (some (.int r)) μ) : V G C F_X2_hangingOn 36 [none, none, some (.int l2), none] [] (pic G μ) n 0 0 := by
  unfold f_X2_hangingOn_j36 at hf
  refine V_iload_n d_X2_hangingOn_36 rfl rfl ?_
  cases hf
  exact R_i hK d_X2_hangingOn_37 (Nat.le_of_ble_eq_true rfl) (Nat.le_of_ble_eq_true rfl)
theorem s_X2_hangingOn_l4 {G : Gl} (hG : G.1.stackTraces = false) {C : Cx} {n : Nat} {μ : Mem} {a0 : Nat} {l1 : Int32} {l2 : Int32} {l3 : Int32} (ha0 : a0 ∈ landL) {r : Int32} (hf : f_X2_hangingOn_l4 μ a0 l1 l2 l3 = some r) (hK : FinR G C F_X2_hangingOn (some .int) (some (.int r)) μ) : V G C F_X2_hangingOn 4 [some (.ref (G.2.1 + a0)), some (.int l1), some (.int l2), some (.int l3)] [] (pic G μ) n 0 0 := by
  unfold f_X2_hangingOn_l4 at hf
  obtain ⟨t, hl, hf⟩ := ob hf
  refine loopV (P := fun z => ∀ n, V G C F_X2_hangingOn 4 [some (.ref (G.2.1 + a0)), some (.int l1), some (.int z.1), some (.int z.2)] [] (pic G μ) n 0 0) (t := t) ?_ _ _ hl n
  intro z y' hy hI hT n
  refine s_X2_hangingOn_b4 hG ha0 hy ⟨hI, fun x9 ex => ?_⟩
  have ex2 := hT x9 ex
  subst ex2
  intro n
  exact s_X2_hangingOn_j36 hG ha0 hf hK
theorem s_X2_hangingOn_e {G : Gl} (hG : G.1.stackTraces = false) {C : Cx} {n : Nat} {μ : Mem} {a0 : Nat} {p1 : Int32} (ha0 : a0 ∈ landL) {r : Int32} (hf : f_X2_hangingOn μ a0 p1 = some r) (hK : FinR G C F_X2_hangingOn (some .int) (some (.int r)) μ) : V G C F_X2_hangingOn 0 [some (.ref (G.2.1 + a0)), some (.int p1), none, none] [] (pic G μ) n 0 0 := by
  unfold f_X2_hangingOn at hf
  refine V_iconst (v := 0) d_X2_hangingOn_0 ic_0 ?_
  refine V_istore_n (ls' := [_, _, _, _]) d_X2_hangingOn_1 rfl rfl rfl ?_
  refine V_iconst (v := 0) d_X2_hangingOn_2 ic_0 ?_
  refine V_istore_n (ls' := [_, _, _, _]) d_X2_hangingOn_3 rfl rfl rfl ?_
  refine V_less (ls' := [some _, some _, some _, some _]) ⟨rfl, rfl, rfl, rfl, trivial⟩ ?_
  exact s_X2_hangingOn_l4 hG ha0 hf hK
theorem s_X2_hangingOn {G : Gl} (hG : G.1.stackTraces = false) {μ : Mem} {a0 : Nat} {p1 : Int32} (ha0 : a0 ∈ landL) {r : Int32} (hf : f_X2_hangingOn μ a0 p1 = some r) : Rt G yX2_hangingOn F_X2_hangingOn (some .int) [.ref (G.2.1 + a0), .int p1] μ (some (.int r)) μ := fun n => Sd.of hG ⟨by decide +kernel, rfl, rfl⟩ rfl (Nat.le_of_ble_eq_true rfl) rfl (fun C hK => s_X2_hangingOn_e hG ha0 hf hK)
theorem d_X2_creditorOf_0 : decode F_X2_creditorOf.2.1 0 = .ok (.aload_n 0, 1) := by decide +kernel
theorem d_X2_creditorOf_1 : decode F_X2_creditorOf.2.1 1 = .ok (.iload_n 1, 1) := by decide +kernel
theorem d_X2_creditorOf_2 : decode F_X2_creditorOf.2.1 2 = .ok (.invokevirtual 106, 3) := by decide +kernel
theorem d_X2_creditorOf_5 : decode F_X2_creditorOf.2.1 5 = .ok (.ifCond .eq 14, 3) := by decide +kernel
theorem d_X2_creditorOf_8 : decode F_X2_creditorOf.2.1 8 = .ok (.iconst 1, 1) := by decide +kernel
theorem d_X2_creditorOf_9 : decode F_X2_creditorOf.2.1 9 = .ok (.aload_n 0, 1) := by decide +kernel
theorem d_X2_creditorOf_10 : decode F_X2_creditorOf.2.1 10 = .ok (.getfield 49, 3) := by decide +kernel
theorem d_X2_creditorOf_13 : decode F_X2_creditorOf.2.1 13 = .ok (.iload_n 1, 1) := by decide +kernel
theorem d_X2_creditorOf_14 : decode F_X2_creditorOf.2.1 14 = .ok (.iaload, 1) := by decide +kernel
theorem d_X2_creditorOf_15 : decode F_X2_creditorOf.2.1 15 = .ok (.ishl, 1) := by decide +kernel
theorem d_X2_creditorOf_16 : decode F_X2_creditorOf.2.1 16 = .ok (.goto 4, 3) := by decide +kernel
theorem d_X2_creditorOf_19 : decode F_X2_creditorOf.2.1 19 = .ok (.iconst 0, 1) := by decide +kernel
theorem d_X2_creditorOf_20 : decode F_X2_creditorOf.2.1 20 = .ok (.ireturn, 1) := by decide +kernel
def f_X2_creditorOf_j20 (μ : Mem) (a0 : Nat) (k0 : Int32) : Option Int32 :=
some k0
def f_X2_creditorOf (μ : Mem) (a0 : Nat) (p1 : Int32) : Option Int32 :=
Option.bind (f_X2_isPledged μ a0 p1) fun t1 =>
if t1 = true then
Option.bind (rd μ (a0 + 7) 12 p1) fun t2 =>
f_X2_creditorOf_j20 μ a0 (1 <<< (t2 &&& 31))
else
f_X2_creditorOf_j20 μ a0 0
theorem s_X2_creditorOf_j20 {G : Gl} (hG : G.1.stackTraces = false) {C : Cx} {n : Nat} {μ : Mem} {a0 : Nat} {k0 : Int32} (ha0 : a0 ∈ landL) {r : Int32} (hf : f_X2_creditorOf_j20 μ a0 k0 = some r) (hK : FinR G C F_X2_creditorOf (some .int) (some (.int r)) μ) : V G C F_X2_creditorOf 20 [none, none] [.int k0] (pic G μ) n 0 0 := by
  unfold f_X2_creditorOf_j20 at hf
  cases hf
  exact R_i hK d_X2_creditorOf_20 (Nat.le_of_ble_eq_true rfl) (Nat.le_of_ble_eq_true rfl)
theorem s_X2_creditorOf_e {G : Gl} (hG : G.1.stackTraces = false) {C : Cx} {n : Nat} {μ : Mem} {a0 : Nat} {p1 : Int32} (ha0 : a0 ∈ landL) {r : Int32} (hf : f_X2_creditorOf μ a0 p1 = some r) (hK : FinR G C F_X2_creditorOf (some .int) (some (.int r)) μ) : V G C F_X2_creditorOf 0 [some (.ref (G.2.1 + a0)), some (.int p1)] [] (pic G μ) n 0 0 := by
  unfold f_X2_creditorOf at hf
  refine V_aload_n d_X2_creditorOf_0 rfl rfl ?_
  refine V_iload_n d_X2_creditorOf_1 rfl rfl ?_
  obtain ⟨t1, ht1, hf⟩ := ob hf
  refine B_callV1 (s_X2_isPledged hG ha0 ht1) (kLand _ ha0) clX2 m_X2_isPledged kv_RX2_106 d_X2_creditorOf_2 rfl (Nat.le_of_ble_eq_true rfl) ⟨rfl, rfl, Nat.le_of_ble_eq_true rfl, Nat.le_of_ble_eq_true rfl, Nat.le_of_ble_eq_true rfl⟩ (fun n => ?_)
  refine V_if_eq (tgt := 19) d_X2_creditorOf_5 (by decide) (fun c5 => ?_) (fun c5 => ?_)
  · replace hf := iteF (b2i_nt (b2i_eq0 c5)) hf
    refine V_iconst (v := 0) d_X2_creditorOf_19 ic_0 ?_
    refine V_less (ls' := [none, none]) trivial ?_
    exact s_X2_creditorOf_j20 hG ha0 hf hK
  · replace hf := iteT (b2i_ne0 c5) hf
    refine V_iconst (v := 1) d_X2_creditorOf_8 ic_1 ?_
    refine V_aload_n d_X2_creditorOf_9 rfl rfl ?_
    refine B_get (kLand _ ha0) fl_RX2_49 d_X2_creditorOf_10 g_2_12 ?_
    refine V_iload_n d_X2_creditorOf_13 rfl rfl ?_
    obtain ⟨t2, ht2, hf⟩ := ob hf
    refine B_iald (kLand_7 _ ha0) ht2 d_X2_creditorOf_14 ?_
    refine V_ishl d_X2_creditorOf_15 ?_
    refine V_goto (tgt := 20) d_X2_creditorOf_16 (by decide) ?_
    refine V_less (ls' := [none, none]) trivial ?_
    exact s_X2_creditorOf_j20 hG ha0 hf hK
theorem s_X2_creditorOf {G : Gl} (hG : G.1.stackTraces = false) {μ : Mem} {a0 : Nat} {p1 : Int32} (ha0 : a0 ∈ landL) {r : Int32} (hf : f_X2_creditorOf μ a0 p1 = some r) : Rt G yX2_creditorOf F_X2_creditorOf (some .int) [.ref (G.2.1 + a0), .int p1] μ (some (.int r)) μ := fun n => Sd.of hG ⟨by decide +kernel, rfl, rfl⟩ rfl (Nat.le_of_ble_eq_true rfl) rfl (fun C hK => s_X2_creditorOf_e hG ha0 hf hK)
theorem d_X2_directCreditorsOf_0 : decode F_X2_directCreditorsOf.2.1 0 = .ok (.aload_n 0, 1) := by decide +kernel
theorem d_X2_directCreditorsOf_1 : decode F_X2_directCreditorsOf.2.1 1 = .ok (.iconst 2, 1) := by decide +kernel
theorem d_X2_directCreditorsOf_2 : decode F_X2_directCreditorsOf.2.1 2 = .ok (.iload_n 1, 1) := by decide +kernel
theorem d_X2_directCreditorsOf_3 : decode F_X2_directCreditorsOf.2.1 3 = .ok (.imul, 1) := by decide +kernel
theorem d_X2_directCreditorsOf_4 : decode F_X2_directCreditorsOf.2.1 4 = .ok (.invokevirtual 195, 3) := by decide +kernel
theorem d_X2_directCreditorsOf_7 : decode F_X2_directCreditorsOf.2.1 7 = .ok (.aload_n 0, 1) := by decide +kernel
theorem d_X2_directCreditorsOf_8 : decode F_X2_directCreditorsOf.2.1 8 = .ok (.iconst 2, 1) := by decide +kernel
theorem d_X2_directCreditorsOf_9 : decode F_X2_directCreditorsOf.2.1 9 = .ok (.iload_n 1, 1) := by decide +kernel
theorem d_X2_directCreditorsOf_10 : decode F_X2_directCreditorsOf.2.1 10 = .ok (.imul, 1) := by decide +kernel
theorem d_X2_directCreditorsOf_11 : decode F_X2_directCreditorsOf.2.1 11 = .ok (.iconst 1, 1) := by decide +kernel
theorem d_X2_directCreditorsOf_12 : decode F_X2_directCreditorsOf.2.1 12 = .ok (.iadd, 1) := by decide +kernel
theorem d_X2_directCreditorsOf_13 : decode F_X2_directCreditorsOf.2.1 13 = .ok (.invokevirtual 195, 3) := by decide +kernel
theorem d_X2_directCreditorsOf_16 : decode F_X2_directCreditorsOf.2.1 16 = .ok (.ior, 1) := by decide +kernel
theorem d_X2_directCreditorsOf_17 : decode F_X2_directCreditorsOf.2.1 17 = .ok (.ireturn, 1) := by decide +kernel
def f_X2_directCreditorsOf (μ : Mem) (a0 : Nat) (p1 : Int32) : Option Int32 :=
Option.bind (f_X2_creditorOf μ a0 (2 * p1)) fun t1 =>
Option.bind (f_X2_creditorOf μ a0 ((2 * p1) + 1)) fun t2 =>
some (t1 ||| t2)
theorem s_X2_directCreditorsOf_e {G : Gl} (hG : G.1.stackTraces = false) {C : Cx} {n : Nat} {μ : Mem} {a0 : Nat} {p1 : Int32} (ha0 : a0 ∈ landL) {r : Int32} (hf : f_X2_directCreditorsOf μ a0 p1 = some r) (hK : FinR G C F_X2_directCreditorsOf (some .int) (some (.int r)) μ) : V G C F_X2_directCreditorsOf 0 [some (.ref (G.2.1 + a0)), some (.int p1)] [] (pic G μ) n 0 0 := by
  unfold f_X2_directCreditorsOf at hf
  refine V_aload_n d_X2_directCreditorsOf_0 rfl rfl ?_
  refine V_iconst (v := 2) d_X2_directCreditorsOf_1 ic_2 ?_
  refine V_iload_n d_X2_directCreditorsOf_2 rfl rfl ?_
  refine V_imul d_X2_directCreditorsOf_3 ?_
  obtain ⟨t1, ht1, hf⟩ := ob hf
  refine B_callV1 (s_X2_creditorOf hG ha0 ht1) (kLand _ ha0) clX2 m_X2_creditorOf kv_RX2_195 d_X2_directCreditorsOf_4 rfl (Nat.le_of_ble_eq_true rfl) ⟨rfl, rfl, Nat.le_of_ble_eq_true rfl, Nat.le_of_ble_eq_true rfl, Nat.le_of_ble_eq_true rfl⟩ (fun n => ?_)
  refine V_aload_n d_X2_directCreditorsOf_7 rfl rfl ?_
  refine V_iconst (v := 2) d_X2_directCreditorsOf_8 ic_2 ?_
  refine V_iload_n d_X2_directCreditorsOf_9 rfl rfl ?_
  refine V_imul d_X2_directCreditorsOf_10 ?_
  refine V_iconst (v := 1) d_X2_directCreditorsOf_11 ic_1 ?_
  refine V_iadd d_X2_directCreditorsOf_12 ?_
  obtain ⟨t2, ht2, hf⟩ := ob hf
  refine B_callV1 (s_X2_creditorOf hG ha0 ht2) (kLand _ ha0) clX2 m_X2_creditorOf kv_RX2_195 d_X2_directCreditorsOf_13 rfl (Nat.le_of_ble_eq_true rfl) ⟨rfl, rfl, Nat.le_of_ble_eq_true rfl, Nat.le_of_ble_eq_true rfl, Nat.le_of_ble_eq_true rfl⟩ (fun n => ?_)
  refine V_ior d_X2_directCreditorsOf_16 ?_
  cases hf
  exact R_i hK d_X2_directCreditorsOf_17 (Nat.le_of_ble_eq_true rfl) (Nat.le_of_ble_eq_true rfl)
theorem s_X2_directCreditorsOf {G : Gl} (hG : G.1.stackTraces = false) {μ : Mem} {a0 : Nat} {p1 : Int32} (ha0 : a0 ∈ landL) {r : Int32} (hf : f_X2_directCreditorsOf μ a0 p1 = some r) : Rt G yX2_directCreditorsOf F_X2_directCreditorsOf (some .int) [.ref (G.2.1 + a0), .int p1] μ (some (.int r)) μ := fun n => Sd.of hG ⟨by decide +kernel, rfl, rfl⟩ rfl (Nat.le_of_ble_eq_true rfl) rfl (fun C hK => s_X2_directCreditorsOf_e hG ha0 hf hK)
theorem d_X2_creditorsOf_0 : decode F_X2_creditorsOf.2.1 0 = .ok (.aload_n 0, 1) := by decide +kernel
theorem d_X2_creditorsOf_1 : decode F_X2_creditorsOf.2.1 1 = .ok (.iload_n 1, 1) := by decide +kernel
theorem d_X2_creditorsOf_2 : decode F_X2_creditorsOf.2.1 2 = .ok (.invokevirtual 162, 3) := by decide +kernel
theorem d_X2_creditorsOf_5 : decode F_X2_creditorsOf.2.1 5 = .ok (.istore_n 2, 1) := by decide +kernel
theorem d_X2_creditorsOf_6 : decode F_X2_creditorsOf.2.1 6 = .ok (.iconst 0, 1) := by decide +kernel
theorem d_X2_creditorsOf_7 : decode F_X2_creditorsOf.2.1 7 = .ok (.istore_n 3, 1) := by decide +kernel
theorem d_X2_creditorsOf_8 : decode F_X2_creditorsOf.2.1 8 = .ok (.iload_n 3, 1) := by decide +kernel
theorem d_X2_creditorsOf_9 : decode F_X2_creditorsOf.2.1 9 = .ok (.aload_n 0, 1) := by decide +kernel
theorem d_X2_creditorsOf_10 : decode F_X2_creditorsOf.2.1 10 = .ok (.getfield 9, 3) := by decide +kernel
theorem d_X2_creditorsOf_13 : decode F_X2_creditorsOf.2.1 13 = .ok (.if_icmp .ge 45, 3) := by decide +kernel
theorem d_X2_creditorsOf_16 : decode F_X2_creditorsOf.2.1 16 = .ok (.iconst 0, 1) := by decide +kernel
theorem d_X2_creditorsOf_17 : decode F_X2_creditorsOf.2.1 17 = .ok (.istore 4, 2) := by decide +kernel
theorem d_X2_creditorsOf_19 : decode F_X2_creditorsOf.2.1 19 = .ok (.iload 4, 2) := by decide +kernel
theorem d_X2_creditorsOf_21 : decode F_X2_creditorsOf.2.1 21 = .ok (.aload_n 0, 1) := by decide +kernel
theorem d_X2_creditorsOf_22 : decode F_X2_creditorsOf.2.1 22 = .ok (.getfield 9, 3) := by decide +kernel
theorem d_X2_creditorsOf_25 : decode F_X2_creditorsOf.2.1 25 = .ok (.if_icmp .ge 27, 3) := by decide +kernel
theorem d_X2_creditorsOf_28 : decode F_X2_creditorsOf.2.1 28 = .ok (.iload_n 2, 1) := by decide +kernel
theorem d_X2_creditorsOf_29 : decode F_X2_creditorsOf.2.1 29 = .ok (.iload 4, 2) := by decide +kernel
theorem d_X2_creditorsOf_31 : decode F_X2_creditorsOf.2.1 31 = .ok (.invokestatic 155, 3) := by decide +kernel
theorem d_X2_creditorsOf_34 : decode F_X2_creditorsOf.2.1 34 = .ok (.ifCond .eq 12, 3) := by decide +kernel
theorem d_X2_creditorsOf_37 : decode F_X2_creditorsOf.2.1 37 = .ok (.iload_n 2, 1) := by decide +kernel
theorem d_X2_creditorsOf_38 : decode F_X2_creditorsOf.2.1 38 = .ok (.aload_n 0, 1) := by decide +kernel
theorem d_X2_creditorsOf_39 : decode F_X2_creditorsOf.2.1 39 = .ok (.iload 4, 2) := by decide +kernel
theorem d_X2_creditorsOf_41 : decode F_X2_creditorsOf.2.1 41 = .ok (.invokevirtual 162, 3) := by decide +kernel
theorem d_X2_creditorsOf_44 : decode F_X2_creditorsOf.2.1 44 = .ok (.ior, 1) := by decide +kernel
theorem d_X2_creditorsOf_45 : decode F_X2_creditorsOf.2.1 45 = .ok (.istore_n 2, 1) := by decide +kernel
theorem d_X2_creditorsOf_46 : decode F_X2_creditorsOf.2.1 46 = .ok (.iinc 4 1, 3) := by decide +kernel
theorem d_X2_creditorsOf_49 : decode F_X2_creditorsOf.2.1 49 = .ok (.goto (-30), 3) := by decide +kernel
theorem d_X2_creditorsOf_52 : decode F_X2_creditorsOf.2.1 52 = .ok (.iinc 3 1, 3) := by decide +kernel
theorem d_X2_creditorsOf_55 : decode F_X2_creditorsOf.2.1 55 = .ok (.goto (-47), 3) := by decide +kernel
theorem d_X2_creditorsOf_58 : decode F_X2_creditorsOf.2.1 58 = .ok (.iload_n 2, 1) := by decide +kernel
theorem d_X2_creditorsOf_59 : decode F_X2_creditorsOf.2.1 59 = .ok (.ireturn, 1) := by decide +kernel
def f_X2_creditorsOf_j46_19 (μ : Mem) (a0 : Nat) (l2 : Int32) (l3 : Int32) (l4 : Int32) : Option ((Int32 × Int32) ⊕ Int32) :=
some (.inl (l2, (l4 + 1)))
def f_X2_creditorsOf_b19 (μ : Mem) (a0 : Nat) (l2 : Int32) (l3 : Int32) (l4 : Int32) : Option ((Int32 × Int32) ⊕ Int32) :=
if (μ a0 0) ≤ l4 then
some (.inr l2)
else
Option.bind (f_X11_hasBit μ l2 l4) fun t1 =>
if t1 = true then
Option.bind (f_X2_directCreditorsOf μ a0 l4) fun t2 =>
f_X2_creditorsOf_j46_19 μ a0 (l2 ||| t2) l3 l4
else
f_X2_creditorsOf_j46_19 μ a0 l2 l3 l4
def f_X2_creditorsOf_j52_8 (μ : Mem) (a0 : Nat) (l2 : Int32) (l3 : Int32) : Option ((Int32 × Int32) ⊕ Int32) :=
some (.inl (l2, (l3 + 1)))
def f_X2_creditorsOf_l19 (μ : Mem) (a0 : Nat) (l2 : Int32) (l3 : Int32) (l4 : Int32) : Option ((Int32 × Int32) ⊕ Int32) := Option.bind (loopN 10000 (fun z : (Int32 × Int32) => f_X2_creditorsOf_b19 μ a0 z.1 l3 z.2) (l2, l4)) fun t : Int32 => f_X2_creditorsOf_j52_8 μ a0 t l3
def f_X2_creditorsOf_b8 (μ : Mem) (a0 : Nat) (l2 : Int32) (l3 : Int32) : Option ((Int32 × Int32) ⊕ Int32) :=
if (μ a0 0) ≤ l3 then
some (.inr l2)
else
f_X2_creditorsOf_l19 μ a0 l2 l3 0
def f_X2_creditorsOf_j58 (μ : Mem) (a0 : Nat) (l2 : Int32) : Option Int32 :=
some l2
def f_X2_creditorsOf_l8 (μ : Mem) (a0 : Nat) (l2 : Int32) (l3 : Int32) : Option Int32 := Option.bind (loopN 10000 (fun z : (Int32 × Int32) => f_X2_creditorsOf_b8 μ a0 z.1 z.2) (l2, l3)) fun t : Int32 => f_X2_creditorsOf_j58 μ a0 t
def f_X2_creditorsOf (μ : Mem) (a0 : Nat) (p1 : Int32) : Option Int32 :=
Option.bind (f_X2_directCreditorsOf μ a0 p1) fun t1 =>
f_X2_creditorsOf_l8 μ a0 t1 0
theorem s_X2_creditorsOf_j46_19 {G : Gl} (hG : G.1.stackTraces = false) {C : Cx} {n : Nat} {μ : Mem} {a0 : Nat} {l2 : Int32} {l3 : Int32} {l4 : Int32} (ha0 : a0 ∈ landL) {y : ((Int32 × Int32) ⊕ Int32)} (hf : f_X2_creditorsOf_j46_19 μ a0 l2 l3 l4 = some y) (hK : (∀ z', y = .inl z' → ∀ n, V G C F_X2_creditorsOf 19 [some (.ref (G.2.1 + a0)), none, some (.int z'.1), some (.int l3), some (.int z'.2)] [] (pic G μ) n 0 0) ∧ (∀ x', y = .inr x' → ∀ n, V G C F_X2_creditorsOf 52 [some (.ref (G.2.1 + a0)), none, some (.int x'), some (.int l3), none] [] (pic G μ) n 0 0)) : V G C F_X2_creditorsOf 46 [some (.ref (G.2.1 + a0)), none, some (.int l2), some (.int l3), some (.int l4)] [] (pic G μ) n 0 0 := by
  unfold f_X2_creditorsOf_j46_19 at hf
  refine V_iinc (v := (l4 + 1)) (ls' := [_, _, _, _, _]) d_X2_creditorsOf_46 rfl (by rw [ic_1]) rfl ?_
  refine V_goto (tgt := 19) d_X2_creditorsOf_49 (by decide) ?_
  refine V_less (ls' := [some _, none, some _, some _, some _]) ⟨rfl, rfl, rfl, rfl, trivial⟩ ?_
  cases hf
  exact hK.1 _ rfl _
theorem s_X2_creditorsOf_b19 {G : Gl} (hG : G.1.stackTraces = false) {C : Cx} {n : Nat} {μ : Mem} {a0 : Nat} {l2 : Int32} {l3 : Int32} {l4 : Int32} (ha0 : a0 ∈ landL) {y : ((Int32 × Int32) ⊕ Int32)} (hf : f_X2_creditorsOf_b19 μ a0 l2 l3 l4 = some y) (hK : (∀ z', y = .inl z' → ∀ n, V G C F_X2_creditorsOf 19 [some (.ref (G.2.1 + a0)), none, some (.int z'.1), some (.int l3), some (.int z'.2)] [] (pic G μ) n 0 0) ∧ (∀ x', y = .inr x' → ∀ n, V G C F_X2_creditorsOf 52 [some (.ref (G.2.1 + a0)), none, some (.int x'), some (.int l3), none] [] (pic G μ) n 0 0)) : V G C F_X2_creditorsOf 19 [some (.ref (G.2.1 + a0)), none, some (.int l2), some (.int l3), some (.int l4)] [] (pic G μ) n 0 0 := by
  unfold f_X2_creditorsOf_b19 at hf
  refine V_iload d_X2_creditorsOf_19 rfl ?_
  refine V_aload_n d_X2_creditorsOf_21 rfl rfl ?_
  refine B_get (kLand _ ha0) fl_RX2_9 d_X2_creditorsOf_22 g_2_0 ?_
  refine V_icmp_ge (tgt := 52) d_X2_creditorsOf_25 (by decide) (fun c25 => ?_) (fun c25 => ?_)
  · replace hf := iteT c25 hf
    refine V_less (ls' := [some _, none, some _, some _, none]) ⟨rfl, rfl, rfl, trivial⟩ ?_
    cases hf
    exact hK.2 _ rfl _
  · replace hf := iteF c25 hf
    refine V_iload_n d_X2_creditorsOf_28 rfl rfl ?_
    refine V_iload d_X2_creditorsOf_29 rfl ?_
    obtain ⟨t1, ht1, hf⟩ := ob hf
    refine B_callSN1 (s_X11_hasBit hG ht1) m_X11_hasBit ks_RX2_155 d_X2_creditorsOf_31 rfl (Nat.le_of_ble_eq_true rfl) ⟨rfl, rfl, Nat.le_of_ble_eq_true rfl, Nat.le_of_ble_eq_true rfl, Nat.le_of_ble_eq_true rfl⟩ (fun n => ?_)
    refine V_if_eq (tgt := 46) d_X2_creditorsOf_34 (by decide) (fun c34 => ?_) (fun c34 => ?_)
    · replace hf := iteF (b2i_nt (b2i_eq0 c34)) hf
      refine V_less (ls' := [some _, none, some _, some _, some _]) ⟨rfl, rfl, rfl, rfl, trivial⟩ ?_
      exact s_X2_creditorsOf_j46_19 hG ha0 hf hK
    · replace hf := iteT (b2i_ne0 c34) hf
      refine V_iload_n d_X2_creditorsOf_37 rfl rfl ?_
      refine V_aload_n d_X2_creditorsOf_38 rfl rfl ?_
      refine V_iload d_X2_creditorsOf_39 rfl ?_
      obtain ⟨t2, ht2, hf⟩ := ob hf
      refine B_callV1 (s_X2_directCreditorsOf hG ha0 ht2) (kLand _ ha0) clX2 m_X2_directCreditorsOf kv_RX2_162 d_X2_creditorsOf_41 rfl (Nat.le_of_ble_eq_true rfl) ⟨rfl, rfl, Nat.le_of_ble_eq_true rfl, Nat.le_of_ble_eq_true rfl, Nat.le_of_ble_eq_true rfl⟩ (fun n => ?_)
      refine V_ior d_X2_creditorsOf_44 ?_
      refine V_istore_n (ls' := [_, _, _, _, _]) d_X2_creditorsOf_45 rfl rfl rfl ?_
      refine V_less (ls' := [some _, none, some _, some _, some _]) ⟨rfl, rfl, rfl, rfl, trivial⟩ ?_
      exact s_X2_creditorsOf_j46_19 hG ha0 hf hK
theorem s_X2_creditorsOf_j52_8 {G : Gl} (hG : G.1.stackTraces = false) {C : Cx} {n : Nat} {μ : Mem} {a0 : Nat} {l2 : Int32} {l3 : Int32} (ha0 : a0 ∈ landL) {y : ((Int32 × Int32) ⊕ Int32)} (hf : f_X2_creditorsOf_j52_8 μ a0 l2 l3 = some y) (hK : (∀ z', y = .inl z' → ∀ n, V G C F_X2_creditorsOf 8 [some (.ref (G.2.1 + a0)), none, some (.int z'.1), some (.int z'.2), none] [] (pic G μ) n 0 0) ∧ (∀ x', y = .inr x' → ∀ n, V G C F_X2_creditorsOf 58 [none, none, some (.int x'), none, none] [] (pic G μ) n 0 0)) : V G C F_X2_creditorsOf 52 [some (.ref (G.2.1 + a0)), none, some (.int l2), some (.int l3), none] [] (pic G μ) n 0 0 := by
  unfold f_X2_creditorsOf_j52_8 at hf
  refine V_iinc (v := (l3 + 1)) (ls' := [_, _, _, _, _]) d_X2_creditorsOf_52 rfl (by rw [ic_1]) rfl ?_
  refine V_goto (tgt := 8) d_X2_creditorsOf_55 (by decide) ?_
  refine V_less (ls' := [some _, none, some _, some _, none]) ⟨rfl, rfl, rfl, trivial⟩ ?_
  cases hf
  exact hK.1 _ rfl _
theorem s_X2_creditorsOf_l19 {G : Gl} (hG : G.1.stackTraces = false) {C : Cx} {n : Nat} {μ : Mem} {a0 : Nat} {l2 : Int32} {l3 : Int32} {l4 : Int32} (ha0 : a0 ∈ landL) {y : ((Int32 × Int32) ⊕ Int32)} (hf : f_X2_creditorsOf_l19 μ a0 l2 l3 l4 = some y) (hK : (∀ z', y = .inl z' → ∀ n, V G C F_X2_creditorsOf 8 [some (.ref (G.2.1 + a0)), none, some (.int z'.1), some (.int z'.2), none] [] (pic G μ) n 0 0) ∧ (∀ x', y = .inr x' → ∀ n, V G C F_X2_creditorsOf 58 [none, none, some (.int x'), none, none] [] (pic G μ) n 0 0)) : V G C F_X2_creditorsOf 19 [some (.ref (G.2.1 + a0)), none, some (.int l2), some (.int l3), some (.int l4)] [] (pic G μ) n 0 0 := by
  unfold f_X2_creditorsOf_l19 at hf
  obtain ⟨t, hl, hf⟩ := ob hf
  refine loopV (P := fun z => ∀ n, V G C F_X2_creditorsOf 19 [some (.ref (G.2.1 + a0)), none, some (.int z.1), some (.int l3), some (.int z.2)] [] (pic G μ) n 0 0) (t := t) ?_ _ _ hl n
  intro z y' hy hI hT n
  refine s_X2_creditorsOf_b19 hG ha0 hy ⟨hI, fun x9 ex => ?_⟩
  have ex2 := hT x9 ex
  subst ex2
  intro n
  exact s_X2_creditorsOf_j52_8 hG ha0 hf hK
theorem s_X2_creditorsOf_b8 {G : Gl} (hG : G.1.stackTraces = false) {C : Cx} {n : Nat} {μ : Mem} {a0 : Nat} {l2 : Int32} {l3 : Int32} (ha0 : a0 ∈ landL) {y : ((Int32 × Int32) ⊕ Int32)} (hf : f_X2_creditorsOf_b8 μ a0 l2 l3 = some y) (hK : (∀ z', y = .inl z' → ∀ n, V G C F_X2_creditorsOf 8 [some (.ref (G.2.1 + a0)), none, some (.int z'.1), some (.int z'.2), none] [] (pic G μ) n 0 0) ∧ (∀ x', y = .inr x' → ∀ n, V G C F_X2_creditorsOf 58 [none, none, some (.int x'), none, none] [] (pic G μ) n 0 0)) : V G C F_X2_creditorsOf 8 [some (.ref (G.2.1 + a0)), none, some (.int l2), some (.int l3), none] [] (pic G μ) n 0 0 := by
  unfold f_X2_creditorsOf_b8 at hf
  refine V_iload_n d_X2_creditorsOf_8 rfl rfl ?_
  refine V_aload_n d_X2_creditorsOf_9 rfl rfl ?_
  refine B_get (kLand _ ha0) fl_RX2_9 d_X2_creditorsOf_10 g_2_0 ?_
  refine V_icmp_ge (tgt := 58) d_X2_creditorsOf_13 (by decide) (fun c13 => ?_) (fun c13 => ?_)
  · replace hf := iteT c13 hf
    refine V_less (ls' := [none, none, some _, none, none]) ⟨rfl, trivial⟩ ?_
    cases hf
    exact hK.2 _ rfl _
  · replace hf := iteF c13 hf
    refine V_iconst (v := 0) d_X2_creditorsOf_16 ic_0 ?_
    refine V_istore (ls' := [_, _, _, _, _]) d_X2_creditorsOf_17 rfl rfl ?_
    refine V_less (ls' := [some _, none, some _, some _, some _]) ⟨rfl, rfl, rfl, rfl, trivial⟩ ?_
    exact s_X2_creditorsOf_l19 hG ha0 hf hK
theorem s_X2_creditorsOf_j58 {G : Gl} (hG : G.1.stackTraces = false) {C : Cx} {n : Nat} {μ : Mem} {a0 : Nat} {l2 : Int32} (ha0 : a0 ∈ landL) {r : Int32} (hf : f_X2_creditorsOf_j58 μ a0 l2 = some r) (hK : FinR G C F_X2_creditorsOf (some .int) (some (.int r)) μ) : V G C F_X2_creditorsOf 58 [none, none, some (.int l2), none, none] [] (pic G μ) n 0 0 := by
  unfold f_X2_creditorsOf_j58 at hf
  refine V_iload_n d_X2_creditorsOf_58 rfl rfl ?_
  cases hf
  exact R_i hK d_X2_creditorsOf_59 (Nat.le_of_ble_eq_true rfl) (Nat.le_of_ble_eq_true rfl)
theorem s_X2_creditorsOf_l8 {G : Gl} (hG : G.1.stackTraces = false) {C : Cx} {n : Nat} {μ : Mem} {a0 : Nat} {l2 : Int32} {l3 : Int32} (ha0 : a0 ∈ landL) {r : Int32} (hf : f_X2_creditorsOf_l8 μ a0 l2 l3 = some r) (hK : FinR G C F_X2_creditorsOf (some .int) (some (.int r)) μ) : V G C F_X2_creditorsOf 8 [some (.ref (G.2.1 + a0)), none, some (.int l2), some (.int l3), none] [] (pic G μ) n 0 0 := by
  unfold f_X2_creditorsOf_l8 at hf
  obtain ⟨t, hl, hf⟩ := ob hf
  refine loopV (P := fun z => ∀ n, V G C F_X2_creditorsOf 8 [some (.ref (G.2.1 + a0)), none, some (.int z.1), some (.int z.2), none] [] (pic G μ) n 0 0) (t := t) ?_ _ _ hl n
  intro z y' hy hI hT n
  refine s_X2_creditorsOf_b8 hG ha0 hy ⟨hI, fun x9 ex => ?_⟩
  have ex2 := hT x9 ex
  subst ex2
  intro n
  exact s_X2_creditorsOf_j58 hG ha0 hf hK
theorem s_X2_creditorsOf_e {G : Gl} (hG : G.1.stackTraces = false) {C : Cx} {n : Nat} {μ : Mem} {a0 : Nat} {p1 : Int32} (ha0 : a0 ∈ landL) {r : Int32} (hf : f_X2_creditorsOf μ a0 p1 = some r) (hK : FinR G C F_X2_creditorsOf (some .int) (some (.int r)) μ) : V G C F_X2_creditorsOf 0 [some (.ref (G.2.1 + a0)), some (.int p1), none, none, none] [] (pic G μ) n 0 0 := by
  unfold f_X2_creditorsOf at hf
  refine V_aload_n d_X2_creditorsOf_0 rfl rfl ?_
  refine V_iload_n d_X2_creditorsOf_1 rfl rfl ?_
  obtain ⟨t1, ht1, hf⟩ := ob hf
  refine B_callV1 (s_X2_directCreditorsOf hG ha0 ht1) (kLand _ ha0) clX2 m_X2_directCreditorsOf kv_RX2_162 d_X2_creditorsOf_2 rfl (Nat.le_of_ble_eq_true rfl) ⟨rfl, rfl, Nat.le_of_ble_eq_true rfl, Nat.le_of_ble_eq_true rfl, Nat.le_of_ble_eq_true rfl⟩ (fun n => ?_)
  refine V_istore_n (ls' := [_, _, _, _, _]) d_X2_creditorsOf_5 rfl rfl rfl ?_
  refine V_iconst (v := 0) d_X2_creditorsOf_6 ic_0 ?_
  refine V_istore_n (ls' := [_, _, _, _, _]) d_X2_creditorsOf_7 rfl rfl rfl ?_
  refine V_less (ls' := [some _, none, some _, some _, none]) ⟨rfl, rfl, rfl, trivial⟩ ?_
  exact s_X2_creditorsOf_l8 hG ha0 hf hK
theorem s_X2_creditorsOf {G : Gl} (hG : G.1.stackTraces = false) {μ : Mem} {a0 : Nat} {p1 : Int32} (ha0 : a0 ∈ landL) {r : Int32} (hf : f_X2_creditorsOf μ a0 p1 = some r) : Rt G yX2_creditorsOf F_X2_creditorsOf (some .int) [.ref (G.2.1 + a0), .int p1] μ (some (.int r)) μ := fun n => Sd.of hG ⟨by decide +kernel, rfl, rfl⟩ rfl (Nat.le_of_ble_eq_true rfl) rfl (fun C hK => s_X2_creditorsOf_e hG ha0 hf hK)
theorem d_X2_laceFor_0 : decode F_X2_laceFor.2.1 0 = .ok (.aload_n 0, 1) := by decide +kernel
theorem d_X2_laceFor_1 : decode F_X2_laceFor.2.1 1 = .ok (.iload_n 1, 1) := by decide +kernel
theorem d_X2_laceFor_2 : decode F_X2_laceFor.2.1 2 = .ok (.invokevirtual 106, 3) := by decide +kernel
theorem d_X2_laceFor_5 : decode F_X2_laceFor.2.1 5 = .ok (.ifCond .eq 19, 3) := by decide +kernel
theorem d_X2_laceFor_8 : decode F_X2_laceFor.2.1 8 = .ok (.aload_n 0, 1) := by decide +kernel
theorem d_X2_laceFor_9 : decode F_X2_laceFor.2.1 9 = .ok (.getfield 49, 3) := by decide +kernel
theorem d_X2_laceFor_12 : decode F_X2_laceFor.2.1 12 = .ok (.iload_n 1, 1) := by decide +kernel
theorem d_X2_laceFor_13 : decode F_X2_laceFor.2.1 13 = .ok (.iaload, 1) := by decide +kernel
theorem d_X2_laceFor_14 : decode F_X2_laceFor.2.1 14 = .ok (.iload_n 2, 1) := by decide +kernel
theorem d_X2_laceFor_15 : decode F_X2_laceFor.2.1 15 = .ok (.if_icmp .ne 9, 3) := by decide +kernel
theorem d_X2_laceFor_18 : decode F_X2_laceFor.2.1 18 = .ok (.iconst 1, 1) := by decide +kernel
theorem d_X2_laceFor_19 : decode F_X2_laceFor.2.1 19 = .ok (.iload_n 1, 1) := by decide +kernel
theorem d_X2_laceFor_20 : decode F_X2_laceFor.2.1 20 = .ok (.ishl, 1) := by decide +kernel
theorem d_X2_laceFor_21 : decode F_X2_laceFor.2.1 21 = .ok (.goto 4, 3) := by decide +kernel
theorem d_X2_laceFor_24 : decode F_X2_laceFor.2.1 24 = .ok (.iconst 0, 1) := by decide +kernel
theorem d_X2_laceFor_25 : decode F_X2_laceFor.2.1 25 = .ok (.ireturn, 1) := by decide +kernel
def f_X2_laceFor_j25 (μ : Mem) (a0 : Nat) (k0 : Int32) : Option Int32 :=
some k0
def f_X2_laceFor_j24 (μ : Mem) (a0 : Nat) : Option Int32 :=
f_X2_laceFor_j25 μ a0 0
def f_X2_laceFor (μ : Mem) (a0 : Nat) (p1 : Int32) (p2 : Int32) : Option Int32 :=
Option.bind (f_X2_isPledged μ a0 p1) fun t1 =>
if t1 = true then
Option.bind (rd μ (a0 + 7) 12 p1) fun t2 =>
some (if t2 = p2 then (1 <<< (p1 &&& 31)) else 0)
else
f_X2_laceFor_j24 μ a0
theorem s_X2_laceFor_j25 {G : Gl} (hG : G.1.stackTraces = false) {C : Cx} {n : Nat} {μ : Mem} {a0 : Nat} {k0 : Int32} (ha0 : a0 ∈ landL) {r : Int32} (hf : f_X2_laceFor_j25 μ a0 k0 = some r) (hK : FinR G C F_X2_laceFor (some .int) (some (.int r)) μ) : V G C F_X2_laceFor 25 [none, none, none] [.int k0] (pic G μ) n 0 0 := by
  unfold f_X2_laceFor_j25 at hf
  cases hf
  exact R_i hK d_X2_laceFor_25 (Nat.le_of_ble_eq_true rfl) (Nat.le_of_ble_eq_true rfl)
theorem s_X2_laceFor_j24 {G : Gl} (hG : G.1.stackTraces = false) {C : Cx} {n : Nat} {μ : Mem} {a0 : Nat} (ha0 : a0 ∈ landL) {r : Int32} (hf : f_X2_laceFor_j24 μ a0 = some r) (hK : FinR G C F_X2_laceFor (some .int) (some (.int r)) μ) : V G C F_X2_laceFor 24 [none, none, none] [] (pic G μ) n 0 0 := by
  unfold f_X2_laceFor_j24 at hf
  refine V_iconst (v := 0) d_X2_laceFor_24 ic_0 ?_
  refine V_less (ls' := [none, none, none]) trivial ?_
  exact s_X2_laceFor_j25 hG ha0 hf hK
theorem s_X2_laceFor_e {G : Gl} (hG : G.1.stackTraces = false) {C : Cx} {n : Nat} {μ : Mem} {a0 : Nat} {p1 : Int32} {p2 : Int32} (ha0 : a0 ∈ landL) {r : Int32} (hf : f_X2_laceFor μ a0 p1 p2 = some r) (hK : FinR G C F_X2_laceFor (some .int) (some (.int r)) μ) : V G C F_X2_laceFor 0 [some (.ref (G.2.1 + a0)), some (.int p1), some (.int p2)] [] (pic G μ) n 0 0 := by
  unfold f_X2_laceFor at hf
  refine V_aload_n d_X2_laceFor_0 rfl rfl ?_
  refine V_iload_n d_X2_laceFor_1 rfl rfl ?_
  obtain ⟨t1, ht1, hf⟩ := ob hf
  refine B_callV1 (s_X2_isPledged hG ha0 ht1) (kLand _ ha0) clX2 m_X2_isPledged kv_RX2_106 d_X2_laceFor_2 rfl (Nat.le_of_ble_eq_true rfl) ⟨rfl, rfl, Nat.le_of_ble_eq_true rfl, Nat.le_of_ble_eq_true rfl, Nat.le_of_ble_eq_true rfl⟩ (fun n => ?_)
  refine V_if_eq (tgt := 24) d_X2_laceFor_5 (by decide) (fun c5 => ?_) (fun c5 => ?_)
  · replace hf := iteF (b2i_nt (b2i_eq0 c5)) hf
    refine V_less (ls' := [none, none, none]) trivial ?_
    exact s_X2_laceFor_j24 hG ha0 hf hK
  · replace hf := iteT (b2i_ne0 c5) hf
    refine V_aload_n d_X2_laceFor_8 rfl rfl ?_
    refine B_get (kLand _ ha0) fl_RX2_49 d_X2_laceFor_9 g_2_12 ?_
    refine V_iload_n d_X2_laceFor_12 rfl rfl ?_
    obtain ⟨t2, ht2, hf⟩ := ob hf
    refine B_iald (kLand_7 _ ha0) ht2 d_X2_laceFor_13 ?_
    refine V_iload_n d_X2_laceFor_14 rfl rfl ?_
    have hJj3 : ∀ j3 : Int32, j3 = (if t2 = p2 then (1 <<< (p1 &&& 31)) else 0) → V G C F_X2_laceFor 25 [none, none, none] [.int j3] (pic G μ) n 0 0 := by
      intro j3 ej3
      subst ej3
      cases hf
      exact R_i hK d_X2_laceFor_25 (Nat.le_of_ble_eq_true rfl) (Nat.le_of_ble_eq_true rfl)
    refine V_icmp_ne (tgt := 24) d_X2_laceFor_15 (by decide) (fun c15 => ?_) (fun c15 => ?_)
    · refine V_iconst (v := 0) d_X2_laceFor_24 ic_0 ?_
      refine V_less (ls' := [none, none, none]) trivial ?_
      exact hJj3 0 (by rw [if_neg c15])
    · refine V_iconst (v := 1) d_X2_laceFor_18 ic_1 ?_
      refine V_iload_n d_X2_laceFor_19 rfl rfl ?_
      refine V_ishl d_X2_laceFor_20 ?_
      refine V_goto (tgt := 25) d_X2_laceFor_21 (by decide) ?_
      refine V_less (ls' := [none, none, none]) trivial ?_
      exact hJj3 (1 <<< (p1 &&& 31)) (by rw [if_pos c15])
theorem s_X2_laceFor {G : Gl} (hG : G.1.stackTraces = false) {μ : Mem} {a0 : Nat} {p1 : Int32} {p2 : Int32} (ha0 : a0 ∈ landL) {r : Int32} (hf : f_X2_laceFor μ a0 p1 p2 = some r) : Rt G yX2_laceFor F_X2_laceFor (some .int) [.ref (G.2.1 + a0), .int p1, .int p2] μ (some (.int r)) μ := fun n => Sd.of hG ⟨by decide +kernel, rfl, rfl⟩ rfl (Nat.le_of_ble_eq_true rfl) rfl (fun C hK => s_X2_laceFor_e hG ha0 hf hK)
theorem d_X2_betterCall_0 : decode F_X2_betterCall.2.1 0 = .ok (.aload_n 0, 1) := by decide +kernel
theorem d_X2_betterCall_1 : decode F_X2_betterCall.2.1 1 = .ok (.iload_n 2, 1) := by decide +kernel
theorem d_X2_betterCall_2 : decode F_X2_betterCall.2.1 2 = .ok (.invokevirtual 149, 3) := by decide +kernel
theorem d_X2_betterCall_5 : decode F_X2_betterCall.2.1 5 = .ok (.istore 4, 2) := by decide +kernel
theorem d_X2_betterCall_7 : decode F_X2_betterCall.2.1 7 = .ok (.iload 4, 2) := by decide +kernel
theorem d_X2_betterCall_9 : decode F_X2_betterCall.2.1 9 = .ok (.iload_n 3, 1) := by decide +kernel
theorem d_X2_betterCall_10 : decode F_X2_betterCall.2.1 10 = .ok (.if_icmp .gt 17, 3) := by decide +kernel
theorem d_X2_betterCall_13 : decode F_X2_betterCall.2.1 13 = .ok (.iload 4, 2) := by decide +kernel
theorem d_X2_betterCall_15 : decode F_X2_betterCall.2.1 15 = .ok (.aload_n 0, 1) := by decide +kernel
theorem d_X2_betterCall_16 : decode F_X2_betterCall.2.1 16 = .ok (.iload_n 1, 1) := by decide +kernel
theorem d_X2_betterCall_17 : decode F_X2_betterCall.2.1 17 = .ok (.invokevirtual 149, 3) := by decide +kernel
theorem d_X2_betterCall_20 : decode F_X2_betterCall.2.1 20 = .ok (.if_icmp .le 7, 3) := by decide +kernel
theorem d_X2_betterCall_23 : decode F_X2_betterCall.2.1 23 = .ok (.iload_n 2, 1) := by decide +kernel
theorem d_X2_betterCall_24 : decode F_X2_betterCall.2.1 24 = .ok (.goto 4, 3) := by decide +kernel
theorem d_X2_betterCall_27 : decode F_X2_betterCall.2.1 27 = .ok (.iload_n 1, 1) := by decide +kernel
theorem d_X2_betterCall_28 : decode F_X2_betterCall.2.1 28 = .ok (.ireturn, 1) := by decide +kernel
def f_X2_betterCall_j28 (μ : Mem) (a0 : Nat) (k0 : Int32) : Option Int32 :=
some k0
def f_X2_betterCall_j27 (μ : Mem) (a0 : Nat) (l1 : Int32) : Option Int32 :=
f_X2_betterCall_j28 μ a0 l1
def f_X2_betterCall (μ : Mem) (a0 : Nat) (p1 : Int32) (p2 : Int32) (p3 : Int32) : Option Int32 :=
Option.bind (f_X2_amountOf μ a0 p2) fun t1 =>
if p3 < t1 then
f_X2_betterCall_j27 μ a0 p1
else
Option.bind (f_X2_amountOf μ a0 p1) fun t2 =>
some (if t1 ≤ t2 then p1 else p2)
theorem s_X2_betterCall_j28 {G : Gl} (hG : G.1.stackTraces = false) {C : Cx} {n : Nat} {μ : Mem} {a0 : Nat} {k0 : Int32} (ha0 : a0 ∈ landL) {r : Int32} (hf : f_X2_betterCall_j28 μ a0 k0 = some r) (hK : FinR G C F_X2_betterCall (some .int) (some (.int r)) μ) : V G C F_X2_betterCall 28 [none, none, none, none, none] [.int k0] (pic G μ) n 0 0 := by
  unfold f_X2_betterCall_j28 at hf
  cases hf
  exact R_i hK d_X2_betterCall_28 (Nat.le_of_ble_eq_true rfl) (Nat.le_of_ble_eq_true rfl)
theorem s_X2_betterCall_j27 {G : Gl} (hG : G.1.stackTraces = false) {C : Cx} {n : Nat} {μ : Mem} {a0 : Nat} {l1 : Int32} (ha0 : a0 ∈ landL) {r : Int32} (hf : f_X2_betterCall_j27 μ a0 l1 = some r) (hK : FinR G C F_X2_betterCall (some .int) (some (.int r)) μ) : V G C F_X2_betterCall 27 [none, some (.int l1), none, none, none] [] (pic G μ) n 0 0 := by
  unfold f_X2_betterCall_j27 at hf
  refine V_iload_n d_X2_betterCall_27 rfl rfl ?_
  refine V_less (ls' := [none, none, none, none, none]) trivial ?_
  exact s_X2_betterCall_j28 hG ha0 hf hK
theorem s_X2_betterCall_e {G : Gl} (hG : G.1.stackTraces = false) {C : Cx} {n : Nat} {μ : Mem} {a0 : Nat} {p1 : Int32} {p2 : Int32} {p3 : Int32} (ha0 : a0 ∈ landL) {r : Int32} (hf : f_X2_betterCall μ a0 p1 p2 p3 = some r) (hK : FinR G C F_X2_betterCall (some .int) (some (.int r)) μ) : V G C F_X2_betterCall 0 [some (.ref (G.2.1 + a0)), some (.int p1), some (.int p2), some (.int p3), none] [] (pic G μ) n 0 0 := by
  unfold f_X2_betterCall at hf
  refine V_aload_n d_X2_betterCall_0 rfl rfl ?_
  refine V_iload_n d_X2_betterCall_1 rfl rfl ?_
  obtain ⟨t1, ht1, hf⟩ := ob hf
  refine B_callV1 (s_X2_amountOf hG ha0 ht1) (kLand _ ha0) clX2 m_X2_amountOf kv_RX2_149 d_X2_betterCall_2 rfl (Nat.le_of_ble_eq_true rfl) ⟨rfl, rfl, Nat.le_of_ble_eq_true rfl, Nat.le_of_ble_eq_true rfl, Nat.le_of_ble_eq_true rfl⟩ (fun n => ?_)
  refine V_istore (ls' := [_, _, _, _, _]) d_X2_betterCall_5 rfl rfl ?_
  refine V_iload d_X2_betterCall_7 rfl ?_
  refine V_iload_n d_X2_betterCall_9 rfl rfl ?_
  refine V_icmp_gt (tgt := 27) d_X2_betterCall_10 (by decide) (fun c10 => ?_) (fun c10 => ?_)
  · replace hf := iteT c10 hf
    refine V_less (ls' := [none, some _, none, none, none]) ⟨rfl, trivial⟩ ?_
    exact s_X2_betterCall_j27 hG ha0 hf hK
  · replace hf := iteF c10 hf
    refine V_iload d_X2_betterCall_13 rfl ?_
    refine V_aload_n d_X2_betterCall_15 rfl rfl ?_
    refine V_iload_n d_X2_betterCall_16 rfl rfl ?_
    obtain ⟨t2, ht2, hf⟩ := ob hf
    refine B_callV1 (s_X2_amountOf hG ha0 ht2) (kLand _ ha0) clX2 m_X2_amountOf kv_RX2_149 d_X2_betterCall_17 rfl (Nat.le_of_ble_eq_true rfl) ⟨rfl, rfl, Nat.le_of_ble_eq_true rfl, Nat.le_of_ble_eq_true rfl, Nat.le_of_ble_eq_true rfl⟩ (fun n => ?_)
    have hJj3 : ∀ j3 : Int32, j3 = (if t1 ≤ t2 then p1 else p2) → V G C F_X2_betterCall 28 [none, none, none, none, none] [.int j3] (pic G μ) n 0 0 := by
      intro j3 ej3
      subst ej3
      cases hf
      exact R_i hK d_X2_betterCall_28 (Nat.le_of_ble_eq_true rfl) (Nat.le_of_ble_eq_true rfl)
    refine V_icmp_le (tgt := 27) d_X2_betterCall_20 (by decide) (fun c20 => ?_) (fun c20 => ?_)
    · refine V_iload_n d_X2_betterCall_27 rfl rfl ?_
      refine V_less (ls' := [none, none, none, none, none]) trivial ?_
      exact hJj3 p1 (by rw [if_pos c20])
    · refine V_iload_n d_X2_betterCall_23 rfl rfl ?_
      refine V_goto (tgt := 28) d_X2_betterCall_24 (by decide) ?_
      refine V_less (ls' := [none, none, none, none, none]) trivial ?_
      exact hJj3 p2 (by rw [if_neg c20])
theorem s_X2_betterCall {G : Gl} (hG : G.1.stackTraces = false) {μ : Mem} {a0 : Nat} {p1 : Int32} {p2 : Int32} {p3 : Int32} (ha0 : a0 ∈ landL) {r : Int32} (hf : f_X2_betterCall μ a0 p1 p2 p3 = some r) : Rt G yX2_betterCall F_X2_betterCall (some .int) [.ref (G.2.1 + a0), .int p1, .int p2, .int p3] μ (some (.int r)) μ := fun n => Sd.of hG ⟨by decide +kernel, rfl, rfl⟩ rfl (Nat.le_of_ble_eq_true rfl) rfl (fun C hK => s_X2_betterCall_e hG ha0 hf hK)
theorem d_X2_callable_0 : decode F_X2_callable.2.1 0 = .ok (.aload_n 0, 1) := by decide +kernel
theorem d_X2_callable_1 : decode F_X2_callable.2.1 1 = .ok (.iconst 2, 1) := by decide +kernel
theorem d_X2_callable_2 : decode F_X2_callable.2.1 2 = .ok (.iload_n 2, 1) := by decide +kernel
theorem d_X2_callable_3 : decode F_X2_callable.2.1 3 = .ok (.imul, 1) := by decide +kernel
theorem d_X2_callable_4 : decode F_X2_callable.2.1 4 = .ok (.iload_n 1, 1) := by decide +kernel
theorem d_X2_callable_5 : decode F_X2_callable.2.1 5 = .ok (.invokevirtual 165, 3) := by decide +kernel
theorem d_X2_callable_8 : decode F_X2_callable.2.1 8 = .ok (.istore_n 3, 1) := by decide +kernel
theorem d_X2_callable_9 : decode F_X2_callable.2.1 9 = .ok (.aload_n 0, 1) := by decide +kernel
theorem d_X2_callable_10 : decode F_X2_callable.2.1 10 = .ok (.iconst 2, 1) := by decide +kernel
theorem d_X2_callable_11 : decode F_X2_callable.2.1 11 = .ok (.iload_n 2, 1) := by decide +kernel
theorem d_X2_callable_12 : decode F_X2_callable.2.1 12 = .ok (.imul, 1) := by decide +kernel
theorem d_X2_callable_13 : decode F_X2_callable.2.1 13 = .ok (.iconst 1, 1) := by decide +kernel
theorem d_X2_callable_14 : decode F_X2_callable.2.1 14 = .ok (.iadd, 1) := by decide +kernel
theorem d_X2_callable_15 : decode F_X2_callable.2.1 15 = .ok (.iload_n 1, 1) := by decide +kernel
theorem d_X2_callable_16 : decode F_X2_callable.2.1 16 = .ok (.invokevirtual 165, 3) := by decide +kernel
theorem d_X2_callable_19 : decode F_X2_callable.2.1 19 = .ok (.istore 4, 2) := by decide +kernel
theorem d_X2_callable_21 : decode F_X2_callable.2.1 21 = .ok (.iconst 0, 1) := by decide +kernel
theorem d_X2_callable_22 : decode F_X2_callable.2.1 22 = .ok (.istore 5, 2) := by decide +kernel
theorem d_X2_callable_24 : decode F_X2_callable.2.1 24 = .ok (.aload_n 0, 1) := by decide +kernel
theorem d_X2_callable_25 : decode F_X2_callable.2.1 25 = .ok (.iload 5, 2) := by decide +kernel
theorem d_X2_callable_27 : decode F_X2_callable.2.1 27 = .ok (.iload_n 3, 1) := by decide +kernel
theorem d_X2_callable_28 : decode F_X2_callable.2.1 28 = .ok (.aload_n 0, 1) := by decide +kernel
theorem d_X2_callable_29 : decode F_X2_callable.2.1 29 = .ok (.getfield 30, 3) := by decide +kernel
theorem d_X2_callable_32 : decode F_X2_callable.2.1 32 = .ok (.iload_n 2, 1) := by decide +kernel
theorem d_X2_callable_33 : decode F_X2_callable.2.1 33 = .ok (.iaload, 1) := by decide +kernel
theorem d_X2_callable_34 : decode F_X2_callable.2.1 34 = .ok (.invokevirtual 168, 3) := by decide +kernel
theorem d_X2_callable_37 : decode F_X2_callable.2.1 37 = .ok (.istore 5, 2) := by decide +kernel
theorem d_X2_callable_39 : decode F_X2_callable.2.1 39 = .ok (.aload_n 0, 1) := by decide +kernel
theorem d_X2_callable_40 : decode F_X2_callable.2.1 40 = .ok (.iload 5, 2) := by decide +kernel
theorem d_X2_callable_42 : decode F_X2_callable.2.1 42 = .ok (.iload 4, 2) := by decide +kernel
theorem d_X2_callable_44 : decode F_X2_callable.2.1 44 = .ok (.aload_n 0, 1) := by decide +kernel
theorem d_X2_callable_45 : decode F_X2_callable.2.1 45 = .ok (.getfield 30, 3) := by decide +kernel
theorem d_X2_callable_48 : decode F_X2_callable.2.1 48 = .ok (.iload_n 2, 1) := by decide +kernel
theorem d_X2_callable_49 : decode F_X2_callable.2.1 49 = .ok (.iaload, 1) := by decide +kernel
theorem d_X2_callable_50 : decode F_X2_callable.2.1 50 = .ok (.invokevirtual 168, 3) := by decide +kernel
theorem d_X2_callable_53 : decode F_X2_callable.2.1 53 = .ok (.istore 5, 2) := by decide +kernel
theorem d_X2_callable_55 : decode F_X2_callable.2.1 55 = .ok (.aload_n 0, 1) := by decide +kernel
theorem d_X2_callable_56 : decode F_X2_callable.2.1 56 = .ok (.iload 5, 2) := by decide +kernel
theorem d_X2_callable_58 : decode F_X2_callable.2.1 58 = .ok (.iload_n 3, 1) := by decide +kernel
theorem d_X2_callable_59 : decode F_X2_callable.2.1 59 = .ok (.iload 4, 2) := by decide +kernel
theorem d_X2_callable_61 : decode F_X2_callable.2.1 61 = .ok (.ior, 1) := by decide +kernel
theorem d_X2_callable_62 : decode F_X2_callable.2.1 62 = .ok (.aload_n 0, 1) := by decide +kernel
theorem d_X2_callable_63 : decode F_X2_callable.2.1 63 = .ok (.getfield 30, 3) := by decide +kernel
theorem d_X2_callable_66 : decode F_X2_callable.2.1 66 = .ok (.iload_n 2, 1) := by decide +kernel
theorem d_X2_callable_67 : decode F_X2_callable.2.1 67 = .ok (.iaload, 1) := by decide +kernel
theorem d_X2_callable_68 : decode F_X2_callable.2.1 68 = .ok (.invokevirtual 168, 3) := by decide +kernel
theorem d_X2_callable_71 : decode F_X2_callable.2.1 71 = .ok (.ireturn, 1) := by decide +kernel
def f_X2_callable (μ : Mem) (a0 : Nat) (p1 : Int32) (p2 : Int32) : Option Int32 :=
Option.bind (f_X2_laceFor μ a0 (2 * p2) p1) fun t1 =>
Option.bind (f_X2_laceFor μ a0 ((2 * p2) + 1) p1) fun t2 =>
Option.bind (rd μ (a0 + 1) 6 p2) fun t3 =>
Option.bind (f_X2_betterCall μ a0 0 t1 t3) fun t4 =>
Option.bind (rd μ (a0 + 1) 6 p2) fun t5 =>
Option.bind (f_X2_betterCall μ a0 t4 t2 t5) fun t6 =>
Option.bind (rd μ (a0 + 1) 6 p2) fun t7 =>
Option.bind (f_X2_betterCall μ a0 t6 (t1 ||| t2) t7) fun t8 =>
some t8
theorem s_X2_callable_e {G : Gl} (hG : G.1.stackTraces = false) {C : Cx} {n : Nat} {μ : Mem} {a0 : Nat} {p1 : Int32} {p2 : Int32} (ha0 : a0 ∈ landL) {r : Int32} (hf : f_X2_callable μ a0 p1 p2 = some r) (hK : FinR G C F_X2_callable (some .int) (some (.int r)) μ) : V G C F_X2_callable 0 [some (.ref (G.2.1 + a0)), some (.int p1), some (.int p2), none, none, none] [] (pic G μ) n 0 0 := by
  unfold f_X2_callable at hf
  refine V_aload_n d_X2_callable_0 rfl rfl ?_
  refine V_iconst (v := 2) d_X2_callable_1 ic_2 ?_
  refine V_iload_n d_X2_callable_2 rfl rfl ?_
  refine V_imul d_X2_callable_3 ?_
  refine V_iload_n d_X2_callable_4 rfl rfl ?_
  obtain ⟨t1, ht1, hf⟩ := ob hf
  refine B_callV1 (s_X2_laceFor hG ha0 ht1) (kLand _ ha0) clX2 m_X2_laceFor kv_RX2_165 d_X2_callable_5 rfl (Nat.le_of_ble_eq_true rfl) ⟨rfl, rfl, Nat.le_of_ble_eq_true rfl, Nat.le_of_ble_eq_true rfl, Nat.le_of_ble_eq_true rfl⟩ (fun n => ?_)
  refine V_istore_n (ls' := [_, _, _, _, _, _]) d_X2_callable_8 rfl rfl rfl ?_
  refine V_aload_n d_X2_callable_9 rfl rfl ?_
  refine V_iconst (v := 2) d_X2_callable_10 ic_2 ?_
  refine V_iload_n d_X2_callable_11 rfl rfl ?_
  refine V_imul d_X2_callable_12 ?_
  refine V_iconst (v := 1) d_X2_callable_13 ic_1 ?_
  refine V_iadd d_X2_callable_14 ?_
  refine V_iload_n d_X2_callable_15 rfl rfl ?_
  obtain ⟨t2, ht2, hf⟩ := ob hf
  refine B_callV1 (s_X2_laceFor hG ha0 ht2) (kLand _ ha0) clX2 m_X2_laceFor kv_RX2_165 d_X2_callable_16 rfl (Nat.le_of_ble_eq_true rfl) ⟨rfl, rfl, Nat.le_of_ble_eq_true rfl, Nat.le_of_ble_eq_true rfl, Nat.le_of_ble_eq_true rfl⟩ (fun n => ?_)
  refine V_istore (ls' := [_, _, _, _, _, _]) d_X2_callable_19 rfl rfl ?_
  refine V_iconst (v := 0) d_X2_callable_21 ic_0 ?_
  refine V_istore (ls' := [_, _, _, _, _, _]) d_X2_callable_22 rfl rfl ?_
  refine V_aload_n d_X2_callable_24 rfl rfl ?_
  refine V_iload d_X2_callable_25 rfl ?_
  refine V_iload_n d_X2_callable_27 rfl rfl ?_
  refine V_aload_n d_X2_callable_28 rfl rfl ?_
  refine B_get (kLand _ ha0) fl_RX2_30 d_X2_callable_29 g_2_6 ?_
  refine V_iload_n d_X2_callable_32 rfl rfl ?_
  obtain ⟨t3, ht3, hf⟩ := ob hf
  refine B_iald (kLand_1 _ ha0) ht3 d_X2_callable_33 ?_
  obtain ⟨t4, ht4, hf⟩ := ob hf
  refine B_callV1 (s_X2_betterCall hG ha0 ht4) (kLand _ ha0) clX2 m_X2_betterCall kv_RX2_168 d_X2_callable_34 rfl (Nat.le_of_ble_eq_true rfl) ⟨rfl, rfl, Nat.le_of_ble_eq_true rfl, Nat.le_of_ble_eq_true rfl, Nat.le_of_ble_eq_true rfl⟩ (fun n => ?_)
  refine V_istore (ls' := [_, _, _, _, _, _]) d_X2_callable_37 rfl rfl ?_
  refine V_aload_n d_X2_callable_39 rfl rfl ?_
  refine V_iload d_X2_callable_40 rfl ?_
  refine V_iload d_X2_callable_42 rfl ?_
  refine V_aload_n d_X2_callable_44 rfl rfl ?_
  refine B_get (kLand _ ha0) fl_RX2_30 d_X2_callable_45 g_2_6 ?_
  refine V_iload_n d_X2_callable_48 rfl rfl ?_
  obtain ⟨t5, ht5, hf⟩ := ob hf
  refine B_iald (kLand_1 _ ha0) ht5 d_X2_callable_49 ?_
  obtain ⟨t6, ht6, hf⟩ := ob hf
  refine B_callV1 (s_X2_betterCall hG ha0 ht6) (kLand _ ha0) clX2 m_X2_betterCall kv_RX2_168 d_X2_callable_50 rfl (Nat.le_of_ble_eq_true rfl) ⟨rfl, rfl, Nat.le_of_ble_eq_true rfl, Nat.le_of_ble_eq_true rfl, Nat.le_of_ble_eq_true rfl⟩ (fun n => ?_)
  refine V_istore (ls' := [_, _, _, _, _, _]) d_X2_callable_53 rfl rfl ?_
  refine V_aload_n d_X2_callable_55 rfl rfl ?_
  refine V_iload d_X2_callable_56 rfl ?_
  refine V_iload_n d_X2_callable_58 rfl rfl ?_
  refine V_iload d_X2_callable_59 rfl ?_
  refine V_ior d_X2_callable_61 ?_
  refine V_aload_n d_X2_callable_62 rfl rfl ?_
  refine B_get (kLand _ ha0) fl_RX2_30 d_X2_callable_63 g_2_6 ?_
  refine V_iload_n d_X2_callable_66 rfl rfl ?_
  obtain ⟨t7, ht7, hf⟩ := ob hf
  refine B_iald (kLand_1 _ ha0) ht7 d_X2_callable_67 ?_
  obtain ⟨t8, ht8, hf⟩ := ob hf
  refine B_callV1 (s_X2_betterCall hG ha0 ht8) (kLand _ ha0) clX2 m_X2_betterCall kv_RX2_168 d_X2_callable_68 rfl (Nat.le_of_ble_eq_true rfl) ⟨rfl, rfl, Nat.le_of_ble_eq_true rfl, Nat.le_of_ble_eq_true rfl, Nat.le_of_ble_eq_true rfl⟩ (fun n => ?_)
  cases hf
  exact R_i hK d_X2_callable_71 (Nat.le_of_ble_eq_true rfl) (Nat.le_of_ble_eq_true rfl)
theorem s_X2_callable {G : Gl} (hG : G.1.stackTraces = false) {μ : Mem} {a0 : Nat} {p1 : Int32} {p2 : Int32} (ha0 : a0 ∈ landL) {r : Int32} (hf : f_X2_callable μ a0 p1 p2 = some r) : Rt G yX2_callable F_X2_callable (some .int) [.ref (G.2.1 + a0), .int p1, .int p2] μ (some (.int r)) μ := fun n => Sd.of hG ⟨by decide +kernel, rfl, rfl⟩ rfl (Nat.le_of_ble_eq_true rfl) rfl (fun C hK => s_X2_callable_e hG ha0 hf hK)
