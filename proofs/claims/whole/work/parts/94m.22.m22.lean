theorem d_X4_openLine_0 : decode cX4_openLine 0 = .ok (.aload_n 0, 1) := by decide +kernel
theorem d_X4_openLine_1 : decode cX4_openLine 1 = .ok (.getfield 15, 3) := by decide +kernel
theorem d_X4_openLine_4 : decode cX4_openLine 4 = .ok (.bipush 12, 2) := by decide +kernel
theorem d_X4_openLine_6 : decode cX4_openLine 6 = .ok (.if_icmp .ge 36, 3) := by decide +kernel
theorem d_X4_openLine_9 : decode cX4_openLine 9 = .ok (.aload_n 0, 1) := by decide +kernel
theorem d_X4_openLine_10 : decode cX4_openLine 10 = .ok (.getfield 22, 3) := by decide +kernel
theorem d_X4_openLine_13 : decode cX4_openLine 13 = .ok (.aload_n 0, 1) := by decide +kernel
theorem d_X4_openLine_14 : decode cX4_openLine 14 = .ok (.getfield 15, 3) := by decide +kernel
theorem d_X4_openLine_17 : decode cX4_openLine 17 = .ok (.iload_n 1, 1) := by decide +kernel
theorem d_X4_openLine_18 : decode cX4_openLine 18 = .ok (.iastore, 1) := by decide +kernel
theorem d_X4_openLine_19 : decode cX4_openLine 19 = .ok (.aload_n 0, 1) := by decide +kernel
theorem d_X4_openLine_20 : decode cX4_openLine 20 = .ok (.getfield 26, 3) := by decide +kernel
theorem d_X4_openLine_23 : decode cX4_openLine 23 = .ok (.aload_n 0, 1) := by decide +kernel
theorem d_X4_openLine_24 : decode cX4_openLine 24 = .ok (.getfield 15, 3) := by decide +kernel
theorem d_X4_openLine_27 : decode cX4_openLine 27 = .ok (.iload_n 2, 1) := by decide +kernel
theorem d_X4_openLine_28 : decode cX4_openLine 28 = .ok (.iastore, 1) := by decide +kernel
theorem d_X4_openLine_29 : decode cX4_openLine 29 = .ok (.aload_n 0, 1) := by decide +kernel
theorem d_X4_openLine_30 : decode cX4_openLine 30 = .ok (.getfield 29, 3) := by decide +kernel
theorem d_X4_openLine_33 : decode cX4_openLine 33 = .ok (.aload_n 0, 1) := by decide +kernel
theorem d_X4_openLine_34 : decode cX4_openLine 34 = .ok (.getfield 15, 3) := by decide +kernel
theorem d_X4_openLine_37 : decode cX4_openLine 37 = .ok (.aload_n 0, 1) := by decide +kernel
theorem d_X4_openLine_38 : decode cX4_openLine 38 = .ok (.getfield 19, 3) := by decide +kernel
theorem d_X4_openLine_41 : decode cX4_openLine 41 = .ok (.iastore, 1) := by decide +kernel
theorem d_X4_openLine_42 : decode cX4_openLine 42 = .ok (.return_, 1) := by decide +kernel
theorem s_X4_openLine_j42 {G : Gl} (hG : G.1.stackTraces = false) {C : Cx} {n : Nat} {μ : Mem} {a0 : Nat} (ha0 : a0 ∈ lawL) {r : Mem} (hf : f_X4_openLine_j42 μ a0 = some r) (hK : FinR G C F_X4_openLine none none r) : V G C F_X4_openLine 42 [none, none, none] [] (pic G μ) n 0 0 := by
  unfold f_X4_openLine_j42 at hf
  cases hf
  exact R_v hK d_X4_openLine_42 (Nat.le_of_ble_eq_true rfl) (Nat.le_of_ble_eq_true rfl)
theorem s_X4_openLine_e {G : Gl} (hG : G.1.stackTraces = false) {C : Cx} {n : Nat} {μ : Mem} {a0 : Nat} {p1 : Int32} {p2 : Int32} (ha0 : a0 ∈ lawL) {r : Mem} (hf : f_X4_openLine μ a0 p1 p2 = some r) (hK : FinR G C F_X4_openLine none none r) : V G C F_X4_openLine 0 [some (.ref (G.2.1 + a0)), some (.int p1), some (.int p2)] [] (pic G μ) n 0 0 := by
  unfold f_X4_openLine at hf
  refine V_aload_n d_X4_openLine_0 rfl rfl ?_
  refine B_get (kLaw _ ha0) fl_RX4_15 d_X4_openLine_1 g_4_1 ?_
  refine V_bipush (v := 12) d_X4_openLine_4 bp_12 ?_
  refine V_icmp_ge (tgt := 42) d_X4_openLine_6 (by decide) (fun c6 => ?_) (fun c6 => ?_)
  · replace hf := iteT c6 hf
    refine V_less (ls' := [none, none, none]) trivial ?_
    exact s_X4_openLine_j42 hG ha0 hf hK
  · replace hf := iteF c6 hf
    refine V_aload_n d_X4_openLine_9 rfl rfl ?_
    refine B_get (kLaw _ ha0) fl_RX4_22 d_X4_openLine_10 g_4_3 ?_
    refine V_aload_n d_X4_openLine_13 rfl rfl ?_
    refine B_get (kLaw _ ha0) fl_RX4_15 d_X4_openLine_14 g_4_1 ?_
    refine V_iload_n d_X4_openLine_17 rfl rfl ?_
    obtain ⟨μ1, hμ1, hf⟩ := ob hf
    refine B_iast (kLaw_1 _ ha0) hμ1 d_X4_openLine_18 ?_
    refine V_aload_n d_X4_openLine_19 rfl rfl ?_
    refine B_get (kLaw _ ha0) fl_RX4_26 d_X4_openLine_20 g_4_4 ?_
    refine V_aload_n d_X4_openLine_23 rfl rfl ?_
    refine B_get (kLaw _ ha0) fl_RX4_15 d_X4_openLine_24 g_4_1 ?_
    refine V_iload_n d_X4_openLine_27 rfl rfl ?_
    obtain ⟨μ2, hμ2, hf⟩ := ob hf
    refine B_iast (kLaw_2 _ ha0) hμ2 d_X4_openLine_28 ?_
    refine V_aload_n d_X4_openLine_29 rfl rfl ?_
    refine B_get (kLaw _ ha0) fl_RX4_29 d_X4_openLine_30 g_4_5 ?_
    refine V_aload_n d_X4_openLine_33 rfl rfl ?_
    refine B_get (kLaw _ ha0) fl_RX4_15 d_X4_openLine_34 g_4_1 ?_
    refine V_aload_n d_X4_openLine_37 rfl rfl ?_
    refine B_get (kLaw _ ha0) fl_RX4_19 d_X4_openLine_38 g_4_2 ?_
    obtain ⟨μ3, hμ3, hf⟩ := ob hf
    refine B_iast (kLaw_3 _ ha0) hμ3 d_X4_openLine_41 ?_
    refine V_less (ls' := [none, none, none]) trivial ?_
    exact s_X4_openLine_j42 hG ha0 hf hK
theorem s_X4_openLine {G : Gl} (hG : G.1.stackTraces = false) {μ : Mem} {a0 : Nat} {p1 : Int32} {p2 : Int32} (ha0 : a0 ∈ lawL) {r : Mem} (hf : f_X4_openLine μ a0 p1 p2 = some r) : Rt G yX4_openLine F_X4_openLine none [.ref (G.2.1 + a0), .int p1, .int p2] μ none r := fun n => Sd.of hG ⟨by decide +kernel, rfl, rfl⟩ rfl (Nat.le_of_ble_eq_true rfl) rfl (fun C hK => s_X4_openLine_e hG ha0 hf hK)
theorem d_X4_addStep_0 : decode cX4_addStep 0 = .ok (.aload_n 0, 1) := by decide +kernel
theorem d_X4_addStep_1 : decode cX4_addStep 1 = .ok (.getfield 19, 3) := by decide +kernel
theorem d_X4_addStep_4 : decode cX4_addStep 4 = .ok (.sipush 400, 3) := by decide +kernel
theorem d_X4_addStep_7 : decode cX4_addStep 7 = .ok (.if_icmp .ge 23, 3) := by decide +kernel
theorem d_X4_addStep_10 : decode cX4_addStep 10 = .ok (.aload_n 0, 1) := by decide +kernel
theorem d_X4_addStep_11 : decode cX4_addStep 11 = .ok (.getfield 35, 3) := by decide +kernel
theorem d_X4_addStep_14 : decode cX4_addStep 14 = .ok (.aload_n 0, 1) := by decide +kernel
theorem d_X4_addStep_15 : decode cX4_addStep 15 = .ok (.getfield 19, 3) := by decide +kernel
theorem d_X4_addStep_18 : decode cX4_addStep 18 = .ok (.iload_n 1, 1) := by decide +kernel
theorem d_X4_addStep_19 : decode cX4_addStep 19 = .ok (.iastore, 1) := by decide +kernel
theorem d_X4_addStep_20 : decode cX4_addStep 20 = .ok (.aload_n 0, 1) := by decide +kernel
theorem d_X4_addStep_21 : decode cX4_addStep 21 = .ok (.dup, 1) := by decide +kernel
theorem d_X4_addStep_22 : decode cX4_addStep 22 = .ok (.getfield 19, 3) := by decide +kernel
theorem d_X4_addStep_25 : decode cX4_addStep 25 = .ok (.iconst 1, 1) := by decide +kernel
theorem d_X4_addStep_26 : decode cX4_addStep 26 = .ok (.iadd, 1) := by decide +kernel
theorem d_X4_addStep_27 : decode cX4_addStep 27 = .ok (.putfield 19, 3) := by decide +kernel
theorem d_X4_addStep_30 : decode cX4_addStep 30 = .ok (.return_, 1) := by decide +kernel
theorem s_X4_addStep_j30 {G : Gl} (hG : G.1.stackTraces = false) {C : Cx} {n : Nat} {μ : Mem} {a0 : Nat} (ha0 : a0 ∈ lawL) {r : Mem} (hf : f_X4_addStep_j30 μ a0 = some r) (hK : FinR G C F_X4_addStep none none r) : V G C F_X4_addStep 30 [none, none] [] (pic G μ) n 0 0 := by
  unfold f_X4_addStep_j30 at hf
  cases hf
  exact R_v hK d_X4_addStep_30 (Nat.le_of_ble_eq_true rfl) (Nat.le_of_ble_eq_true rfl)
theorem s_X4_addStep_e {G : Gl} (hG : G.1.stackTraces = false) {C : Cx} {n : Nat} {μ : Mem} {a0 : Nat} {p1 : Int32} (ha0 : a0 ∈ lawL) {r : Mem} (hf : f_X4_addStep μ a0 p1 = some r) (hK : FinR G C F_X4_addStep none none r) : V G C F_X4_addStep 0 [some (.ref (G.2.1 + a0)), some (.int p1)] [] (pic G μ) n 0 0 := by
  unfold f_X4_addStep at hf
  refine V_aload_n d_X4_addStep_0 rfl rfl ?_
  refine B_get (kLaw _ ha0) fl_RX4_19 d_X4_addStep_1 g_4_2 ?_
  refine V_sipush (v := 400) d_X4_addStep_4 sp_400 ?_
  refine V_icmp_ge (tgt := 30) d_X4_addStep_7 (by decide) (fun c7 => ?_) (fun c7 => ?_)
  · replace hf := iteT c7 hf
    refine V_less (ls' := [none, none]) trivial ?_
    exact s_X4_addStep_j30 hG ha0 hf hK
  · replace hf := iteF c7 hf
    refine V_aload_n d_X4_addStep_10 rfl rfl ?_
    refine B_get (kLaw _ ha0) fl_RX4_35 d_X4_addStep_11 g_4_7 ?_
    refine V_aload_n d_X4_addStep_14 rfl rfl ?_
    refine B_get (kLaw _ ha0) fl_RX4_19 d_X4_addStep_15 g_4_2 ?_
    refine V_iload_n d_X4_addStep_18 rfl rfl ?_
    obtain ⟨μ1, hμ1, hf⟩ := ob hf
    refine B_iast (kLaw_5 _ ha0) hμ1 d_X4_addStep_19 ?_
    refine V_aload_n d_X4_addStep_20 rfl rfl ?_
    refine V_dup d_X4_addStep_21 rfl ?_
    refine B_get (kLaw _ ha0) fl_RX4_19 d_X4_addStep_22 g_4_2 ?_
    refine V_iconst (v := 1) d_X4_addStep_25 ic_1 ?_
    refine V_iadd d_X4_addStep_26 ?_
    refine B_putI (kLaw _ ha0) fl_RX4_19 pt_4_2 (Nat.le_of_ble_eq_true rfl) p_4_2 d_X4_addStep_27 ?_
    refine V_less (ls' := [none, none]) trivial ?_
    exact s_X4_addStep_j30 hG ha0 hf hK
theorem s_X4_addStep {G : Gl} (hG : G.1.stackTraces = false) {μ : Mem} {a0 : Nat} {p1 : Int32} (ha0 : a0 ∈ lawL) {r : Mem} (hf : f_X4_addStep μ a0 p1 = some r) : Rt G yX4_addStep F_X4_addStep none [.ref (G.2.1 + a0), .int p1] μ none r := fun n => Sd.of hG ⟨by decide +kernel, rfl, rfl⟩ rfl (Nat.le_of_ble_eq_true rfl) rfl (fun C hK => s_X4_addStep_e hG ha0 hf hK)
theorem d_X4_closeLine_0 : decode cX4_closeLine 0 = .ok (.aload_n 0, 1) := by decide +kernel
theorem d_X4_closeLine_1 : decode cX4_closeLine 1 = .ok (.getfield 15, 3) := by decide +kernel
theorem d_X4_closeLine_4 : decode cX4_closeLine 4 = .ok (.bipush 12, 2) := by decide +kernel
theorem d_X4_closeLine_6 : decode cX4_closeLine 6 = .ok (.if_icmp .ge 26, 3) := by decide +kernel
theorem d_X4_closeLine_9 : decode cX4_closeLine 9 = .ok (.aload_n 0, 1) := by decide +kernel
theorem d_X4_closeLine_10 : decode cX4_closeLine 10 = .ok (.getfield 32, 3) := by decide +kernel
theorem d_X4_closeLine_13 : decode cX4_closeLine 13 = .ok (.aload_n 0, 1) := by decide +kernel
theorem d_X4_closeLine_14 : decode cX4_closeLine 14 = .ok (.getfield 15, 3) := by decide +kernel
theorem d_X4_closeLine_17 : decode cX4_closeLine 17 = .ok (.aload_n 0, 1) := by decide +kernel
theorem d_X4_closeLine_18 : decode cX4_closeLine 18 = .ok (.getfield 19, 3) := by decide +kernel
theorem d_X4_closeLine_21 : decode cX4_closeLine 21 = .ok (.iastore, 1) := by decide +kernel
theorem d_X4_closeLine_22 : decode cX4_closeLine 22 = .ok (.aload_n 0, 1) := by decide +kernel
theorem d_X4_closeLine_23 : decode cX4_closeLine 23 = .ok (.dup, 1) := by decide +kernel
theorem d_X4_closeLine_24 : decode cX4_closeLine 24 = .ok (.getfield 15, 3) := by decide +kernel
theorem d_X4_closeLine_27 : decode cX4_closeLine 27 = .ok (.iconst 1, 1) := by decide +kernel
theorem d_X4_closeLine_28 : decode cX4_closeLine 28 = .ok (.iadd, 1) := by decide +kernel
theorem d_X4_closeLine_29 : decode cX4_closeLine 29 = .ok (.putfield 15, 3) := by decide +kernel
theorem d_X4_closeLine_32 : decode cX4_closeLine 32 = .ok (.return_, 1) := by decide +kernel
theorem s_X4_closeLine_j32 {G : Gl} (hG : G.1.stackTraces = false) {C : Cx} {n : Nat} {μ : Mem} {a0 : Nat} (ha0 : a0 ∈ lawL) {r : Mem} (hf : f_X4_closeLine_j32 μ a0 = some r) (hK : FinR G C F_X4_closeLine none none r) : V G C F_X4_closeLine 32 [none] [] (pic G μ) n 0 0 := by
  unfold f_X4_closeLine_j32 at hf
  cases hf
  exact R_v hK d_X4_closeLine_32 (Nat.le_of_ble_eq_true rfl) (Nat.le_of_ble_eq_true rfl)
theorem s_X4_closeLine_e {G : Gl} (hG : G.1.stackTraces = false) {C : Cx} {n : Nat} {μ : Mem} {a0 : Nat} (ha0 : a0 ∈ lawL) {r : Mem} (hf : f_X4_closeLine μ a0 = some r) (hK : FinR G C F_X4_closeLine none none r) : V G C F_X4_closeLine 0 [some (.ref (G.2.1 + a0))] [] (pic G μ) n 0 0 := by
  unfold f_X4_closeLine at hf
  refine V_aload_n d_X4_closeLine_0 rfl rfl ?_
  refine B_get (kLaw _ ha0) fl_RX4_15 d_X4_closeLine_1 g_4_1 ?_
  refine V_bipush (v := 12) d_X4_closeLine_4 bp_12 ?_
  refine V_icmp_ge (tgt := 32) d_X4_closeLine_6 (by decide) (fun c6 => ?_) (fun c6 => ?_)
  · replace hf := iteT c6 hf
    refine V_less (ls' := [none]) trivial ?_
    exact s_X4_closeLine_j32 hG ha0 hf hK
  · replace hf := iteF c6 hf
    refine V_aload_n d_X4_closeLine_9 rfl rfl ?_
    refine B_get (kLaw _ ha0) fl_RX4_32 d_X4_closeLine_10 g_4_6 ?_
    refine V_aload_n d_X4_closeLine_13 rfl rfl ?_
    refine B_get (kLaw _ ha0) fl_RX4_15 d_X4_closeLine_14 g_4_1 ?_
    refine V_aload_n d_X4_closeLine_17 rfl rfl ?_
    refine B_get (kLaw _ ha0) fl_RX4_19 d_X4_closeLine_18 g_4_2 ?_
    obtain ⟨μ1, hμ1, hf⟩ := ob hf
    refine B_iast (kLaw_4 _ ha0) hμ1 d_X4_closeLine_21 ?_
    refine V_aload_n d_X4_closeLine_22 rfl rfl ?_
    refine V_dup d_X4_closeLine_23 rfl ?_
    refine B_get (kLaw _ ha0) fl_RX4_15 d_X4_closeLine_24 g_4_1 ?_
    refine V_iconst (v := 1) d_X4_closeLine_27 ic_1 ?_
    refine V_iadd d_X4_closeLine_28 ?_
    refine B_putI (kLaw _ ha0) fl_RX4_15 pt_4_1 (Nat.le_of_ble_eq_true rfl) p_4_1 d_X4_closeLine_29 ?_
    refine V_less (ls' := [none]) trivial ?_
    exact s_X4_closeLine_j32 hG ha0 hf hK
theorem s_X4_closeLine {G : Gl} (hG : G.1.stackTraces = false) {μ : Mem} {a0 : Nat} (ha0 : a0 ∈ lawL) {r : Mem} (hf : f_X4_closeLine μ a0 = some r) : Rt G yX4_closeLine F_X4_closeLine none [.ref (G.2.1 + a0)] μ none r := fun n => Sd.of hG ⟨by decide +kernel, rfl, rfl⟩ rfl (Nat.le_of_ble_eq_true rfl) rfl (fun C hK => s_X4_closeLine_e hG ha0 hf hK)
theorem d_X5_takeKind_0 : decode cX5_takeKind 0 = .ok (.aload_n 0, 1) := by decide +kernel
theorem d_X5_takeKind_1 : decode cX5_takeKind 1 = .ok (.getfield 19, 3) := by decide +kernel
theorem d_X5_takeKind_4 : decode cX5_takeKind 4 = .ok (.ldc 49, 2) := by decide +kernel
theorem d_X5_takeKind_6 : decode cX5_takeKind 6 = .ok (.invokevirtual 37, 3) := by decide +kernel
theorem d_X5_takeKind_9 : decode cX5_takeKind 9 = .ok (.ifCond .eq 5, 3) := by decide +kernel
theorem d_X5_takeKind_12 : decode cX5_takeKind 12 = .ok (.iconst 0, 1) := by decide +kernel
theorem d_X5_takeKind_13 : decode cX5_takeKind 13 = .ok (.ireturn, 1) := by decide +kernel
theorem d_X5_takeKind_14 : decode cX5_takeKind 14 = .ok (.aload_n 0, 1) := by decide +kernel
theorem d_X5_takeKind_15 : decode cX5_takeKind 15 = .ok (.getfield 19, 3) := by decide +kernel
theorem d_X5_takeKind_18 : decode cX5_takeKind 18 = .ok (.ldc 51, 2) := by decide +kernel
theorem d_X5_takeKind_20 : decode cX5_takeKind 20 = .ok (.invokevirtual 37, 3) := by decide +kernel
theorem d_X5_takeKind_23 : decode cX5_takeKind 23 = .ok (.ifCond .eq 5, 3) := by decide +kernel
theorem d_X5_takeKind_26 : decode cX5_takeKind 26 = .ok (.iconst 1, 1) := by decide +kernel
theorem d_X5_takeKind_27 : decode cX5_takeKind 27 = .ok (.ireturn, 1) := by decide +kernel
theorem d_X5_takeKind_28 : decode cX5_takeKind 28 = .ok (.aload_n 0, 1) := by decide +kernel
theorem d_X5_takeKind_29 : decode cX5_takeKind 29 = .ok (.getfield 19, 3) := by decide +kernel
theorem d_X5_takeKind_32 : decode cX5_takeKind 32 = .ok (.ldc 53, 2) := by decide +kernel
theorem d_X5_takeKind_34 : decode cX5_takeKind 34 = .ok (.invokevirtual 55, 3) := by decide +kernel
theorem d_X5_takeKind_37 : decode cX5_takeKind 37 = .ok (.iconst 2, 1) := by decide +kernel
theorem d_X5_takeKind_38 : decode cX5_takeKind 38 = .ok (.ireturn, 1) := by decide +kernel
theorem s_X5_takeKind_e {G : Gl} (hG : G.1.stackTraces = false) {C : Cx} {n : Nat} {μ : Mem}  {r : (Int32 × Mem)} (hf : f_X5_takeKind μ = some r) (hK : FinR G C F_X5_takeKind (some .int) (some (.int r.1)) r.2) : V G C F_X5_takeKind 0 [some (.ref (G.2.1 + 73))] [] (pic G μ) n 0 0 := by
  unfold f_X5_takeKind at hf
  refine V_aload_n d_X5_takeKind_0 rfl rfl ?_
  refine B_get k_73 fl_RX5_19 d_X5_takeKind_1 g_5_0 ?_
  refine V_ldcS (i := 13) d_X5_takeKind_4 sT_RX5_49 ?_
  obtain ⟨q1, hq1, hf⟩ := ob hf
  refine B_callV1 (s_X8_takesWord hG sS_13 hq1) k_1 clX8 m_X8_takesWord kv_RX5_37 d_X5_takeKind_6 rfl (Nat.le_of_ble_eq_true rfl) ⟨rfl, rfl, Nat.le_of_ble_eq_true rfl, Nat.le_of_ble_eq_true rfl, Nat.le_of_ble_eq_true rfl⟩ (fun n => ?_)
  refine V_if_eq (tgt := 14) d_X5_takeKind_9 (by decide) (fun c9 => ?_) (fun c9 => ?_)
  · replace hf := iteF (b2i_nt (b2i_eq0 c9)) hf
    refine V_aload_n d_X5_takeKind_14 rfl rfl ?_
    refine B_get k_73 fl_RX5_19 d_X5_takeKind_15 g_5_0 ?_
    refine V_ldcS (i := 14) d_X5_takeKind_18 sT_RX5_51 ?_
    obtain ⟨q2, hq2, hf⟩ := ob hf
    refine B_callV1 (s_X8_takesWord hG sS_14 hq2) k_1 clX8 m_X8_takesWord kv_RX5_37 d_X5_takeKind_20 rfl (Nat.le_of_ble_eq_true rfl) ⟨rfl, rfl, Nat.le_of_ble_eq_true rfl, Nat.le_of_ble_eq_true rfl, Nat.le_of_ble_eq_true rfl⟩ (fun n => ?_)
    refine V_if_eq (tgt := 28) d_X5_takeKind_23 (by decide) (fun c23 => ?_) (fun c23 => ?_)
    · replace hf := iteF (b2i_nt (b2i_eq0 c23)) hf
      refine V_aload_n d_X5_takeKind_28 rfl rfl ?_
      refine B_get k_73 fl_RX5_19 d_X5_takeKind_29 g_5_0 ?_
      refine V_ldcS (i := 15) d_X5_takeKind_32 sT_RX5_53 ?_
      obtain ⟨q3, hq3, hf⟩ := ob hf
      refine B_callV0 (s_X8_needWord hG sS_15 hq3) k_1 clX8 m_X8_needWord kv_RX5_55 d_X5_takeKind_34 rfl (Nat.le_of_ble_eq_true rfl) ⟨rfl, rfl, Nat.le_of_ble_eq_true rfl, Nat.le_of_ble_eq_true rfl, Nat.le_of_ble_eq_true rfl⟩ (fun n => ?_)
      refine V_iconst (v := 2) d_X5_takeKind_37 ic_2 ?_
      cases hf
      exact R_i hK d_X5_takeKind_38 (Nat.le_of_ble_eq_true rfl) (Nat.le_of_ble_eq_true rfl)
    · replace hf := iteT (b2i_ne0 c23) hf
      refine V_iconst (v := 1) d_X5_takeKind_26 ic_1 ?_
      cases hf
      exact R_i hK d_X5_takeKind_27 (Nat.le_of_ble_eq_true rfl) (Nat.le_of_ble_eq_true rfl)
  · replace hf := iteT (b2i_ne0 c9) hf
    refine V_iconst (v := 0) d_X5_takeKind_12 ic_0 ?_
    cases hf
    exact R_i hK d_X5_takeKind_13 (Nat.le_of_ble_eq_true rfl) (Nat.le_of_ble_eq_true rfl)
theorem s_X5_takeKind {G : Gl} (hG : G.1.stackTraces = false) {μ : Mem} {r : (Int32 × Mem)} (hf : f_X5_takeKind μ = some r) : Rt G yX5_takeKind F_X5_takeKind (some .int) [.ref (G.2.1 + 73)] μ (some (.int r.1)) r.2 := fun n => Sd.of hG ⟨by decide +kernel, rfl, rfl⟩ rfl (Nat.le_of_ble_eq_true rfl) rfl (fun C hK => s_X5_takeKind_e hG hf hK)
theorem d_X5_readEach_0 : decode cX5_readEach 0 = .ok (.aload_n 0, 1) := by decide +kernel
theorem d_X5_readEach_1 : decode cX5_readEach 1 = .ok (.iload_n 1, 1) := by decide +kernel
theorem d_X5_readEach_2 : decode cX5_readEach 2 = .ok (.invokevirtual 67, 3) := by decide +kernel
theorem d_X5_readEach_5 : decode cX5_readEach 5 = .ok (.iconst 0, 1) := by decide +kernel
theorem d_X5_readEach_6 : decode cX5_readEach 6 = .ok (.istore_n 2, 1) := by decide +kernel
theorem d_X5_readEach_7 : decode cX5_readEach 7 = .ok (.iload_n 2, 1) := by decide +kernel
theorem d_X5_readEach_8 : decode cX5_readEach 8 = .ok (.sipush 400, 3) := by decide +kernel
theorem d_X5_readEach_11 : decode cX5_readEach 11 = .ok (.if_icmp .ge 36, 3) := by decide +kernel
theorem d_X5_readEach_14 : decode cX5_readEach 14 = .ok (.aload_n 0, 1) := by decide +kernel
theorem d_X5_readEach_15 : decode cX5_readEach 15 = .ok (.getfield 19, 3) := by decide +kernel
theorem d_X5_readEach_18 : decode cX5_readEach 18 = .ok (.ldc 70, 2) := by decide +kernel
theorem d_X5_readEach_20 : decode cX5_readEach 20 = .ok (.invokevirtual 37, 3) := by decide +kernel
theorem d_X5_readEach_23 : decode cX5_readEach 23 = .ok (.ifCond .eq 24, 3) := by decide +kernel
theorem d_X5_readEach_26 : decode cX5_readEach 26 = .ok (.aload_n 0, 1) := by decide +kernel
theorem d_X5_readEach_27 : decode cX5_readEach 27 = .ok (.iload_n 1, 1) := by decide +kernel
theorem d_X5_readEach_28 : decode cX5_readEach 28 = .ok (.invokevirtual 67, 3) := by decide +kernel
theorem d_X5_readEach_31 : decode cX5_readEach 31 = .ok (.aload_n 0, 1) := by decide +kernel
theorem d_X5_readEach_32 : decode cX5_readEach 32 = .ok (.getfield 9, 3) := by decide +kernel
theorem d_X5_readEach_35 : decode cX5_readEach 35 = .ok (.sipush 1013, 3) := by decide +kernel
theorem d_X5_readEach_38 : decode cX5_readEach 38 = .ok (.invokevirtual 64, 3) := by decide +kernel
theorem d_X5_readEach_41 : decode cX5_readEach 41 = .ok (.iinc 2 1, 3) := by decide +kernel
theorem d_X5_readEach_44 : decode cX5_readEach 44 = .ok (.goto (-37), 3) := by decide +kernel
theorem d_X5_readEach_47 : decode cX5_readEach 47 = .ok (.return_, 1) := by decide +kernel
theorem s_X5_readEach_b7 {G : Gl} (hG : G.1.stackTraces = false) {k : Nat} {rA : Mem → Int32 → Option Mem} (hA : ∀ {μ9 : Mem} {q0 : Int32} {q : Mem}, rA μ9 q0 = some q → Rt G yX5_readAtom (F_X5_readAtom k) none [.ref (G.2.1 + 73), .int q0] μ9 none q) {C : Cx} {n : Nat} {μ : Mem} {l1 : Int32} {l2 : Int32} {y : ((Int32 × Mem) ⊕ Mem)} (hf : f_X5_readEach_b7 rA μ l1 l2 = some y) (hK : (∀ z', y = .inl z' → ∀ n, V G C (F_X5_readEach k) 7 [some (.ref (G.2.1 + 73)), some (.int l1), some (.int z'.1)] [] (pic G z'.2) n 0 0) ∧ (∀ x', y = .inr x' → ∀ n, V G C (F_X5_readEach k) 47 [none, none, none] [] (pic G x') n 0 0)) : V G C (F_X5_readEach k) 7 [some (.ref (G.2.1 + 73)), some (.int l1), some (.int l2)] [] (pic G μ) n 0 0 := by
  unfold f_X5_readEach_b7 at hf
  refine V_iload_n d_X5_readEach_7 rfl rfl ?_
  refine V_sipush (v := 400) d_X5_readEach_8 sp_400 ?_
  refine V_icmp_ge (tgt := 47) d_X5_readEach_11 (by decide) (fun c11 => ?_) (fun c11 => ?_)
  · replace hf := iteT c11 hf
    refine V_less (ls' := [none, none, none]) trivial ?_
    cases hf
    exact hK.2 _ rfl _
  · replace hf := iteF c11 hf
    refine V_aload_n d_X5_readEach_14 rfl rfl ?_
    refine B_get k_73 fl_RX5_19 d_X5_readEach_15 g_5_0 ?_
    refine V_ldcS (i := 16) d_X5_readEach_18 sT_RX5_70 ?_
    obtain ⟨q1, hq1, hf⟩ := ob hf
    refine B_callV1 (s_X8_takesWord hG sS_16 hq1) k_1 clX8 m_X8_takesWord kv_RX5_37 d_X5_readEach_20 rfl (Nat.le_of_ble_eq_true rfl) ⟨rfl, rfl, Nat.le_of_ble_eq_true rfl, Nat.le_of_ble_eq_true rfl, (show (6 : Nat) < 11 + 3 * k by omega)⟩ (fun n => ?_)
    refine V_if_eq (tgt := 47) d_X5_readEach_23 (by decide) (fun c23 => ?_) (fun c23 => ?_)
    · replace hf := iteF (b2i_nt (b2i_eq0 c23)) hf
      refine V_less (ls' := [none, none, none]) trivial ?_
      cases hf
      exact hK.2 _ rfl _
    · replace hf := iteT (b2i_ne0 c23) hf
      refine V_aload_n d_X5_readEach_26 rfl rfl ?_
      refine V_iload_n d_X5_readEach_27 rfl rfl ?_
      obtain ⟨q2, hq2, hf⟩ := ob hf
      refine B_callV0 (hA hq2) k_73 clX5 m_X5_readAtom kv_RX5_67 d_X5_readEach_28 rfl (Nat.le_of_ble_eq_true rfl) ⟨rfl, rfl, Nat.le_of_ble_eq_true rfl, Nat.le_of_ble_eq_true rfl, (show (10 + 3 * k : Nat) < 11 + 3 * k by omega)⟩ (fun n => ?_)
      refine V_aload_n d_X5_readEach_31 rfl rfl ?_
      refine B_get k_73 fl_RX5_9 d_X5_readEach_32 g_5_2 ?_
      refine V_sipush (v := 1013) d_X5_readEach_35 sp_1013 ?_
      obtain ⟨q3, hq3, hf⟩ := ob hf
      refine B_callV0 (s_X4_addStep hG W_56 hq3) k_56 clX4 m_X4_addStep kv_RX5_64 d_X5_readEach_38 rfl (Nat.le_of_ble_eq_true rfl) ⟨rfl, rfl, Nat.le_of_ble_eq_true rfl, Nat.le_of_ble_eq_true rfl, (show (1 : Nat) < 11 + 3 * k by omega)⟩ (fun n => ?_)
      refine V_iinc (v := (l2 + 1)) (ls' := [_, _, _]) d_X5_readEach_41 rfl (by rw [ic_1]) rfl ?_
      refine V_goto (tgt := 7) d_X5_readEach_44 (by decide) ?_
      refine V_less (ls' := [some _, some _, some _]) ⟨rfl, rfl, rfl, trivial⟩ ?_
      cases hf
      exact hK.1 _ rfl _
theorem s_X5_readEach_j47 {G : Gl} (hG : G.1.stackTraces = false) {k : Nat} {rA : Mem → Int32 → Option Mem} (hA : ∀ {μ9 : Mem} {q0 : Int32} {q : Mem}, rA μ9 q0 = some q → Rt G yX5_readAtom (F_X5_readAtom k) none [.ref (G.2.1 + 73), .int q0] μ9 none q) {C : Cx} {n : Nat} {μ : Mem}  {r : Mem} (hf : f_X5_readEach_j47 rA μ = some r) (hK : FinR G C (F_X5_readEach k) none none r) : V G C (F_X5_readEach k) 47 [none, none, none] [] (pic G μ) n 0 0 := by
  unfold f_X5_readEach_j47 at hf
  cases hf
  exact R_v hK d_X5_readEach_47 (Nat.le_of_ble_eq_true rfl) (Nat.le_of_ble_eq_true rfl)
theorem s_X5_readEach_l7 {G : Gl} (hG : G.1.stackTraces = false) {k : Nat} {rA : Mem → Int32 → Option Mem} (hA : ∀ {μ9 : Mem} {q0 : Int32} {q : Mem}, rA μ9 q0 = some q → Rt G yX5_readAtom (F_X5_readAtom k) none [.ref (G.2.1 + 73), .int q0] μ9 none q) {C : Cx} {n : Nat} {μ : Mem} {l1 : Int32} {l2 : Int32} {r : Mem} (hf : f_X5_readEach_l7 rA μ l1 l2 = some r) (hK : FinR G C (F_X5_readEach k) none none r) : V G C (F_X5_readEach k) 7 [some (.ref (G.2.1 + 73)), some (.int l1), some (.int l2)] [] (pic G μ) n 0 0 := by
  unfold f_X5_readEach_l7 at hf
  obtain ⟨t, hl, hf⟩ := ob hf
  refine loopV (P := fun z => ∀ n, V G C (F_X5_readEach k) 7 [some (.ref (G.2.1 + 73)), some (.int l1), some (.int z.1)] [] (pic G z.2) n 0 0) (t := t) ?_ _ _ hl n
  intro z y' hy hI hT n
  refine s_X5_readEach_b7 hG hA hy ⟨hI, fun x9 ex => ?_⟩
  have ex2 := hT x9 ex
  subst ex2
  intro n
  exact s_X5_readEach_j47 hG hA hf hK
theorem s_X5_readEach_e {G : Gl} (hG : G.1.stackTraces = false) {k : Nat} {rA : Mem → Int32 → Option Mem} (hA : ∀ {μ9 : Mem} {q0 : Int32} {q : Mem}, rA μ9 q0 = some q → Rt G yX5_readAtom (F_X5_readAtom k) none [.ref (G.2.1 + 73), .int q0] μ9 none q) {C : Cx} {n : Nat} {μ : Mem} {p1 : Int32} {r : Mem} (hf : f_X5_readEach rA μ p1 = some r) (hK : FinR G C (F_X5_readEach k) none none r) : V G C (F_X5_readEach k) 0 [some (.ref (G.2.1 + 73)), some (.int p1), none] [] (pic G μ) n 0 0 := by
  unfold f_X5_readEach at hf
  refine V_aload_n d_X5_readEach_0 rfl rfl ?_
  refine V_iload_n d_X5_readEach_1 rfl rfl ?_
  obtain ⟨q1, hq1, hf⟩ := ob hf
  refine B_callV0 (hA hq1) k_73 clX5 m_X5_readAtom kv_RX5_67 d_X5_readEach_2 rfl (Nat.le_of_ble_eq_true rfl) ⟨rfl, rfl, Nat.le_of_ble_eq_true rfl, Nat.le_of_ble_eq_true rfl, (show (10 + 3 * k : Nat) < 11 + 3 * k by omega)⟩ (fun n => ?_)
  refine V_iconst (v := 0) d_X5_readEach_5 ic_0 ?_
  refine V_istore_n (ls' := [_, _, _]) d_X5_readEach_6 rfl rfl rfl ?_
  refine V_less (ls' := [some _, some _, some _]) ⟨rfl, rfl, rfl, trivial⟩ ?_
  exact s_X5_readEach_l7 hG hA hf hK
theorem s_X5_readEach {G : Gl} (hG : G.1.stackTraces = false) {k : Nat} {rA : Mem → Int32 → Option Mem} (hA : ∀ {μ9 : Mem} {q0 : Int32} {q : Mem}, rA μ9 q0 = some q → Rt G yX5_readAtom (F_X5_readAtom k) none [.ref (G.2.1 + 73), .int q0] μ9 none q) {μ : Mem} {p1 : Int32} {r : Mem} (hf : f_X5_readEach rA μ p1 = some r) : Rt G yX5_readEach (F_X5_readEach k) none [.ref (G.2.1 + 73), .int p1] μ none r := fun n => Sd.of hG ⟨by decide +kernel, rfl, rfl⟩ rfl (Nat.le_of_ble_eq_true rfl) rfl (fun C hK => s_X5_readEach_e hG hA hf hK)
theorem d_X5_readAny_0 : decode cX5_readAny 0 = .ok (.aload_n 0, 1) := by decide +kernel
theorem d_X5_readAny_1 : decode cX5_readAny 1 = .ok (.iload_n 1, 1) := by decide +kernel
theorem d_X5_readAny_2 : decode cX5_readAny 2 = .ok (.invokevirtual 59, 3) := by decide +kernel
theorem d_X5_readAny_5 : decode cX5_readAny 5 = .ok (.iconst 0, 1) := by decide +kernel
theorem d_X5_readAny_6 : decode cX5_readAny 6 = .ok (.istore_n 2, 1) := by decide +kernel
theorem d_X5_readAny_7 : decode cX5_readAny 7 = .ok (.iload_n 2, 1) := by decide +kernel
theorem d_X5_readAny_8 : decode cX5_readAny 8 = .ok (.sipush 400, 3) := by decide +kernel
theorem d_X5_readAny_11 : decode cX5_readAny 11 = .ok (.if_icmp .ge 36, 3) := by decide +kernel
theorem d_X5_readAny_14 : decode cX5_readAny 14 = .ok (.aload_n 0, 1) := by decide +kernel
theorem d_X5_readAny_15 : decode cX5_readAny 15 = .ok (.getfield 19, 3) := by decide +kernel
theorem d_X5_readAny_18 : decode cX5_readAny 18 = .ok (.ldc 62, 2) := by decide +kernel
theorem d_X5_readAny_20 : decode cX5_readAny 20 = .ok (.invokevirtual 37, 3) := by decide +kernel
theorem d_X5_readAny_23 : decode cX5_readAny 23 = .ok (.ifCond .eq 24, 3) := by decide +kernel
theorem d_X5_readAny_26 : decode cX5_readAny 26 = .ok (.aload_n 0, 1) := by decide +kernel
theorem d_X5_readAny_27 : decode cX5_readAny 27 = .ok (.iload_n 1, 1) := by decide +kernel
theorem d_X5_readAny_28 : decode cX5_readAny 28 = .ok (.invokevirtual 59, 3) := by decide +kernel
theorem d_X5_readAny_31 : decode cX5_readAny 31 = .ok (.aload_n 0, 1) := by decide +kernel
theorem d_X5_readAny_32 : decode cX5_readAny 32 = .ok (.getfield 9, 3) := by decide +kernel
theorem d_X5_readAny_35 : decode cX5_readAny 35 = .ok (.sipush 1014, 3) := by decide +kernel
theorem d_X5_readAny_38 : decode cX5_readAny 38 = .ok (.invokevirtual 64, 3) := by decide +kernel
theorem d_X5_readAny_41 : decode cX5_readAny 41 = .ok (.iinc 2 1, 3) := by decide +kernel
theorem d_X5_readAny_44 : decode cX5_readAny 44 = .ok (.goto (-37), 3) := by decide +kernel
theorem d_X5_readAny_47 : decode cX5_readAny 47 = .ok (.return_, 1) := by decide +kernel
theorem s_X5_readAny_b7 {G : Gl} (hG : G.1.stackTraces = false) {k : Nat} {rA : Mem → Int32 → Option Mem} (hA : ∀ {μ9 : Mem} {q0 : Int32} {q : Mem}, rA μ9 q0 = some q → Rt G yX5_readAtom (F_X5_readAtom k) none [.ref (G.2.1 + 73), .int q0] μ9 none q) {C : Cx} {n : Nat} {μ : Mem} {l1 : Int32} {l2 : Int32} {y : ((Int32 × Mem) ⊕ Mem)} (hf : f_X5_readAny_b7 rA μ l1 l2 = some y) (hK : (∀ z', y = .inl z' → ∀ n, V G C (F_X5_readAny k) 7 [some (.ref (G.2.1 + 73)), some (.int l1), some (.int z'.1)] [] (pic G z'.2) n 0 0) ∧ (∀ x', y = .inr x' → ∀ n, V G C (F_X5_readAny k) 47 [none, none, none] [] (pic G x') n 0 0)) : V G C (F_X5_readAny k) 7 [some (.ref (G.2.1 + 73)), some (.int l1), some (.int l2)] [] (pic G μ) n 0 0 := by
  unfold f_X5_readAny_b7 at hf
  refine V_iload_n d_X5_readAny_7 rfl rfl ?_
  refine V_sipush (v := 400) d_X5_readAny_8 sp_400 ?_
  refine V_icmp_ge (tgt := 47) d_X5_readAny_11 (by decide) (fun c11 => ?_) (fun c11 => ?_)
  · replace hf := iteT c11 hf
    refine V_less (ls' := [none, none, none]) trivial ?_
    cases hf
    exact hK.2 _ rfl _
  · replace hf := iteF c11 hf
    refine V_aload_n d_X5_readAny_14 rfl rfl ?_
    refine B_get k_73 fl_RX5_19 d_X5_readAny_15 g_5_0 ?_
    refine V_ldcS (i := 17) d_X5_readAny_18 sT_RX5_62 ?_
    obtain ⟨q1, hq1, hf⟩ := ob hf
    refine B_callV1 (s_X8_takesWord hG sS_17 hq1) k_1 clX8 m_X8_takesWord kv_RX5_37 d_X5_readAny_20 rfl (Nat.le_of_ble_eq_true rfl) ⟨rfl, rfl, Nat.le_of_ble_eq_true rfl, Nat.le_of_ble_eq_true rfl, (show (6 : Nat) < 12 + 3 * k by omega)⟩ (fun n => ?_)
    refine V_if_eq (tgt := 47) d_X5_readAny_23 (by decide) (fun c23 => ?_) (fun c23 => ?_)
    · replace hf := iteF (b2i_nt (b2i_eq0 c23)) hf
      refine V_less (ls' := [none, none, none]) trivial ?_
      cases hf
      exact hK.2 _ rfl _
    · replace hf := iteT (b2i_ne0 c23) hf
      refine V_aload_n d_X5_readAny_26 rfl rfl ?_
      refine V_iload_n d_X5_readAny_27 rfl rfl ?_
      obtain ⟨q2, hq2, hf⟩ := ob hf
      refine B_callV0 (s_X5_readEach hG hA hq2) k_73 clX5 m_X5_readEach kv_RX5_59 d_X5_readAny_28 rfl (Nat.le_of_ble_eq_true rfl) ⟨rfl, rfl, Nat.le_of_ble_eq_true rfl, Nat.le_of_ble_eq_true rfl, (show (11 + 3 * k : Nat) < 12 + 3 * k by omega)⟩ (fun n => ?_)
      refine V_aload_n d_X5_readAny_31 rfl rfl ?_
      refine B_get k_73 fl_RX5_9 d_X5_readAny_32 g_5_2 ?_
      refine V_sipush (v := 1014) d_X5_readAny_35 sp_1014 ?_
      obtain ⟨q3, hq3, hf⟩ := ob hf
      refine B_callV0 (s_X4_addStep hG W_56 hq3) k_56 clX4 m_X4_addStep kv_RX5_64 d_X5_readAny_38 rfl (Nat.le_of_ble_eq_true rfl) ⟨rfl, rfl, Nat.le_of_ble_eq_true rfl, Nat.le_of_ble_eq_true rfl, (show (1 : Nat) < 12 + 3 * k by omega)⟩ (fun n => ?_)
      refine V_iinc (v := (l2 + 1)) (ls' := [_, _, _]) d_X5_readAny_41 rfl (by rw [ic_1]) rfl ?_
      refine V_goto (tgt := 7) d_X5_readAny_44 (by decide) ?_
      refine V_less (ls' := [some _, some _, some _]) ⟨rfl, rfl, rfl, trivial⟩ ?_
      cases hf
      exact hK.1 _ rfl _
theorem s_X5_readAny_j47 {G : Gl} (hG : G.1.stackTraces = false) {k : Nat} {rA : Mem → Int32 → Option Mem} (hA : ∀ {μ9 : Mem} {q0 : Int32} {q : Mem}, rA μ9 q0 = some q → Rt G yX5_readAtom (F_X5_readAtom k) none [.ref (G.2.1 + 73), .int q0] μ9 none q) {C : Cx} {n : Nat} {μ : Mem}  {r : Mem} (hf : f_X5_readAny_j47 rA μ = some r) (hK : FinR G C (F_X5_readAny k) none none r) : V G C (F_X5_readAny k) 47 [none, none, none] [] (pic G μ) n 0 0 := by
  unfold f_X5_readAny_j47 at hf
  cases hf
  exact R_v hK d_X5_readAny_47 (Nat.le_of_ble_eq_true rfl) (Nat.le_of_ble_eq_true rfl)
theorem s_X5_readAny_l7 {G : Gl} (hG : G.1.stackTraces = false) {k : Nat} {rA : Mem → Int32 → Option Mem} (hA : ∀ {μ9 : Mem} {q0 : Int32} {q : Mem}, rA μ9 q0 = some q → Rt G yX5_readAtom (F_X5_readAtom k) none [.ref (G.2.1 + 73), .int q0] μ9 none q) {C : Cx} {n : Nat} {μ : Mem} {l1 : Int32} {l2 : Int32} {r : Mem} (hf : f_X5_readAny_l7 rA μ l1 l2 = some r) (hK : FinR G C (F_X5_readAny k) none none r) : V G C (F_X5_readAny k) 7 [some (.ref (G.2.1 + 73)), some (.int l1), some (.int l2)] [] (pic G μ) n 0 0 := by
  unfold f_X5_readAny_l7 at hf
  obtain ⟨t, hl, hf⟩ := ob hf
  refine loopV (P := fun z => ∀ n, V G C (F_X5_readAny k) 7 [some (.ref (G.2.1 + 73)), some (.int l1), some (.int z.1)] [] (pic G z.2) n 0 0) (t := t) ?_ _ _ hl n
  intro z y' hy hI hT n
  refine s_X5_readAny_b7 hG hA hy ⟨hI, fun x9 ex => ?_⟩
  have ex2 := hT x9 ex
  subst ex2
  intro n
  exact s_X5_readAny_j47 hG hA hf hK
theorem s_X5_readAny_e {G : Gl} (hG : G.1.stackTraces = false) {k : Nat} {rA : Mem → Int32 → Option Mem} (hA : ∀ {μ9 : Mem} {q0 : Int32} {q : Mem}, rA μ9 q0 = some q → Rt G yX5_readAtom (F_X5_readAtom k) none [.ref (G.2.1 + 73), .int q0] μ9 none q) {C : Cx} {n : Nat} {μ : Mem} {p1 : Int32} {r : Mem} (hf : f_X5_readAny rA μ p1 = some r) (hK : FinR G C (F_X5_readAny k) none none r) : V G C (F_X5_readAny k) 0 [some (.ref (G.2.1 + 73)), some (.int p1), none] [] (pic G μ) n 0 0 := by
  unfold f_X5_readAny at hf
  refine V_aload_n d_X5_readAny_0 rfl rfl ?_
  refine V_iload_n d_X5_readAny_1 rfl rfl ?_
  obtain ⟨q1, hq1, hf⟩ := ob hf
  refine B_callV0 (s_X5_readEach hG hA hq1) k_73 clX5 m_X5_readEach kv_RX5_59 d_X5_readAny_2 rfl (Nat.le_of_ble_eq_true rfl) ⟨rfl, rfl, Nat.le_of_ble_eq_true rfl, Nat.le_of_ble_eq_true rfl, (show (11 + 3 * k : Nat) < 12 + 3 * k by omega)⟩ (fun n => ?_)
  refine V_iconst (v := 0) d_X5_readAny_5 ic_0 ?_
  refine V_istore_n (ls' := [_, _, _]) d_X5_readAny_6 rfl rfl rfl ?_
  refine V_less (ls' := [some _, some _, some _]) ⟨rfl, rfl, rfl, trivial⟩ ?_
  exact s_X5_readAny_l7 hG hA hf hK
theorem s_X5_readAny {G : Gl} (hG : G.1.stackTraces = false) {k : Nat} {rA : Mem → Int32 → Option Mem} (hA : ∀ {μ9 : Mem} {q0 : Int32} {q : Mem}, rA μ9 q0 = some q → Rt G yX5_readAtom (F_X5_readAtom k) none [.ref (G.2.1 + 73), .int q0] μ9 none q) {μ : Mem} {p1 : Int32} {r : Mem} (hf : f_X5_readAny rA μ p1 = some r) : Rt G yX5_readAny (F_X5_readAny k) none [.ref (G.2.1 + 73), .int p1] μ none r := fun n => Sd.of hG ⟨by decide +kernel, rfl, rfl⟩ rfl (Nat.le_of_ble_eq_true rfl) rfl (fun C hK => s_X5_readAny_e hG hA hf hK)
theorem d_X8_takesSign_0 : decode cX8_takesSign 0 = .ok (.aload_n 0, 1) := by decide +kernel
theorem d_X8_takesSign_1 : decode cX8_takesSign 1 = .ok (.getfield 25, 3) := by decide +kernel
theorem d_X8_takesSign_4 : decode cX8_takesSign 4 = .ok (.iconst (-1), 1) := by decide +kernel
theorem d_X8_takesSign_5 : decode cX8_takesSign 5 = .ok (.if_icmp .ne 27, 3) := by decide +kernel
theorem d_X8_takesSign_8 : decode cX8_takesSign 8 = .ok (.aload_n 0, 1) := by decide +kernel
theorem d_X8_takesSign_9 : decode cX8_takesSign 9 = .ok (.getfield 22, 3) := by decide +kernel
theorem d_X8_takesSign_12 : decode cX8_takesSign 12 = .ok (.aload_n 0, 1) := by decide +kernel
theorem d_X8_takesSign_13 : decode cX8_takesSign 13 = .ok (.getfield 19, 3) := by decide +kernel
theorem d_X8_takesSign_16 : decode cX8_takesSign 16 = .ok (.if_icmp .ge 16, 3) := by decide +kernel
theorem d_X8_takesSign_19 : decode cX8_takesSign 19 = .ok (.aload_n 0, 1) := by decide +kernel
theorem d_X8_takesSign_20 : decode cX8_takesSign 20 = .ok (.getfield 9, 3) := by decide +kernel
theorem d_X8_takesSign_23 : decode cX8_takesSign 23 = .ok (.aload_n 0, 1) := by decide +kernel
theorem d_X8_takesSign_24 : decode cX8_takesSign 24 = .ok (.getfield 22, 3) := by decide +kernel
theorem d_X8_takesSign_27 : decode cX8_takesSign 27 = .ok (.iaload, 1) := by decide +kernel
theorem d_X8_takesSign_28 : decode cX8_takesSign 28 = .ok (.iload_n 1, 1) := by decide +kernel
theorem d_X8_takesSign_29 : decode cX8_takesSign 29 = .ok (.if_icmp .eq 5, 3) := by decide +kernel
theorem d_X8_takesSign_32 : decode cX8_takesSign 32 = .ok (.iconst 0, 1) := by decide +kernel
theorem d_X8_takesSign_33 : decode cX8_takesSign 33 = .ok (.ireturn, 1) := by decide +kernel
theorem d_X8_takesSign_34 : decode cX8_takesSign 34 = .ok (.aload_n 0, 1) := by decide +kernel
theorem d_X8_takesSign_35 : decode cX8_takesSign 35 = .ok (.aload_n 0, 1) := by decide +kernel
theorem d_X8_takesSign_36 : decode cX8_takesSign 36 = .ok (.getfield 22, 3) := by decide +kernel
theorem d_X8_takesSign_39 : decode cX8_takesSign 39 = .ok (.iconst 1, 1) := by decide +kernel
theorem d_X8_takesSign_40 : decode cX8_takesSign 40 = .ok (.iadd, 1) := by decide +kernel
theorem d_X8_takesSign_41 : decode cX8_takesSign 41 = .ok (.invokevirtual 32, 3) := by decide +kernel
theorem d_X8_takesSign_44 : decode cX8_takesSign 44 = .ok (.iconst 1, 1) := by decide +kernel
theorem d_X8_takesSign_45 : decode cX8_takesSign 45 = .ok (.ireturn, 1) := by decide +kernel
theorem s_X8_takesSign_j32 {G : Gl} (hG : G.1.stackTraces = false) {C : Cx} {n : Nat} {μ : Mem}  {r : (Bool × Mem)} (hf : f_X8_takesSign_j32 μ = some r) (hK : FinR G C F_X8_takesSign (some .boolean) (some (.int (b2i r.1))) r.2) : V G C F_X8_takesSign 32 [none, none] [] (pic G μ) n 0 0 := by
  unfold f_X8_takesSign_j32 at hf
  refine V_iconst (v := 0) d_X8_takesSign_32 ic_0 ?_
  cases hf
  exact R_z hK d_X8_takesSign_33 (Nat.le_of_ble_eq_true rfl) (Nat.le_of_ble_eq_true rfl)
theorem s_X8_takesSign_e {G : Gl} (hG : G.1.stackTraces = false) {C : Cx} {n : Nat} {μ : Mem} {p1 : Int32} {r : (Bool × Mem)} (hf : f_X8_takesSign μ p1 = some r) (hK : FinR G C F_X8_takesSign (some .boolean) (some (.int (b2i r.1))) r.2) : V G C F_X8_takesSign 0 [some (.ref (G.2.1 + 1)), some (.int p1)] [] (pic G μ) n 0 0 := by
  unfold f_X8_takesSign at hf
  refine V_aload_n d_X8_takesSign_0 rfl rfl ?_
  refine B_get k_1 fl_RX8_25 d_X8_takesSign_1 g_8_4 ?_
  refine V_iconst (v := (-1)) d_X8_takesSign_4 ic_m1 ?_
  refine V_icmp_ne (tgt := 32) d_X8_takesSign_5 (by decide) (fun c5 => ?_) (fun c5 => ?_)
  · replace hf := iteF c5 hf
    refine V_less (ls' := [none, none]) trivial ?_
    exact s_X8_takesSign_j32 hG hf hK
  · replace hf := iteT c5 hf
    refine V_aload_n d_X8_takesSign_8 rfl rfl ?_
    refine B_get k_1 fl_RX8_22 d_X8_takesSign_9 g_8_3 ?_
    refine V_aload_n d_X8_takesSign_12 rfl rfl ?_
    refine B_get k_1 fl_RX8_19 d_X8_takesSign_13 g_8_2 ?_
    refine V_icmp_ge (tgt := 32) d_X8_takesSign_16 (by decide) (fun c16 => ?_) (fun c16 => ?_)
    · replace hf := iteT c16 hf
      refine V_less (ls' := [none, none]) trivial ?_
      exact s_X8_takesSign_j32 hG hf hK
    · replace hf := iteF c16 hf
      refine V_aload_n d_X8_takesSign_19 rfl rfl ?_
      refine B_get k_1 fl_RX8_9 d_X8_takesSign_20 g_8_0 ?_
      refine V_aload_n d_X8_takesSign_23 rfl rfl ?_
      refine B_get k_1 fl_RX8_22 d_X8_takesSign_24 g_8_3 ?_
      obtain ⟨t1, ht1, hf⟩ := ob hf
      refine B_iald k_2 ht1 d_X8_takesSign_27 ?_
      refine V_iload_n d_X8_takesSign_28 rfl rfl ?_
      refine V_icmp_eq (tgt := 34) d_X8_takesSign_29 (by decide) (fun c29 => ?_) (fun c29 => ?_)
      · replace hf := iteT c29 hf
        refine V_aload_n d_X8_takesSign_34 rfl rfl ?_
        refine V_aload_n d_X8_takesSign_35 rfl rfl ?_
        refine B_get k_1 fl_RX8_22 d_X8_takesSign_36 g_8_3 ?_
        refine V_iconst (v := 1) d_X8_takesSign_39 ic_1 ?_
        refine V_iadd d_X8_takesSign_40 ?_
        obtain ⟨q2, hq2, hf⟩ := ob hf
        refine B_callV0 (s_X8_moveTo hG hq2) k_1 clX8 m_X8_moveTo kv_RX8_32 d_X8_takesSign_41 rfl (Nat.le_of_ble_eq_true rfl) ⟨rfl, rfl, Nat.le_of_ble_eq_true rfl, Nat.le_of_ble_eq_true rfl, Nat.le_of_ble_eq_true rfl⟩ (fun n => ?_)
        refine V_iconst (v := 1) d_X8_takesSign_44 ic_1 ?_
        cases hf
        exact R_z hK d_X8_takesSign_45 (Nat.le_of_ble_eq_true rfl) (Nat.le_of_ble_eq_true rfl)
      · replace hf := iteF c29 hf
        refine V_less (ls' := [none, none]) trivial ?_
        exact s_X8_takesSign_j32 hG hf hK
theorem s_X8_takesSign {G : Gl} (hG : G.1.stackTraces = false) {μ : Mem} {p1 : Int32} {r : (Bool × Mem)} (hf : f_X8_takesSign μ p1 = some r) : Rt G yX8_takesSign F_X8_takesSign (some .boolean) [.ref (G.2.1 + 1), .int p1] μ (some (.int (b2i r.1))) r.2 := fun n => Sd.of hG ⟨by decide +kernel, rfl, rfl⟩ rfl (Nat.le_of_ble_eq_true rfl) rfl (fun C hK => s_X8_takesSign_e hG hf hK)
theorem d_X8_needSign_0 : decode cX8_needSign 0 = .ok (.aload_n 0, 1) := by decide +kernel
theorem d_X8_needSign_1 : decode cX8_needSign 1 = .ok (.iload_n 1, 1) := by decide +kernel
theorem d_X8_needSign_2 : decode cX8_needSign 2 = .ok (.invokevirtual 55, 3) := by decide +kernel
theorem d_X8_needSign_5 : decode cX8_needSign 5 = .ok (.ifCond .ne 11, 3) := by decide +kernel
theorem d_X8_needSign_8 : decode cX8_needSign 8 = .ok (.aload_n 0, 1) := by decide +kernel
theorem d_X8_needSign_9 : decode cX8_needSign 9 = .ok (.aload_n 0, 1) := by decide +kernel
theorem d_X8_needSign_10 : decode cX8_needSign 10 = .ok (.getfield 22, 3) := by decide +kernel
theorem d_X8_needSign_13 : decode cX8_needSign 13 = .ok (.invokevirtual 52, 3) := by decide +kernel
theorem d_X8_needSign_16 : decode cX8_needSign 16 = .ok (.return_, 1) := by decide +kernel
theorem s_X8_needSign_j16 {G : Gl} (hG : G.1.stackTraces = false) {C : Cx} {n : Nat} {μ : Mem}  {r : Mem} (hf : f_X8_needSign_j16 μ = some r) (hK : FinR G C F_X8_needSign none none r) : V G C F_X8_needSign 16 [none, none] [] (pic G μ) n 0 0 := by
  unfold f_X8_needSign_j16 at hf
  cases hf
  exact R_v hK d_X8_needSign_16 (Nat.le_of_ble_eq_true rfl) (Nat.le_of_ble_eq_true rfl)
theorem s_X8_needSign_e {G : Gl} (hG : G.1.stackTraces = false) {C : Cx} {n : Nat} {μ : Mem} {p1 : Int32} {r : Mem} (hf : f_X8_needSign μ p1 = some r) (hK : FinR G C F_X8_needSign none none r) : V G C F_X8_needSign 0 [some (.ref (G.2.1 + 1)), some (.int p1)] [] (pic G μ) n 0 0 := by
  unfold f_X8_needSign at hf
  refine V_aload_n d_X8_needSign_0 rfl rfl ?_
  refine V_iload_n d_X8_needSign_1 rfl rfl ?_
  obtain ⟨q1, hq1, hf⟩ := ob hf
  refine B_callV1 (s_X8_takesSign hG hq1) k_1 clX8 m_X8_takesSign kv_RX8_55 d_X8_needSign_2 rfl (Nat.le_of_ble_eq_true rfl) ⟨rfl, rfl, Nat.le_of_ble_eq_true rfl, Nat.le_of_ble_eq_true rfl, Nat.le_of_ble_eq_true rfl⟩ (fun n => ?_)
  refine V_if_ne (tgt := 16) d_X8_needSign_5 (by decide) (fun c5 => ?_) (fun c5 => ?_)
  · replace hf := iteT (b2i_ne0 c5) hf
    refine V_less (ls' := [none, none]) trivial ?_
    exact s_X8_needSign_j16 hG hf hK
  · replace hf := iteF (b2i_nt (b2i_eq0 c5)) hf
    refine V_aload_n d_X8_needSign_8 rfl rfl ?_
    refine V_aload_n d_X8_needSign_9 rfl rfl ?_
    refine B_get k_1 fl_RX8_22 d_X8_needSign_10 g_8_3 ?_
    obtain ⟨q2, hq2, hf⟩ := ob hf
    refine B_callV0 (s_X8_refuse hG hq2) k_1 clX8 m_X8_refuse kv_RX8_52 d_X8_needSign_13 rfl (Nat.le_of_ble_eq_true rfl) ⟨rfl, rfl, Nat.le_of_ble_eq_true rfl, Nat.le_of_ble_eq_true rfl, Nat.le_of_ble_eq_true rfl⟩ (fun n => ?_)
    refine V_less (ls' := [none, none]) trivial ?_
    exact s_X8_needSign_j16 hG hf hK
theorem s_X8_needSign {G : Gl} (hG : G.1.stackTraces = false) {μ : Mem} {p1 : Int32} {r : Mem} (hf : f_X8_needSign μ p1 = some r) : Rt G yX8_needSign F_X8_needSign none [.ref (G.2.1 + 1), .int p1] μ none r := fun n => Sd.of hG ⟨by decide +kernel, rfl, rfl⟩ rfl (Nat.le_of_ble_eq_true rfl) rfl (fun C hK => s_X8_needSign_e hG hf hK)
theorem d_X8_isAtNumber_0 : decode cX8_isAtNumber 0 = .ok (.aload_n 0, 1) := by decide +kernel
theorem d_X8_isAtNumber_1 : decode cX8_isAtNumber 1 = .ok (.bipush 48, 2) := by decide +kernel
theorem d_X8_isAtNumber_3 : decode cX8_isAtNumber 3 = .ok (.bipush 57, 2) := by decide +kernel
theorem d_X8_isAtNumber_5 : decode cX8_isAtNumber 5 = .ok (.invokevirtual 36, 3) := by decide +kernel
theorem d_X8_isAtNumber_8 : decode cX8_isAtNumber 8 = .ok (.ifCond .le 7, 3) := by decide +kernel
theorem d_X8_isAtNumber_11 : decode cX8_isAtNumber 11 = .ok (.iconst 1, 1) := by decide +kernel
theorem d_X8_isAtNumber_12 : decode cX8_isAtNumber 12 = .ok (.goto 4, 3) := by decide +kernel
theorem d_X8_isAtNumber_15 : decode cX8_isAtNumber 15 = .ok (.iconst 0, 1) := by decide +kernel
theorem d_X8_isAtNumber_16 : decode cX8_isAtNumber 16 = .ok (.ireturn, 1) := by decide +kernel
theorem s_X8_isAtNumber_e {G : Gl} (hG : G.1.stackTraces = false) {C : Cx} {n : Nat} {μ : Mem}  {r : Bool} (hf : f_X8_isAtNumber μ = some r) (hK : FinR G C F_X8_isAtNumber (some .boolean) (some (.int (b2i r))) μ) : V G C F_X8_isAtNumber 0 [some (.ref (G.2.1 + 1))] [] (pic G μ) n 0 0 := by
  unfold f_X8_isAtNumber at hf
  refine V_aload_n d_X8_isAtNumber_0 rfl rfl ?_
  refine V_bipush (v := 48) d_X8_isAtNumber_1 bp_48 ?_
  refine V_bipush (v := 57) d_X8_isAtNumber_3 bp_57 ?_
  obtain ⟨t1, ht1, hf⟩ := ob hf
  refine B_callV1 (s_X8_runOf hG ht1) k_1 clX8 m_X8_runOf kv_RX8_36 d_X8_isAtNumber_5 rfl (Nat.le_of_ble_eq_true rfl) ⟨rfl, rfl, Nat.le_of_ble_eq_true rfl, Nat.le_of_ble_eq_true rfl, Nat.le_of_ble_eq_true rfl⟩ (fun n => ?_)
  have hJj2 : ∀ j2 : Bool, j2 = (if t1 ≤ 0 then (false : Bool) else true) → V G C F_X8_isAtNumber 16 [none] [.int (b2i j2)] (pic G μ) n 0 0 := by
    intro j2 ej2
    subst ej2
    cases hf
    exact R_z hK d_X8_isAtNumber_16 (Nat.le_of_ble_eq_true rfl) (Nat.le_of_ble_eq_true rfl)
  refine V_if_le (tgt := 15) d_X8_isAtNumber_8 (by decide) (fun c8 => ?_) (fun c8 => ?_)
  · refine V_iconst (v := 0) d_X8_isAtNumber_15 ic_0 ?_
    refine V_less (ls' := [none]) trivial ?_
    exact hJj2 false (by rw [if_pos c8])
  · refine V_iconst (v := 1) d_X8_isAtNumber_11 ic_1 ?_
    refine V_goto (tgt := 16) d_X8_isAtNumber_12 (by decide) ?_
    refine V_less (ls' := [none]) trivial ?_
    exact hJj2 true (by rw [if_neg c8])
theorem s_X8_isAtNumber {G : Gl} (hG : G.1.stackTraces = false) {μ : Mem} {r : Bool} (hf : f_X8_isAtNumber μ = some r) : Rt G yX8_isAtNumber F_X8_isAtNumber (some .boolean) [.ref (G.2.1 + 1)] μ (some (.int (b2i r))) μ := fun n => Sd.of hG ⟨by decide +kernel, rfl, rfl⟩ rfl (Nat.le_of_ble_eq_true rfl) rfl (fun C hK => s_X8_isAtNumber_e hG hf hK)
theorem d_X5_readPart_0 : decode cX5_readPart 0 = .ok (.aload_n 0, 1) := by decide +kernel
theorem d_X5_readPart_1 : decode cX5_readPart 1 = .ok (.getfield 19, 3) := by decide +kernel
theorem d_X5_readPart_4 : decode cX5_readPart 4 = .ok (.invokevirtual 102, 3) := by decide +kernel
theorem d_X5_readPart_7 : decode cX5_readPart 7 = .ok (.ifCond .eq 24, 3) := by decide +kernel
theorem d_X5_readPart_10 : decode cX5_readPart 10 = .ok (.aload_n 0, 1) := by decide +kernel
theorem d_X5_readPart_11 : decode cX5_readPart 11 = .ok (.getfield 9, 3) := by decide +kernel
theorem d_X5_readPart_14 : decode cX5_readPart 14 = .ok (.aload_n 0, 1) := by decide +kernel
theorem d_X5_readPart_15 : decode cX5_readPart 15 = .ok (.getfield 19, 3) := by decide +kernel
theorem d_X5_readPart_18 : decode cX5_readPart 18 = .ok (.iconst 0, 1) := by decide +kernel
theorem d_X5_readPart_19 : decode cX5_readPart 19 = .ok (.sipush 999, 3) := by decide +kernel
theorem d_X5_readPart_22 : decode cX5_readPart 22 = .ok (.invokevirtual 23, 3) := by decide +kernel
theorem d_X5_readPart_25 : decode cX5_readPart 25 = .ok (.invokevirtual 64, 3) := by decide +kernel
theorem d_X5_readPart_28 : decode cX5_readPart 28 = .ok (.goto 192, 3) := by decide +kernel
theorem d_X5_readPart_31 : decode cX5_readPart 31 = .ok (.aload_n 0, 1) := by decide +kernel
theorem d_X5_readPart_32 : decode cX5_readPart 32 = .ok (.getfield 19, 3) := by decide +kernel
theorem d_X5_readPart_35 : decode cX5_readPart 35 = .ok (.ldc 106, 2) := by decide +kernel
theorem d_X5_readPart_37 : decode cX5_readPart 37 = .ok (.invokevirtual 37, 3) := by decide +kernel
theorem d_X5_readPart_40 : decode cX5_readPart 40 = .ok (.ifCond .eq 16, 3) := by decide +kernel
theorem d_X5_readPart_43 : decode cX5_readPart 43 = .ok (.aload_n 0, 1) := by decide +kernel
theorem d_X5_readPart_44 : decode cX5_readPart 44 = .ok (.getfield 9, 3) := by decide +kernel
theorem d_X5_readPart_47 : decode cX5_readPart 47 = .ok (.sipush 1000, 3) := by decide +kernel
theorem d_X5_readPart_50 : decode cX5_readPart 50 = .ok (.invokevirtual 64, 3) := by decide +kernel
theorem d_X5_readPart_53 : decode cX5_readPart 53 = .ok (.goto 167, 3) := by decide +kernel
theorem d_X5_readPart_56 : decode cX5_readPart 56 = .ok (.aload_n 0, 1) := by decide +kernel
theorem d_X5_readPart_57 : decode cX5_readPart 57 = .ok (.getfield 19, 3) := by decide +kernel
theorem d_X5_readPart_60 : decode cX5_readPart 60 = .ok (.ldc 108, 2) := by decide +kernel
theorem d_X5_readPart_62 : decode cX5_readPart 62 = .ok (.invokevirtual 37, 3) := by decide +kernel
theorem d_X5_readPart_65 : decode cX5_readPart 65 = .ok (.ifCond .eq 16, 3) := by decide +kernel
theorem d_X5_readPart_68 : decode cX5_readPart 68 = .ok (.aload_n 0, 1) := by decide +kernel
theorem d_X5_readPart_69 : decode cX5_readPart 69 = .ok (.getfield 9, 3) := by decide +kernel
theorem d_X5_readPart_72 : decode cX5_readPart 72 = .ok (.sipush 1001, 3) := by decide +kernel
theorem d_X5_readPart_75 : decode cX5_readPart 75 = .ok (.invokevirtual 64, 3) := by decide +kernel
theorem d_X5_readPart_78 : decode cX5_readPart 78 = .ok (.goto 142, 3) := by decide +kernel
theorem d_X5_readPart_81 : decode cX5_readPart 81 = .ok (.aload_n 0, 1) := by decide +kernel
theorem d_X5_readPart_82 : decode cX5_readPart 82 = .ok (.getfield 19, 3) := by decide +kernel
theorem d_X5_readPart_85 : decode cX5_readPart 85 = .ok (.ldc 110, 2) := by decide +kernel
theorem d_X5_readPart_87 : decode cX5_readPart 87 = .ok (.invokevirtual 37, 3) := by decide +kernel
theorem d_X5_readPart_90 : decode cX5_readPart 90 = .ok (.ifCond .eq 16, 3) := by decide +kernel
theorem d_X5_readPart_93 : decode cX5_readPart 93 = .ok (.aload_n 0, 1) := by decide +kernel
theorem d_X5_readPart_94 : decode cX5_readPart 94 = .ok (.getfield 9, 3) := by decide +kernel
theorem d_X5_readPart_97 : decode cX5_readPart 97 = .ok (.sipush 1002, 3) := by decide +kernel
theorem d_X5_readPart_100 : decode cX5_readPart 100 = .ok (.invokevirtual 64, 3) := by decide +kernel
theorem d_X5_readPart_103 : decode cX5_readPart 103 = .ok (.goto 117, 3) := by decide +kernel
theorem d_X5_readPart_106 : decode cX5_readPart 106 = .ok (.aload_n 0, 1) := by decide +kernel
theorem d_X5_readPart_107 : decode cX5_readPart 107 = .ok (.getfield 19, 3) := by decide +kernel
theorem d_X5_readPart_110 : decode cX5_readPart 110 = .ok (.ldc 112, 2) := by decide +kernel
theorem d_X5_readPart_112 : decode cX5_readPart 112 = .ok (.invokevirtual 37, 3) := by decide +kernel
theorem d_X5_readPart_115 : decode cX5_readPart 115 = .ok (.ifCond .eq 16, 3) := by decide +kernel
theorem d_X5_readPart_118 : decode cX5_readPart 118 = .ok (.aload_n 0, 1) := by decide +kernel
theorem d_X5_readPart_119 : decode cX5_readPart 119 = .ok (.getfield 9, 3) := by decide +kernel
theorem d_X5_readPart_122 : decode cX5_readPart 122 = .ok (.sipush 1003, 3) := by decide +kernel
theorem d_X5_readPart_125 : decode cX5_readPart 125 = .ok (.invokevirtual 64, 3) := by decide +kernel
theorem d_X5_readPart_128 : decode cX5_readPart 128 = .ok (.goto 92, 3) := by decide +kernel
theorem d_X5_readPart_131 : decode cX5_readPart 131 = .ok (.aload_n 0, 1) := by decide +kernel
theorem d_X5_readPart_132 : decode cX5_readPart 132 = .ok (.getfield 19, 3) := by decide +kernel
theorem d_X5_readPart_135 : decode cX5_readPart 135 = .ok (.ldc 114, 2) := by decide +kernel
theorem d_X5_readPart_137 : decode cX5_readPart 137 = .ok (.invokevirtual 37, 3) := by decide +kernel
theorem d_X5_readPart_140 : decode cX5_readPart 140 = .ok (.ifCond .eq 16, 3) := by decide +kernel
theorem d_X5_readPart_143 : decode cX5_readPart 143 = .ok (.aload_n 0, 1) := by decide +kernel
theorem d_X5_readPart_144 : decode cX5_readPart 144 = .ok (.getfield 9, 3) := by decide +kernel
theorem d_X5_readPart_147 : decode cX5_readPart 147 = .ok (.sipush 1004, 3) := by decide +kernel
theorem d_X5_readPart_150 : decode cX5_readPart 150 = .ok (.invokevirtual 64, 3) := by decide +kernel
theorem d_X5_readPart_153 : decode cX5_readPart 153 = .ok (.goto 67, 3) := by decide +kernel
theorem d_X5_readPart_156 : decode cX5_readPart 156 = .ok (.aload_n 0, 1) := by decide +kernel
theorem d_X5_readPart_157 : decode cX5_readPart 157 = .ok (.getfield 19, 3) := by decide +kernel
theorem d_X5_readPart_160 : decode cX5_readPart 160 = .ok (.ldc 116, 2) := by decide +kernel
theorem d_X5_readPart_162 : decode cX5_readPart 162 = .ok (.invokevirtual 37, 3) := by decide +kernel
theorem d_X5_readPart_165 : decode cX5_readPart 165 = .ok (.ifCond .eq 16, 3) := by decide +kernel
theorem d_X5_readPart_168 : decode cX5_readPart 168 = .ok (.aload_n 0, 1) := by decide +kernel
theorem d_X5_readPart_169 : decode cX5_readPart 169 = .ok (.getfield 9, 3) := by decide +kernel
theorem d_X5_readPart_172 : decode cX5_readPart 172 = .ok (.sipush 1005, 3) := by decide +kernel
theorem d_X5_readPart_175 : decode cX5_readPart 175 = .ok (.invokevirtual 64, 3) := by decide +kernel
theorem d_X5_readPart_178 : decode cX5_readPart 178 = .ok (.goto 42, 3) := by decide +kernel
theorem d_X5_readPart_181 : decode cX5_readPart 181 = .ok (.aload_n 0, 1) := by decide +kernel
theorem d_X5_readPart_182 : decode cX5_readPart 182 = .ok (.getfield 19, 3) := by decide +kernel
theorem d_X5_readPart_185 : decode cX5_readPart 185 = .ok (.ldc 118, 2) := by decide +kernel
theorem d_X5_readPart_187 : decode cX5_readPart 187 = .ok (.invokevirtual 37, 3) := by decide +kernel
theorem d_X5_readPart_190 : decode cX5_readPart 190 = .ok (.ifCond .eq 16, 3) := by decide +kernel
theorem d_X5_readPart_193 : decode cX5_readPart 193 = .ok (.aload_n 0, 1) := by decide +kernel
theorem d_X5_readPart_194 : decode cX5_readPart 194 = .ok (.getfield 9, 3) := by decide +kernel
theorem d_X5_readPart_197 : decode cX5_readPart 197 = .ok (.sipush 1006, 3) := by decide +kernel
theorem d_X5_readPart_200 : decode cX5_readPart 200 = .ok (.invokevirtual 64, 3) := by decide +kernel
theorem d_X5_readPart_203 : decode cX5_readPart 203 = .ok (.goto 17, 3) := by decide +kernel
theorem d_X5_readPart_206 : decode cX5_readPart 206 = .ok (.aload_n 0, 1) := by decide +kernel
theorem d_X5_readPart_207 : decode cX5_readPart 207 = .ok (.getfield 19, 3) := by decide +kernel
theorem d_X5_readPart_210 : decode cX5_readPart 210 = .ok (.aload_n 0, 1) := by decide +kernel
theorem d_X5_readPart_211 : decode cX5_readPart 211 = .ok (.getfield 19, 3) := by decide +kernel
theorem d_X5_readPart_214 : decode cX5_readPart 214 = .ok (.getfield 72, 3) := by decide +kernel
theorem d_X5_readPart_217 : decode cX5_readPart 217 = .ok (.invokevirtual 78, 3) := by decide +kernel
theorem d_X5_readPart_220 : decode cX5_readPart 220 = .ok (.return_, 1) := by decide +kernel
theorem s_X5_readPart_j220 {G : Gl} (hG : G.1.stackTraces = false) {C : Cx} {n : Nat} {μ : Mem}  {r : Mem} (hf : f_X5_readPart_j220 μ = some r) (hK : FinR G C F_X5_readPart none none r) : V G C F_X5_readPart 220 [none] [] (pic G μ) n 0 0 := by
  unfold f_X5_readPart_j220 at hf
  cases hf
  exact R_v hK d_X5_readPart_220 (Nat.le_of_ble_eq_true rfl) (Nat.le_of_ble_eq_true rfl)
theorem s_X5_readPart_e {G : Gl} (hG : G.1.stackTraces = false) {C : Cx} {n : Nat} {μ : Mem}  {r : Mem} (hf : f_X5_readPart μ = some r) (hK : FinR G C F_X5_readPart none none r) : V G C F_X5_readPart 0 [some (.ref (G.2.1 + 73))] [] (pic G μ) n 0 0 := by
  unfold f_X5_readPart at hf
  refine V_aload_n d_X5_readPart_0 rfl rfl ?_
  refine B_get k_73 fl_RX5_19 d_X5_readPart_1 g_5_0 ?_
  obtain ⟨t1, ht1, hf⟩ := ob hf
  refine B_callV1 (s_X8_isAtNumber hG ht1) k_1 clX8 m_X8_isAtNumber kv_RX5_102 d_X5_readPart_4 rfl (Nat.le_of_ble_eq_true rfl) ⟨rfl, rfl, Nat.le_of_ble_eq_true rfl, Nat.le_of_ble_eq_true rfl, Nat.le_of_ble_eq_true rfl⟩ (fun n => ?_)
  refine V_if_eq (tgt := 31) d_X5_readPart_7 (by decide) (fun c7 => ?_) (fun c7 => ?_)
  · replace hf := iteF (b2i_nt (b2i_eq0 c7)) hf
    refine V_aload_n d_X5_readPart_31 rfl rfl ?_
    refine B_get k_73 fl_RX5_19 d_X5_readPart_32 g_5_0 ?_
    refine V_ldcS (i := 18) d_X5_readPart_35 sT_RX5_106 ?_
    obtain ⟨q2, hq2, hf⟩ := ob hf
    refine B_callV1 (s_X8_takesWord hG sS_18 hq2) k_1 clX8 m_X8_takesWord kv_RX5_37 d_X5_readPart_37 rfl (Nat.le_of_ble_eq_true rfl) ⟨rfl, rfl, Nat.le_of_ble_eq_true rfl, Nat.le_of_ble_eq_true rfl, Nat.le_of_ble_eq_true rfl⟩ (fun n => ?_)
    refine V_if_eq (tgt := 56) d_X5_readPart_40 (by decide) (fun c40 => ?_) (fun c40 => ?_)
    · replace hf := iteF (b2i_nt (b2i_eq0 c40)) hf
      refine V_aload_n d_X5_readPart_56 rfl rfl ?_
      refine B_get k_73 fl_RX5_19 d_X5_readPart_57 g_5_0 ?_
      refine V_ldcS (i := 19) d_X5_readPart_60 sT_RX5_108 ?_
      obtain ⟨q3, hq3, hf⟩ := ob hf
      refine B_callV1 (s_X8_takesWord hG sS_19 hq3) k_1 clX8 m_X8_takesWord kv_RX5_37 d_X5_readPart_62 rfl (Nat.le_of_ble_eq_true rfl) ⟨rfl, rfl, Nat.le_of_ble_eq_true rfl, Nat.le_of_ble_eq_true rfl, Nat.le_of_ble_eq_true rfl⟩ (fun n => ?_)
      refine V_if_eq (tgt := 81) d_X5_readPart_65 (by decide) (fun c65 => ?_) (fun c65 => ?_)
      · replace hf := iteF (b2i_nt (b2i_eq0 c65)) hf
        refine V_aload_n d_X5_readPart_81 rfl rfl ?_
        refine B_get k_73 fl_RX5_19 d_X5_readPart_82 g_5_0 ?_
        refine V_ldcS (i := 20) d_X5_readPart_85 sT_RX5_110 ?_
        obtain ⟨q4, hq4, hf⟩ := ob hf
        refine B_callV1 (s_X8_takesWord hG sS_20 hq4) k_1 clX8 m_X8_takesWord kv_RX5_37 d_X5_readPart_87 rfl (Nat.le_of_ble_eq_true rfl) ⟨rfl, rfl, Nat.le_of_ble_eq_true rfl, Nat.le_of_ble_eq_true rfl, Nat.le_of_ble_eq_true rfl⟩ (fun n => ?_)
        refine V_if_eq (tgt := 106) d_X5_readPart_90 (by decide) (fun c90 => ?_) (fun c90 => ?_)
        · replace hf := iteF (b2i_nt (b2i_eq0 c90)) hf
          refine V_aload_n d_X5_readPart_106 rfl rfl ?_
          refine B_get k_73 fl_RX5_19 d_X5_readPart_107 g_5_0 ?_
          refine V_ldcS (i := 21) d_X5_readPart_110 sT_RX5_112 ?_
          obtain ⟨q5, hq5, hf⟩ := ob hf
          refine B_callV1 (s_X8_takesWord hG sS_21 hq5) k_1 clX8 m_X8_takesWord kv_RX5_37 d_X5_readPart_112 rfl (Nat.le_of_ble_eq_true rfl) ⟨rfl, rfl, Nat.le_of_ble_eq_true rfl, Nat.le_of_ble_eq_true rfl, Nat.le_of_ble_eq_true rfl⟩ (fun n => ?_)
          refine V_if_eq (tgt := 131) d_X5_readPart_115 (by decide) (fun c115 => ?_) (fun c115 => ?_)
          · replace hf := iteF (b2i_nt (b2i_eq0 c115)) hf
            refine V_aload_n d_X5_readPart_131 rfl rfl ?_
            refine B_get k_73 fl_RX5_19 d_X5_readPart_132 g_5_0 ?_
            refine V_ldcS (i := 22) d_X5_readPart_135 sT_RX5_114 ?_
            obtain ⟨q6, hq6, hf⟩ := ob hf
            refine B_callV1 (s_X8_takesWord hG sS_22 hq6) k_1 clX8 m_X8_takesWord kv_RX5_37 d_X5_readPart_137 rfl (Nat.le_of_ble_eq_true rfl) ⟨rfl, rfl, Nat.le_of_ble_eq_true rfl, Nat.le_of_ble_eq_true rfl, Nat.le_of_ble_eq_true rfl⟩ (fun n => ?_)
            refine V_if_eq (tgt := 156) d_X5_readPart_140 (by decide) (fun c140 => ?_) (fun c140 => ?_)
            · replace hf := iteF (b2i_nt (b2i_eq0 c140)) hf
              refine V_aload_n d_X5_readPart_156 rfl rfl ?_
              refine B_get k_73 fl_RX5_19 d_X5_readPart_157 g_5_0 ?_
              refine V_ldcS (i := 23) d_X5_readPart_160 sT_RX5_116 ?_
              obtain ⟨q7, hq7, hf⟩ := ob hf
              refine B_callV1 (s_X8_takesWord hG sS_23 hq7) k_1 clX8 m_X8_takesWord kv_RX5_37 d_X5_readPart_162 rfl (Nat.le_of_ble_eq_true rfl) ⟨rfl, rfl, Nat.le_of_ble_eq_true rfl, Nat.le_of_ble_eq_true rfl, Nat.le_of_ble_eq_true rfl⟩ (fun n => ?_)
              refine V_if_eq (tgt := 181) d_X5_readPart_165 (by decide) (fun c165 => ?_) (fun c165 => ?_)
              · replace hf := iteF (b2i_nt (b2i_eq0 c165)) hf
                refine V_aload_n d_X5_readPart_181 rfl rfl ?_
                refine B_get k_73 fl_RX5_19 d_X5_readPart_182 g_5_0 ?_
                refine V_ldcS (i := 24) d_X5_readPart_185 sT_RX5_118 ?_
                obtain ⟨q8, hq8, hf⟩ := ob hf
                refine B_callV1 (s_X8_takesWord hG sS_24 hq8) k_1 clX8 m_X8_takesWord kv_RX5_37 d_X5_readPart_187 rfl (Nat.le_of_ble_eq_true rfl) ⟨rfl, rfl, Nat.le_of_ble_eq_true rfl, Nat.le_of_ble_eq_true rfl, Nat.le_of_ble_eq_true rfl⟩ (fun n => ?_)
                refine V_if_eq (tgt := 206) d_X5_readPart_190 (by decide) (fun c190 => ?_) (fun c190 => ?_)
                · replace hf := iteF (b2i_nt (b2i_eq0 c190)) hf
                  refine V_aload_n d_X5_readPart_206 rfl rfl ?_
                  refine B_get k_73 fl_RX5_19 d_X5_readPart_207 g_5_0 ?_
                  refine V_aload_n d_X5_readPart_210 rfl rfl ?_
                  refine B_get k_73 fl_RX5_19 d_X5_readPart_211 g_5_0 ?_
                  refine B_getN k_1 fn_RX5_72 d_X5_readPart_214 g_8_3 ?_
                  obtain ⟨q9, hq9, hf⟩ := ob hf
                  refine B_callV0 (s_X8_refuse hG hq9) k_1 clX8 m_X8_refuse kv_RX5_78 d_X5_readPart_217 rfl (Nat.le_of_ble_eq_true rfl) ⟨rfl, rfl, Nat.le_of_ble_eq_true rfl, Nat.le_of_ble_eq_true rfl, Nat.le_of_ble_eq_true rfl⟩ (fun n => ?_)
                  refine V_less (ls' := [none]) trivial ?_
                  exact s_X5_readPart_j220 hG hf hK
                · replace hf := iteT (b2i_ne0 c190) hf
                  refine V_aload_n d_X5_readPart_193 rfl rfl ?_
                  refine B_get k_73 fl_RX5_9 d_X5_readPart_194 g_5_2 ?_
                  refine V_sipush (v := 1006) d_X5_readPart_197 sp_1006 ?_
                  obtain ⟨q10, hq10, hf⟩ := ob hf
                  refine B_callV0 (s_X4_addStep hG W_56 hq10) k_56 clX4 m_X4_addStep kv_RX5_64 d_X5_readPart_200 rfl (Nat.le_of_ble_eq_true rfl) ⟨rfl, rfl, Nat.le_of_ble_eq_true rfl, Nat.le_of_ble_eq_true rfl, Nat.le_of_ble_eq_true rfl⟩ (fun n => ?_)
                  refine V_goto (tgt := 220) d_X5_readPart_203 (by decide) ?_
                  refine V_less (ls' := [none]) trivial ?_
                  exact s_X5_readPart_j220 hG hf hK
              · replace hf := iteT (b2i_ne0 c165) hf
                refine V_aload_n d_X5_readPart_168 rfl rfl ?_
                refine B_get k_73 fl_RX5_9 d_X5_readPart_169 g_5_2 ?_
                refine V_sipush (v := 1005) d_X5_readPart_172 sp_1005 ?_
                obtain ⟨q11, hq11, hf⟩ := ob hf
                refine B_callV0 (s_X4_addStep hG W_56 hq11) k_56 clX4 m_X4_addStep kv_RX5_64 d_X5_readPart_175 rfl (Nat.le_of_ble_eq_true rfl) ⟨rfl, rfl, Nat.le_of_ble_eq_true rfl, Nat.le_of_ble_eq_true rfl, Nat.le_of_ble_eq_true rfl⟩ (fun n => ?_)
                refine V_goto (tgt := 220) d_X5_readPart_178 (by decide) ?_
                refine V_less (ls' := [none]) trivial ?_
                exact s_X5_readPart_j220 hG hf hK
            · replace hf := iteT (b2i_ne0 c140) hf
              refine V_aload_n d_X5_readPart_143 rfl rfl ?_
              refine B_get k_73 fl_RX5_9 d_X5_readPart_144 g_5_2 ?_
              refine V_sipush (v := 1004) d_X5_readPart_147 sp_1004 ?_
              obtain ⟨q12, hq12, hf⟩ := ob hf
              refine B_callV0 (s_X4_addStep hG W_56 hq12) k_56 clX4 m_X4_addStep kv_RX5_64 d_X5_readPart_150 rfl (Nat.le_of_ble_eq_true rfl) ⟨rfl, rfl, Nat.le_of_ble_eq_true rfl, Nat.le_of_ble_eq_true rfl, Nat.le_of_ble_eq_true rfl⟩ (fun n => ?_)
              refine V_goto (tgt := 220) d_X5_readPart_153 (by decide) ?_
              refine V_less (ls' := [none]) trivial ?_
              exact s_X5_readPart_j220 hG hf hK
          · replace hf := iteT (b2i_ne0 c115) hf
            refine V_aload_n d_X5_readPart_118 rfl rfl ?_
            refine B_get k_73 fl_RX5_9 d_X5_readPart_119 g_5_2 ?_
            refine V_sipush (v := 1003) d_X5_readPart_122 sp_1003 ?_
            obtain ⟨q13, hq13, hf⟩ := ob hf
            refine B_callV0 (s_X4_addStep hG W_56 hq13) k_56 clX4 m_X4_addStep kv_RX5_64 d_X5_readPart_125 rfl (Nat.le_of_ble_eq_true rfl) ⟨rfl, rfl, Nat.le_of_ble_eq_true rfl, Nat.le_of_ble_eq_true rfl, Nat.le_of_ble_eq_true rfl⟩ (fun n => ?_)
            refine V_goto (tgt := 220) d_X5_readPart_128 (by decide) ?_
            refine V_less (ls' := [none]) trivial ?_
            exact s_X5_readPart_j220 hG hf hK
        · replace hf := iteT (b2i_ne0 c90) hf
          refine V_aload_n d_X5_readPart_93 rfl rfl ?_
          refine B_get k_73 fl_RX5_9 d_X5_readPart_94 g_5_2 ?_
          refine V_sipush (v := 1002) d_X5_readPart_97 sp_1002 ?_
          obtain ⟨q14, hq14, hf⟩ := ob hf
          refine B_callV0 (s_X4_addStep hG W_56 hq14) k_56 clX4 m_X4_addStep kv_RX5_64 d_X5_readPart_100 rfl (Nat.le_of_ble_eq_true rfl) ⟨rfl, rfl, Nat.le_of_ble_eq_true rfl, Nat.le_of_ble_eq_true rfl, Nat.le_of_ble_eq_true rfl⟩ (fun n => ?_)
          refine V_goto (tgt := 220) d_X5_readPart_103 (by decide) ?_
          refine V_less (ls' := [none]) trivial ?_
          exact s_X5_readPart_j220 hG hf hK
      · replace hf := iteT (b2i_ne0 c65) hf
        refine V_aload_n d_X5_readPart_68 rfl rfl ?_
        refine B_get k_73 fl_RX5_9 d_X5_readPart_69 g_5_2 ?_
        refine V_sipush (v := 1001) d_X5_readPart_72 sp_1001 ?_
        obtain ⟨q15, hq15, hf⟩ := ob hf
        refine B_callV0 (s_X4_addStep hG W_56 hq15) k_56 clX4 m_X4_addStep kv_RX5_64 d_X5_readPart_75 rfl (Nat.le_of_ble_eq_true rfl) ⟨rfl, rfl, Nat.le_of_ble_eq_true rfl, Nat.le_of_ble_eq_true rfl, Nat.le_of_ble_eq_true rfl⟩ (fun n => ?_)
        refine V_goto (tgt := 220) d_X5_readPart_78 (by decide) ?_
        refine V_less (ls' := [none]) trivial ?_
        exact s_X5_readPart_j220 hG hf hK
    · replace hf := iteT (b2i_ne0 c40) hf
      refine V_aload_n d_X5_readPart_43 rfl rfl ?_
      refine B_get k_73 fl_RX5_9 d_X5_readPart_44 g_5_2 ?_
      refine V_sipush (v := 1000) d_X5_readPart_47 sp_1000 ?_
      obtain ⟨q16, hq16, hf⟩ := ob hf
      refine B_callV0 (s_X4_addStep hG W_56 hq16) k_56 clX4 m_X4_addStep kv_RX5_64 d_X5_readPart_50 rfl (Nat.le_of_ble_eq_true rfl) ⟨rfl, rfl, Nat.le_of_ble_eq_true rfl, Nat.le_of_ble_eq_true rfl, Nat.le_of_ble_eq_true rfl⟩ (fun n => ?_)
      refine V_goto (tgt := 220) d_X5_readPart_53 (by decide) ?_
      refine V_less (ls' := [none]) trivial ?_
      exact s_X5_readPart_j220 hG hf hK
  · replace hf := iteT (b2i_ne0 c7) hf
    refine V_aload_n d_X5_readPart_10 rfl rfl ?_
    refine B_get k_73 fl_RX5_9 d_X5_readPart_11 g_5_2 ?_
    refine V_aload_n d_X5_readPart_14 rfl rfl ?_
    refine B_get k_73 fl_RX5_19 d_X5_readPart_15 g_5_0 ?_
    refine V_iconst (v := 0) d_X5_readPart_18 ic_0 ?_
    refine V_sipush (v := 999) d_X5_readPart_19 sp_999 ?_
    obtain ⟨q17, hq17, hf⟩ := ob hf
    refine B_callV1 (s_X8_takeNumber hG hq17) k_1 clX8 m_X8_takeNumber kv_RX5_23 d_X5_readPart_22 rfl (Nat.le_of_ble_eq_true rfl) ⟨rfl, rfl, Nat.le_of_ble_eq_true rfl, Nat.le_of_ble_eq_true rfl, Nat.le_of_ble_eq_true rfl⟩ (fun n => ?_)
    obtain ⟨q18, hq18, hf⟩ := ob hf
    refine B_callV0 (s_X4_addStep hG W_56 hq18) k_56 clX4 m_X4_addStep kv_RX5_64 d_X5_readPart_25 rfl (Nat.le_of_ble_eq_true rfl) ⟨rfl, rfl, Nat.le_of_ble_eq_true rfl, Nat.le_of_ble_eq_true rfl, Nat.le_of_ble_eq_true rfl⟩ (fun n => ?_)
    refine V_goto (tgt := 220) d_X5_readPart_28 (by decide) ?_
    refine V_less (ls' := [none]) trivial ?_
    exact s_X5_readPart_j220 hG hf hK
theorem s_X5_readPart {G : Gl} (hG : G.1.stackTraces = false) {μ : Mem} {r : Mem} (hf : f_X5_readPart μ = some r) : Rt G yX5_readPart F_X5_readPart none [.ref (G.2.1 + 73)] μ none r := fun n => Sd.of hG ⟨by decide +kernel, rfl, rfl⟩ rfl (Nat.le_of_ble_eq_true rfl) rfl (fun C hK => s_X5_readPart_e hG hf hK)
theorem d_X5_readSum_0 : decode cX5_readSum 0 = .ok (.aload_n 0, 1) := by decide +kernel
theorem d_X5_readSum_1 : decode cX5_readSum 1 = .ok (.invokevirtual 99, 3) := by decide +kernel
theorem d_X5_readSum_4 : decode cX5_readSum 4 = .ok (.iconst 0, 1) := by decide +kernel
theorem d_X5_readSum_5 : decode cX5_readSum 5 = .ok (.istore_n 1, 1) := by decide +kernel
theorem d_X5_readSum_6 : decode cX5_readSum 6 = .ok (.iload_n 1, 1) := by decide +kernel
theorem d_X5_readSum_7 : decode cX5_readSum 7 = .ok (.sipush 400, 3) := by decide +kernel
theorem d_X5_readSum_10 : decode cX5_readSum 10 = .ok (.if_icmp .ge 35, 3) := by decide +kernel
theorem d_X5_readSum_13 : decode cX5_readSum 13 = .ok (.aload_n 0, 1) := by decide +kernel
theorem d_X5_readSum_14 : decode cX5_readSum 14 = .ok (.getfield 19, 3) := by decide +kernel
theorem d_X5_readSum_17 : decode cX5_readSum 17 = .ok (.bipush 43, 2) := by decide +kernel
theorem d_X5_readSum_19 : decode cX5_readSum 19 = .ok (.invokevirtual 81, 3) := by decide +kernel
theorem d_X5_readSum_22 : decode cX5_readSum 22 = .ok (.ifCond .eq 23, 3) := by decide +kernel
theorem d_X5_readSum_25 : decode cX5_readSum 25 = .ok (.aload_n 0, 1) := by decide +kernel
theorem d_X5_readSum_26 : decode cX5_readSum 26 = .ok (.invokevirtual 99, 3) := by decide +kernel
theorem d_X5_readSum_29 : decode cX5_readSum 29 = .ok (.aload_n 0, 1) := by decide +kernel
theorem d_X5_readSum_30 : decode cX5_readSum 30 = .ok (.getfield 9, 3) := by decide +kernel
theorem d_X5_readSum_33 : decode cX5_readSum 33 = .ok (.sipush 1010, 3) := by decide +kernel
theorem d_X5_readSum_36 : decode cX5_readSum 36 = .ok (.invokevirtual 64, 3) := by decide +kernel
theorem d_X5_readSum_39 : decode cX5_readSum 39 = .ok (.iinc 1 1, 3) := by decide +kernel
theorem d_X5_readSum_42 : decode cX5_readSum 42 = .ok (.goto (-36), 3) := by decide +kernel
theorem d_X5_readSum_45 : decode cX5_readSum 45 = .ok (.return_, 1) := by decide +kernel
theorem s_X5_readSum_b6 {G : Gl} (hG : G.1.stackTraces = false) {C : Cx} {n : Nat} {μ : Mem} {l1 : Int32} {y : ((Int32 × Mem) ⊕ Mem)} (hf : f_X5_readSum_b6 μ l1 = some y) (hK : (∀ z', y = .inl z' → ∀ n, V G C F_X5_readSum 6 [some (.ref (G.2.1 + 73)), some (.int z'.1)] [] (pic G z'.2) n 0 0) ∧ (∀ x', y = .inr x' → ∀ n, V G C F_X5_readSum 45 [none, none] [] (pic G x') n 0 0)) : V G C F_X5_readSum 6 [some (.ref (G.2.1 + 73)), some (.int l1)] [] (pic G μ) n 0 0 := by
  unfold f_X5_readSum_b6 at hf
  refine V_iload_n d_X5_readSum_6 rfl rfl ?_
  refine V_sipush (v := 400) d_X5_readSum_7 sp_400 ?_
  refine V_icmp_ge (tgt := 45) d_X5_readSum_10 (by decide) (fun c10 => ?_) (fun c10 => ?_)
  · replace hf := iteT c10 hf
    refine V_less (ls' := [none, none]) trivial ?_
    cases hf
    exact hK.2 _ rfl _
  · replace hf := iteF c10 hf
    refine V_aload_n d_X5_readSum_13 rfl rfl ?_
    refine B_get k_73 fl_RX5_19 d_X5_readSum_14 g_5_0 ?_
    refine V_bipush (v := 43) d_X5_readSum_17 bp_43 ?_
    obtain ⟨q1, hq1, hf⟩ := ob hf
    refine B_callV1 (s_X8_takesSign hG hq1) k_1 clX8 m_X8_takesSign kv_RX5_81 d_X5_readSum_19 rfl (Nat.le_of_ble_eq_true rfl) ⟨rfl, rfl, Nat.le_of_ble_eq_true rfl, Nat.le_of_ble_eq_true rfl, Nat.le_of_ble_eq_true rfl⟩ (fun n => ?_)
    refine V_if_eq (tgt := 45) d_X5_readSum_22 (by decide) (fun c22 => ?_) (fun c22 => ?_)
    · replace hf := iteF (b2i_nt (b2i_eq0 c22)) hf
      refine V_less (ls' := [none, none]) trivial ?_
      cases hf
      exact hK.2 _ rfl _
    · replace hf := iteT (b2i_ne0 c22) hf
      refine V_aload_n d_X5_readSum_25 rfl rfl ?_
      obtain ⟨q2, hq2, hf⟩ := ob hf
      refine B_callV0 (s_X5_readPart hG hq2) k_73 clX5 m_X5_readPart kv_RX5_99 d_X5_readSum_26 rfl (Nat.le_of_ble_eq_true rfl) ⟨rfl, rfl, Nat.le_of_ble_eq_true rfl, Nat.le_of_ble_eq_true rfl, Nat.le_of_ble_eq_true rfl⟩ (fun n => ?_)
      refine V_aload_n d_X5_readSum_29 rfl rfl ?_
      refine B_get k_73 fl_RX5_9 d_X5_readSum_30 g_5_2 ?_
      refine V_sipush (v := 1010) d_X5_readSum_33 sp_1010 ?_
      obtain ⟨q3, hq3, hf⟩ := ob hf
      refine B_callV0 (s_X4_addStep hG W_56 hq3) k_56 clX4 m_X4_addStep kv_RX5_64 d_X5_readSum_36 rfl (Nat.le_of_ble_eq_true rfl) ⟨rfl, rfl, Nat.le_of_ble_eq_true rfl, Nat.le_of_ble_eq_true rfl, Nat.le_of_ble_eq_true rfl⟩ (fun n => ?_)
      refine V_iinc (v := (l1 + 1)) (ls' := [_, _]) d_X5_readSum_39 rfl (by rw [ic_1]) rfl ?_
      refine V_goto (tgt := 6) d_X5_readSum_42 (by decide) ?_
      refine V_less (ls' := [some _, some _]) ⟨rfl, rfl, trivial⟩ ?_
      cases hf
      exact hK.1 _ rfl _
theorem s_X5_readSum_j45 {G : Gl} (hG : G.1.stackTraces = false) {C : Cx} {n : Nat} {μ : Mem}  {r : Mem} (hf : f_X5_readSum_j45 μ = some r) (hK : FinR G C F_X5_readSum none none r) : V G C F_X5_readSum 45 [none, none] [] (pic G μ) n 0 0 := by
  unfold f_X5_readSum_j45 at hf
  cases hf
  exact R_v hK d_X5_readSum_45 (Nat.le_of_ble_eq_true rfl) (Nat.le_of_ble_eq_true rfl)
theorem s_X5_readSum_l6 {G : Gl} (hG : G.1.stackTraces = false) {C : Cx} {n : Nat} {μ : Mem} {l1 : Int32} {r : Mem} (hf : f_X5_readSum_l6 μ l1 = some r) (hK : FinR G C F_X5_readSum none none r) : V G C F_X5_readSum 6 [some (.ref (G.2.1 + 73)), some (.int l1)] [] (pic G μ) n 0 0 := by
  unfold f_X5_readSum_l6 at hf
  obtain ⟨t, hl, hf⟩ := ob hf
  refine loopV (P := fun z => ∀ n, V G C F_X5_readSum 6 [some (.ref (G.2.1 + 73)), some (.int z.1)] [] (pic G z.2) n 0 0) (t := t) ?_ _ _ hl n
  intro z y' hy hI hT n
  refine s_X5_readSum_b6 hG hy ⟨hI, fun x9 ex => ?_⟩
  have ex2 := hT x9 ex
  subst ex2
  intro n
  exact s_X5_readSum_j45 hG hf hK
theorem s_X5_readSum_e {G : Gl} (hG : G.1.stackTraces = false) {C : Cx} {n : Nat} {μ : Mem}  {r : Mem} (hf : f_X5_readSum μ = some r) (hK : FinR G C F_X5_readSum none none r) : V G C F_X5_readSum 0 [some (.ref (G.2.1 + 73)), none] [] (pic G μ) n 0 0 := by
  unfold f_X5_readSum at hf
  refine V_aload_n d_X5_readSum_0 rfl rfl ?_
  obtain ⟨q1, hq1, hf⟩ := ob hf
  refine B_callV0 (s_X5_readPart hG hq1) k_73 clX5 m_X5_readPart kv_RX5_99 d_X5_readSum_1 rfl (Nat.le_of_ble_eq_true rfl) ⟨rfl, rfl, Nat.le_of_ble_eq_true rfl, Nat.le_of_ble_eq_true rfl, Nat.le_of_ble_eq_true rfl⟩ (fun n => ?_)
  refine V_iconst (v := 0) d_X5_readSum_4 ic_0 ?_
  refine V_istore_n (ls' := [_, _]) d_X5_readSum_5 rfl rfl rfl ?_
  refine V_less (ls' := [some _, some _]) ⟨rfl, rfl, trivial⟩ ?_
  exact s_X5_readSum_l6 hG hf hK
theorem s_X5_readSum {G : Gl} (hG : G.1.stackTraces = false) {μ : Mem} {r : Mem} (hf : f_X5_readSum μ = some r) : Rt G yX5_readSum F_X5_readSum none [.ref (G.2.1 + 73)] μ none r := fun n => Sd.of hG ⟨by decide +kernel, rfl, rfl⟩ rfl (Nat.le_of_ble_eq_true rfl) rfl (fun C hK => s_X5_readSum_e hG hf hK)
theorem d_X5_readComparison_0 : decode cX5_readComparison 0 = .ok (.aload_n 0, 1) := by decide +kernel
theorem d_X5_readComparison_1 : decode cX5_readComparison 1 = .ok (.invokevirtual 96, 3) := by decide +kernel
theorem d_X5_readComparison_4 : decode cX5_readComparison 4 = .ok (.aload_n 0, 1) := by decide +kernel
theorem d_X5_readComparison_5 : decode cX5_readComparison 5 = .ok (.getfield 19, 3) := by decide +kernel
theorem d_X5_readComparison_8 : decode cX5_readComparison 8 = .ok (.bipush 60, 2) := by decide +kernel
theorem d_X5_readComparison_10 : decode cX5_readComparison 10 = .ok (.invokevirtual 81, 3) := by decide +kernel
theorem d_X5_readComparison_13 : decode cX5_readComparison 13 = .ok (.ifCond .eq 20, 3) := by decide +kernel
theorem d_X5_readComparison_16 : decode cX5_readComparison 16 = .ok (.aload_n 0, 1) := by decide +kernel
theorem d_X5_readComparison_17 : decode cX5_readComparison 17 = .ok (.invokevirtual 96, 3) := by decide +kernel
theorem d_X5_readComparison_20 : decode cX5_readComparison 20 = .ok (.aload_n 0, 1) := by decide +kernel
theorem d_X5_readComparison_21 : decode cX5_readComparison 21 = .ok (.getfield 9, 3) := by decide +kernel
theorem d_X5_readComparison_24 : decode cX5_readComparison 24 = .ok (.sipush 1011, 3) := by decide +kernel
theorem d_X5_readComparison_27 : decode cX5_readComparison 27 = .ok (.invokevirtual 64, 3) := by decide +kernel
theorem d_X5_readComparison_30 : decode cX5_readComparison 30 = .ok (.goto 26, 3) := by decide +kernel
theorem d_X5_readComparison_33 : decode cX5_readComparison 33 = .ok (.aload_n 0, 1) := by decide +kernel
theorem d_X5_readComparison_34 : decode cX5_readComparison 34 = .ok (.getfield 19, 3) := by decide +kernel
theorem d_X5_readComparison_37 : decode cX5_readComparison 37 = .ok (.bipush 62, 2) := by decide +kernel
theorem d_X5_readComparison_39 : decode cX5_readComparison 39 = .ok (.invokevirtual 85, 3) := by decide +kernel
theorem d_X5_readComparison_42 : decode cX5_readComparison 42 = .ok (.aload_n 0, 1) := by decide +kernel
theorem d_X5_readComparison_43 : decode cX5_readComparison 43 = .ok (.invokevirtual 96, 3) := by decide +kernel
theorem d_X5_readComparison_46 : decode cX5_readComparison 46 = .ok (.aload_n 0, 1) := by decide +kernel
theorem d_X5_readComparison_47 : decode cX5_readComparison 47 = .ok (.getfield 9, 3) := by decide +kernel
theorem d_X5_readComparison_50 : decode cX5_readComparison 50 = .ok (.sipush 1012, 3) := by decide +kernel
theorem d_X5_readComparison_53 : decode cX5_readComparison 53 = .ok (.invokevirtual 64, 3) := by decide +kernel
theorem d_X5_readComparison_56 : decode cX5_readComparison 56 = .ok (.return_, 1) := by decide +kernel
theorem s_X5_readComparison_j56 {G : Gl} (hG : G.1.stackTraces = false) {C : Cx} {n : Nat} {μ : Mem}  {r : Mem} (hf : f_X5_readComparison_j56 μ = some r) (hK : FinR G C F_X5_readComparison none none r) : V G C F_X5_readComparison 56 [none] [] (pic G μ) n 0 0 := by
  unfold f_X5_readComparison_j56 at hf
  cases hf
  exact R_v hK d_X5_readComparison_56 (Nat.le_of_ble_eq_true rfl) (Nat.le_of_ble_eq_true rfl)
theorem s_X5_readComparison_e {G : Gl} (hG : G.1.stackTraces = false) {C : Cx} {n : Nat} {μ : Mem}  {r : Mem} (hf : f_X5_readComparison μ = some r) (hK : FinR G C F_X5_readComparison none none r) : V G C F_X5_readComparison 0 [some (.ref (G.2.1 + 73))] [] (pic G μ) n 0 0 := by
  unfold f_X5_readComparison at hf
  refine V_aload_n d_X5_readComparison_0 rfl rfl ?_
  obtain ⟨q1, hq1, hf⟩ := ob hf
  refine B_callV0 (s_X5_readSum hG hq1) k_73 clX5 m_X5_readSum kv_RX5_96 d_X5_readComparison_1 rfl (Nat.le_of_ble_eq_true rfl) ⟨rfl, rfl, Nat.le_of_ble_eq_true rfl, Nat.le_of_ble_eq_true rfl, Nat.le_of_ble_eq_true rfl⟩ (fun n => ?_)
  refine V_aload_n d_X5_readComparison_4 rfl rfl ?_
  refine B_get k_73 fl_RX5_19 d_X5_readComparison_5 g_5_0 ?_
  refine V_bipush (v := 60) d_X5_readComparison_8 bp_60 ?_
  obtain ⟨q2, hq2, hf⟩ := ob hf
  refine B_callV1 (s_X8_takesSign hG hq2) k_1 clX8 m_X8_takesSign kv_RX5_81 d_X5_readComparison_10 rfl (Nat.le_of_ble_eq_true rfl) ⟨rfl, rfl, Nat.le_of_ble_eq_true rfl, Nat.le_of_ble_eq_true rfl, Nat.le_of_ble_eq_true rfl⟩ (fun n => ?_)
  refine V_if_eq (tgt := 33) d_X5_readComparison_13 (by decide) (fun c13 => ?_) (fun c13 => ?_)
  · replace hf := iteF (b2i_nt (b2i_eq0 c13)) hf
    refine V_aload_n d_X5_readComparison_33 rfl rfl ?_
    refine B_get k_73 fl_RX5_19 d_X5_readComparison_34 g_5_0 ?_
    refine V_bipush (v := 62) d_X5_readComparison_37 bp_62 ?_
    obtain ⟨q3, hq3, hf⟩ := ob hf
    refine B_callV0 (s_X8_needSign hG hq3) k_1 clX8 m_X8_needSign kv_RX5_85 d_X5_readComparison_39 rfl (Nat.le_of_ble_eq_true rfl) ⟨rfl, rfl, Nat.le_of_ble_eq_true rfl, Nat.le_of_ble_eq_true rfl, Nat.le_of_ble_eq_true rfl⟩ (fun n => ?_)
    refine V_aload_n d_X5_readComparison_42 rfl rfl ?_
    obtain ⟨q4, hq4, hf⟩ := ob hf
    refine B_callV0 (s_X5_readSum hG hq4) k_73 clX5 m_X5_readSum kv_RX5_96 d_X5_readComparison_43 rfl (Nat.le_of_ble_eq_true rfl) ⟨rfl, rfl, Nat.le_of_ble_eq_true rfl, Nat.le_of_ble_eq_true rfl, Nat.le_of_ble_eq_true rfl⟩ (fun n => ?_)
    refine V_aload_n d_X5_readComparison_46 rfl rfl ?_
    refine B_get k_73 fl_RX5_9 d_X5_readComparison_47 g_5_2 ?_
    refine V_sipush (v := 1012) d_X5_readComparison_50 sp_1012 ?_
    obtain ⟨q5, hq5, hf⟩ := ob hf
    refine B_callV0 (s_X4_addStep hG W_56 hq5) k_56 clX4 m_X4_addStep kv_RX5_64 d_X5_readComparison_53 rfl (Nat.le_of_ble_eq_true rfl) ⟨rfl, rfl, Nat.le_of_ble_eq_true rfl, Nat.le_of_ble_eq_true rfl, Nat.le_of_ble_eq_true rfl⟩ (fun n => ?_)
    refine V_less (ls' := [none]) trivial ?_
    exact s_X5_readComparison_j56 hG hf hK
  · replace hf := iteT (b2i_ne0 c13) hf
    refine V_aload_n d_X5_readComparison_16 rfl rfl ?_
    obtain ⟨q6, hq6, hf⟩ := ob hf
    refine B_callV0 (s_X5_readSum hG hq6) k_73 clX5 m_X5_readSum kv_RX5_96 d_X5_readComparison_17 rfl (Nat.le_of_ble_eq_true rfl) ⟨rfl, rfl, Nat.le_of_ble_eq_true rfl, Nat.le_of_ble_eq_true rfl, Nat.le_of_ble_eq_true rfl⟩ (fun n => ?_)
    refine V_aload_n d_X5_readComparison_20 rfl rfl ?_
    refine B_get k_73 fl_RX5_9 d_X5_readComparison_21 g_5_2 ?_
    refine V_sipush (v := 1011) d_X5_readComparison_24 sp_1011 ?_
    obtain ⟨q7, hq7, hf⟩ := ob hf
    refine B_callV0 (s_X4_addStep hG W_56 hq7) k_56 clX4 m_X4_addStep kv_RX5_64 d_X5_readComparison_27 rfl (Nat.le_of_ble_eq_true rfl) ⟨rfl, rfl, Nat.le_of_ble_eq_true rfl, Nat.le_of_ble_eq_true rfl, Nat.le_of_ble_eq_true rfl⟩ (fun n => ?_)
    refine V_goto (tgt := 56) d_X5_readComparison_30 (by decide) ?_
    refine V_less (ls' := [none]) trivial ?_
    exact s_X5_readComparison_j56 hG hf hK
theorem s_X5_readComparison {G : Gl} (hG : G.1.stackTraces = false) {μ : Mem} {r : Mem} (hf : f_X5_readComparison μ = some r) : Rt G yX5_readComparison F_X5_readComparison none [.ref (G.2.1 + 73)] μ none r := fun n => Sd.of hG ⟨by decide +kernel, rfl, rfl⟩ rfl (Nat.le_of_ble_eq_true rfl) rfl (fun C hK => s_X5_readComparison_e hG hf hK)
theorem d_X5_readAtom_0 : decode cX5_readAtom 0 = .ok (.aload_n 0, 1) := by decide +kernel
theorem d_X5_readAtom_1 : decode cX5_readAtom 1 = .ok (.getfield 19, 3) := by decide +kernel
theorem d_X5_readAtom_4 : decode cX5_readAtom 4 = .ok (.getfield 72, 3) := by decide +kernel
theorem d_X5_readAtom_7 : decode cX5_readAtom 7 = .ok (.istore_n 2, 1) := by decide +kernel
theorem d_X5_readAtom_8 : decode cX5_readAtom 8 = .ok (.aload_n 0, 1) := by decide +kernel
theorem d_X5_readAtom_9 : decode cX5_readAtom 9 = .ok (.getfield 19, 3) := by decide +kernel
theorem d_X5_readAtom_12 : decode cX5_readAtom 12 = .ok (.ldc 76, 2) := by decide +kernel
theorem d_X5_readAtom_14 : decode cX5_readAtom 14 = .ok (.invokevirtual 37, 3) := by decide +kernel
theorem d_X5_readAtom_17 : decode cX5_readAtom 17 = .ok (.ifCond .eq 38, 3) := by decide +kernel
theorem d_X5_readAtom_20 : decode cX5_readAtom 20 = .ok (.iload_n 1, 1) := by decide +kernel
theorem d_X5_readAtom_21 : decode cX5_readAtom 21 = .ok (.bipush 6, 2) := by decide +kernel
theorem d_X5_readAtom_23 : decode cX5_readAtom 23 = .ok (.if_icmp .lt 12, 3) := by decide +kernel
theorem d_X5_readAtom_26 : decode cX5_readAtom 26 = .ok (.aload_n 0, 1) := by decide +kernel
theorem d_X5_readAtom_27 : decode cX5_readAtom 27 = .ok (.getfield 19, 3) := by decide +kernel
theorem d_X5_readAtom_30 : decode cX5_readAtom 30 = .ok (.iload_n 2, 1) := by decide +kernel
theorem d_X5_readAtom_31 : decode cX5_readAtom 31 = .ok (.invokevirtual 78, 3) := by decide +kernel
theorem d_X5_readAtom_34 : decode cX5_readAtom 34 = .ok (.return_, 1) := by decide +kernel
theorem d_X5_readAtom_35 : decode cX5_readAtom 35 = .ok (.aload_n 0, 1) := by decide +kernel
theorem d_X5_readAtom_36 : decode cX5_readAtom 36 = .ok (.iload_n 1, 1) := by decide +kernel
theorem d_X5_readAtom_37 : decode cX5_readAtom 37 = .ok (.iconst 1, 1) := by decide +kernel
theorem d_X5_readAtom_38 : decode cX5_readAtom 38 = .ok (.iadd, 1) := by decide +kernel
theorem d_X5_readAtom_39 : decode cX5_readAtom 39 = .ok (.invokevirtual 67, 3) := by decide +kernel
theorem d_X5_readAtom_42 : decode cX5_readAtom 42 = .ok (.aload_n 0, 1) := by decide +kernel
theorem d_X5_readAtom_43 : decode cX5_readAtom 43 = .ok (.getfield 9, 3) := by decide +kernel
theorem d_X5_readAtom_46 : decode cX5_readAtom 46 = .ok (.sipush 1009, 3) := by decide +kernel
theorem d_X5_readAtom_49 : decode cX5_readAtom 49 = .ok (.invokevirtual 64, 3) := by decide +kernel
theorem d_X5_readAtom_52 : decode cX5_readAtom 52 = .ok (.goto 103, 3) := by decide +kernel
theorem d_X5_readAtom_55 : decode cX5_readAtom 55 = .ok (.aload_n 0, 1) := by decide +kernel
theorem d_X5_readAtom_56 : decode cX5_readAtom 56 = .ok (.getfield 19, 3) := by decide +kernel
theorem d_X5_readAtom_59 : decode cX5_readAtom 59 = .ok (.bipush 40, 2) := by decide +kernel
theorem d_X5_readAtom_61 : decode cX5_readAtom 61 = .ok (.invokevirtual 81, 3) := by decide +kernel
theorem d_X5_readAtom_64 : decode cX5_readAtom 64 = .ok (.ifCond .eq 37, 3) := by decide +kernel
theorem d_X5_readAtom_67 : decode cX5_readAtom 67 = .ok (.iload_n 1, 1) := by decide +kernel
theorem d_X5_readAtom_68 : decode cX5_readAtom 68 = .ok (.bipush 6, 2) := by decide +kernel
theorem d_X5_readAtom_70 : decode cX5_readAtom 70 = .ok (.if_icmp .lt 12, 3) := by decide +kernel
theorem d_X5_readAtom_73 : decode cX5_readAtom 73 = .ok (.aload_n 0, 1) := by decide +kernel
theorem d_X5_readAtom_74 : decode cX5_readAtom 74 = .ok (.getfield 19, 3) := by decide +kernel
theorem d_X5_readAtom_77 : decode cX5_readAtom 77 = .ok (.iload_n 2, 1) := by decide +kernel
theorem d_X5_readAtom_78 : decode cX5_readAtom 78 = .ok (.invokevirtual 78, 3) := by decide +kernel
theorem d_X5_readAtom_81 : decode cX5_readAtom 81 = .ok (.return_, 1) := by decide +kernel
theorem d_X5_readAtom_82 : decode cX5_readAtom 82 = .ok (.aload_n 0, 1) := by decide +kernel
theorem d_X5_readAtom_83 : decode cX5_readAtom 83 = .ok (.iload_n 1, 1) := by decide +kernel
theorem d_X5_readAtom_84 : decode cX5_readAtom 84 = .ok (.iconst 1, 1) := by decide +kernel
theorem d_X5_readAtom_85 : decode cX5_readAtom 85 = .ok (.iadd, 1) := by decide +kernel
theorem d_X5_readAtom_86 : decode cX5_readAtom 86 = .ok (.invokevirtual 41, 3) := by decide +kernel
theorem d_X5_readAtom_89 : decode cX5_readAtom 89 = .ok (.aload_n 0, 1) := by decide +kernel
theorem d_X5_readAtom_90 : decode cX5_readAtom 90 = .ok (.getfield 19, 3) := by decide +kernel
theorem d_X5_readAtom_93 : decode cX5_readAtom 93 = .ok (.bipush 41, 2) := by decide +kernel
theorem d_X5_readAtom_95 : decode cX5_readAtom 95 = .ok (.invokevirtual 85, 3) := by decide +kernel
theorem d_X5_readAtom_98 : decode cX5_readAtom 98 = .ok (.goto 57, 3) := by decide +kernel
theorem d_X5_readAtom_101 : decode cX5_readAtom 101 = .ok (.aload_n 0, 1) := by decide +kernel
theorem d_X5_readAtom_102 : decode cX5_readAtom 102 = .ok (.getfield 19, 3) := by decide +kernel
theorem d_X5_readAtom_105 : decode cX5_readAtom 105 = .ok (.ldc 89, 2) := by decide +kernel
theorem d_X5_readAtom_107 : decode cX5_readAtom 107 = .ok (.invokevirtual 37, 3) := by decide +kernel
theorem d_X5_readAtom_110 : decode cX5_readAtom 110 = .ok (.ifCond .eq 16, 3) := by decide +kernel
theorem d_X5_readAtom_113 : decode cX5_readAtom 113 = .ok (.aload_n 0, 1) := by decide +kernel
theorem d_X5_readAtom_114 : decode cX5_readAtom 114 = .ok (.getfield 9, 3) := by decide +kernel
theorem d_X5_readAtom_117 : decode cX5_readAtom 117 = .ok (.sipush 1007, 3) := by decide +kernel
theorem d_X5_readAtom_120 : decode cX5_readAtom 120 = .ok (.invokevirtual 64, 3) := by decide +kernel
theorem d_X5_readAtom_123 : decode cX5_readAtom 123 = .ok (.goto 32, 3) := by decide +kernel
theorem d_X5_readAtom_126 : decode cX5_readAtom 126 = .ok (.aload_n 0, 1) := by decide +kernel
theorem d_X5_readAtom_127 : decode cX5_readAtom 127 = .ok (.getfield 19, 3) := by decide +kernel
theorem d_X5_readAtom_130 : decode cX5_readAtom 130 = .ok (.ldc 91, 2) := by decide +kernel
theorem d_X5_readAtom_132 : decode cX5_readAtom 132 = .ok (.invokevirtual 37, 3) := by decide +kernel
theorem d_X5_readAtom_135 : decode cX5_readAtom 135 = .ok (.ifCond .eq 16, 3) := by decide +kernel
theorem d_X5_readAtom_138 : decode cX5_readAtom 138 = .ok (.aload_n 0, 1) := by decide +kernel
theorem d_X5_readAtom_139 : decode cX5_readAtom 139 = .ok (.getfield 9, 3) := by decide +kernel
theorem d_X5_readAtom_142 : decode cX5_readAtom 142 = .ok (.sipush 1008, 3) := by decide +kernel
theorem d_X5_readAtom_145 : decode cX5_readAtom 145 = .ok (.invokevirtual 64, 3) := by decide +kernel
theorem d_X5_readAtom_148 : decode cX5_readAtom 148 = .ok (.goto 7, 3) := by decide +kernel
theorem d_X5_readAtom_151 : decode cX5_readAtom 151 = .ok (.aload_n 0, 1) := by decide +kernel
theorem d_X5_readAtom_152 : decode cX5_readAtom 152 = .ok (.invokevirtual 93, 3) := by decide +kernel
theorem d_X5_readAtom_155 : decode cX5_readAtom 155 = .ok (.return_, 1) := by decide +kernel
theorem s_X5_readAtom_body_j155 {G : Gl} (hG : G.1.stackTraces = false) {k : Nat} {rA : Mem → Int32 → Option Mem} (hA : ∀ {μ9 : Mem} {q0 : Int32} {q : Mem}, rA μ9 q0 = some q → Rt G yX5_readAtom (F_X5_readAtom k) none [.ref (G.2.1 + 73), .int q0] μ9 none q) {C : Cx} {n : Nat} {μ : Mem}  {r : Mem} (hf : f_X5_readAtom_body_j155 rA μ = some r) (hK : FinR G C (F_X5_readAtom (k + 1)) none none r) : V G C (F_X5_readAtom (k + 1)) 155 [none, none, none] [] (pic G μ) n 0 0 := by
  unfold f_X5_readAtom_body_j155 at hf
  cases hf
  exact R_v hK d_X5_readAtom_155 (Nat.le_of_ble_eq_true rfl) (Nat.le_of_ble_eq_true rfl)
theorem s_X5_readAtom_e {G : Gl} (hG : G.1.stackTraces = false) {k : Nat} {rA : Mem → Int32 → Option Mem} (hA : ∀ {μ9 : Mem} {q0 : Int32} {q : Mem}, rA μ9 q0 = some q → Rt G yX5_readAtom (F_X5_readAtom k) none [.ref (G.2.1 + 73), .int q0] μ9 none q) {C : Cx} {n : Nat} {μ : Mem} {p1 : Int32} {r : Mem} (hf : f_X5_readAtom_body rA μ p1 = some r) (hK : FinR G C (F_X5_readAtom (k + 1)) none none r) : V G C (F_X5_readAtom (k + 1)) 0 [some (.ref (G.2.1 + 73)), some (.int p1), none] [] (pic G μ) n 0 0 := by
  unfold f_X5_readAtom_body at hf
  refine V_aload_n d_X5_readAtom_0 rfl rfl ?_
  refine B_get k_73 fl_RX5_19 d_X5_readAtom_1 g_5_0 ?_
  refine B_getN k_1 fn_RX5_72 d_X5_readAtom_4 g_8_3 ?_
  refine V_istore_n (ls' := [_, _, _]) d_X5_readAtom_7 rfl rfl rfl ?_
  refine V_aload_n d_X5_readAtom_8 rfl rfl ?_
  refine B_get k_73 fl_RX5_19 d_X5_readAtom_9 g_5_0 ?_
  refine V_ldcS (i := 25) d_X5_readAtom_12 sT_RX5_76 ?_
  obtain ⟨q1, hq1, hf⟩ := ob hf
  refine B_callV1 (s_X8_takesWord hG sS_25 hq1) k_1 clX8 m_X8_takesWord kv_RX5_37 d_X5_readAtom_14 rfl (Nat.le_of_ble_eq_true rfl) ⟨rfl, rfl, Nat.le_of_ble_eq_true rfl, Nat.le_of_ble_eq_true rfl, (show (6 : Nat) < 10 + 3 * (k + 1) by omega)⟩ (fun n => ?_)
  refine V_if_eq (tgt := 55) d_X5_readAtom_17 (by decide) (fun c17 => ?_) (fun c17 => ?_)
  · replace hf := iteF (b2i_nt (b2i_eq0 c17)) hf
    refine V_aload_n d_X5_readAtom_55 rfl rfl ?_
    refine B_get k_73 fl_RX5_19 d_X5_readAtom_56 g_5_0 ?_
    refine V_bipush (v := 40) d_X5_readAtom_59 bp_40 ?_
    obtain ⟨q2, hq2, hf⟩ := ob hf
    refine B_callV1 (s_X8_takesSign hG hq2) k_1 clX8 m_X8_takesSign kv_RX5_81 d_X5_readAtom_61 rfl (Nat.le_of_ble_eq_true rfl) ⟨rfl, rfl, Nat.le_of_ble_eq_true rfl, Nat.le_of_ble_eq_true rfl, (show (2 : Nat) < 10 + 3 * (k + 1) by omega)⟩ (fun n => ?_)
    refine V_if_eq (tgt := 101) d_X5_readAtom_64 (by decide) (fun c64 => ?_) (fun c64 => ?_)
    · replace hf := iteF (b2i_nt (b2i_eq0 c64)) hf
      refine V_aload_n d_X5_readAtom_101 rfl rfl ?_
      refine B_get k_73 fl_RX5_19 d_X5_readAtom_102 g_5_0 ?_
      refine V_ldcS (i := 26) d_X5_readAtom_105 sT_RX5_89 ?_
      obtain ⟨q3, hq3, hf⟩ := ob hf
      refine B_callV1 (s_X8_takesWord hG sS_26 hq3) k_1 clX8 m_X8_takesWord kv_RX5_37 d_X5_readAtom_107 rfl (Nat.le_of_ble_eq_true rfl) ⟨rfl, rfl, Nat.le_of_ble_eq_true rfl, Nat.le_of_ble_eq_true rfl, (show (6 : Nat) < 10 + 3 * (k + 1) by omega)⟩ (fun n => ?_)
      refine V_if_eq (tgt := 126) d_X5_readAtom_110 (by decide) (fun c110 => ?_) (fun c110 => ?_)
      · replace hf := iteF (b2i_nt (b2i_eq0 c110)) hf
        refine V_aload_n d_X5_readAtom_126 rfl rfl ?_
        refine B_get k_73 fl_RX5_19 d_X5_readAtom_127 g_5_0 ?_
        refine V_ldcS (i := 27) d_X5_readAtom_130 sT_RX5_91 ?_
        obtain ⟨q4, hq4, hf⟩ := ob hf
        refine B_callV1 (s_X8_takesWord hG sS_27 hq4) k_1 clX8 m_X8_takesWord kv_RX5_37 d_X5_readAtom_132 rfl (Nat.le_of_ble_eq_true rfl) ⟨rfl, rfl, Nat.le_of_ble_eq_true rfl, Nat.le_of_ble_eq_true rfl, (show (6 : Nat) < 10 + 3 * (k + 1) by omega)⟩ (fun n => ?_)
        refine V_if_eq (tgt := 151) d_X5_readAtom_135 (by decide) (fun c135 => ?_) (fun c135 => ?_)
        · replace hf := iteF (b2i_nt (b2i_eq0 c135)) hf
          refine V_aload_n d_X5_readAtom_151 rfl rfl ?_
          obtain ⟨q5, hq5, hf⟩ := ob hf
          refine B_callV0 (s_X5_readComparison hG hq5) k_73 clX5 m_X5_readComparison kv_RX5_93 d_X5_readAtom_152 rfl (Nat.le_of_ble_eq_true rfl) ⟨rfl, rfl, Nat.le_of_ble_eq_true rfl, Nat.le_of_ble_eq_true rfl, (show (9 : Nat) < 10 + 3 * (k + 1) by omega)⟩ (fun n => ?_)
          refine V_less (ls' := [none, none, none]) trivial ?_
          exact s_X5_readAtom_body_j155 hG hA hf hK
        · replace hf := iteT (b2i_ne0 c135) hf
          refine V_aload_n d_X5_readAtom_138 rfl rfl ?_
          refine B_get k_73 fl_RX5_9 d_X5_readAtom_139 g_5_2 ?_
          refine V_sipush (v := 1008) d_X5_readAtom_142 sp_1008 ?_
          obtain ⟨q6, hq6, hf⟩ := ob hf
          refine B_callV0 (s_X4_addStep hG W_56 hq6) k_56 clX4 m_X4_addStep kv_RX5_64 d_X5_readAtom_145 rfl (Nat.le_of_ble_eq_true rfl) ⟨rfl, rfl, Nat.le_of_ble_eq_true rfl, Nat.le_of_ble_eq_true rfl, (show (1 : Nat) < 10 + 3 * (k + 1) by omega)⟩ (fun n => ?_)
          refine V_goto (tgt := 155) d_X5_readAtom_148 (by decide) ?_
          refine V_less (ls' := [none, none, none]) trivial ?_
          exact s_X5_readAtom_body_j155 hG hA hf hK
      · replace hf := iteT (b2i_ne0 c110) hf
        refine V_aload_n d_X5_readAtom_113 rfl rfl ?_
        refine B_get k_73 fl_RX5_9 d_X5_readAtom_114 g_5_2 ?_
        refine V_sipush (v := 1007) d_X5_readAtom_117 sp_1007 ?_
        obtain ⟨q7, hq7, hf⟩ := ob hf
        refine B_callV0 (s_X4_addStep hG W_56 hq7) k_56 clX4 m_X4_addStep kv_RX5_64 d_X5_readAtom_120 rfl (Nat.le_of_ble_eq_true rfl) ⟨rfl, rfl, Nat.le_of_ble_eq_true rfl, Nat.le_of_ble_eq_true rfl, (show (1 : Nat) < 10 + 3 * (k + 1) by omega)⟩ (fun n => ?_)
        refine V_goto (tgt := 155) d_X5_readAtom_123 (by decide) ?_
        refine V_less (ls' := [none, none, none]) trivial ?_
        exact s_X5_readAtom_body_j155 hG hA hf hK
    · replace hf := iteT (b2i_ne0 c64) hf
      refine V_iload_n d_X5_readAtom_67 rfl rfl ?_
      refine V_bipush (v := 6) d_X5_readAtom_68 bp_6 ?_
      refine V_icmp_lt (tgt := 82) d_X5_readAtom_70 (by decide) (fun c70 => ?_) (fun c70 => ?_)
      · replace hf := iteT c70 hf
        refine V_aload_n d_X5_readAtom_82 rfl rfl ?_
        refine V_iload_n d_X5_readAtom_83 rfl rfl ?_
        refine V_iconst (v := 1) d_X5_readAtom_84 ic_1 ?_
        refine V_iadd d_X5_readAtom_85 ?_
        obtain ⟨q8, hq8, hf⟩ := ob hf
        refine B_callV0 (s_X5_readAny hG hA hq8) k_73 clX5 m_X5_readAny kv_RX5_41 d_X5_readAtom_86 rfl (Nat.le_of_ble_eq_true rfl) ⟨rfl, rfl, Nat.le_of_ble_eq_true rfl, Nat.le_of_ble_eq_true rfl, (show (12 + 3 * k : Nat) < 10 + 3 * (k + 1) by omega)⟩ (fun n => ?_)
        refine V_aload_n d_X5_readAtom_89 rfl rfl ?_
        refine B_get k_73 fl_RX5_19 d_X5_readAtom_90 g_5_0 ?_
        refine V_bipush (v := 41) d_X5_readAtom_93 bp_41 ?_
        obtain ⟨q9, hq9, hf⟩ := ob hf
        refine B_callV0 (s_X8_needSign hG hq9) k_1 clX8 m_X8_needSign kv_RX5_85 d_X5_readAtom_95 rfl (Nat.le_of_ble_eq_true rfl) ⟨rfl, rfl, Nat.le_of_ble_eq_true rfl, Nat.le_of_ble_eq_true rfl, (show (3 : Nat) < 10 + 3 * (k + 1) by omega)⟩ (fun n => ?_)
        refine V_goto (tgt := 155) d_X5_readAtom_98 (by decide) ?_
        refine V_less (ls' := [none, none, none]) trivial ?_
        exact s_X5_readAtom_body_j155 hG hA hf hK
      · replace hf := iteF c70 hf
        refine V_aload_n d_X5_readAtom_73 rfl rfl ?_
        refine B_get k_73 fl_RX5_19 d_X5_readAtom_74 g_5_0 ?_
        refine V_iload_n d_X5_readAtom_77 rfl rfl ?_
        obtain ⟨q10, hq10, hf⟩ := ob hf
        refine B_callV0 (s_X8_refuse hG hq10) k_1 clX8 m_X8_refuse kv_RX5_78 d_X5_readAtom_78 rfl (Nat.le_of_ble_eq_true rfl) ⟨rfl, rfl, Nat.le_of_ble_eq_true rfl, Nat.le_of_ble_eq_true rfl, (show (1 : Nat) < 10 + 3 * (k + 1) by omega)⟩ (fun n => ?_)
        cases hf
        exact R_v hK d_X5_readAtom_81 (Nat.le_of_ble_eq_true rfl) (Nat.le_of_ble_eq_true rfl)
  · replace hf := iteT (b2i_ne0 c17) hf
    refine V_iload_n d_X5_readAtom_20 rfl rfl ?_
    refine V_bipush (v := 6) d_X5_readAtom_21 bp_6 ?_
    refine V_icmp_lt (tgt := 35) d_X5_readAtom_23 (by decide) (fun c23 => ?_) (fun c23 => ?_)
    · replace hf := iteT c23 hf
      refine V_aload_n d_X5_readAtom_35 rfl rfl ?_
      refine V_iload_n d_X5_readAtom_36 rfl rfl ?_
      refine V_iconst (v := 1) d_X5_readAtom_37 ic_1 ?_
      refine V_iadd d_X5_readAtom_38 ?_
      obtain ⟨q11, hq11, hf⟩ := ob hf
      refine B_callV0 (hA hq11) k_73 clX5 m_X5_readAtom kv_RX5_67 d_X5_readAtom_39 rfl (Nat.le_of_ble_eq_true rfl) ⟨rfl, rfl, Nat.le_of_ble_eq_true rfl, Nat.le_of_ble_eq_true rfl, (show (10 + 3 * k : Nat) < 10 + 3 * (k + 1) by omega)⟩ (fun n => ?_)
      refine V_aload_n d_X5_readAtom_42 rfl rfl ?_
      refine B_get k_73 fl_RX5_9 d_X5_readAtom_43 g_5_2 ?_
      refine V_sipush (v := 1009) d_X5_readAtom_46 sp_1009 ?_
      obtain ⟨q12, hq12, hf⟩ := ob hf
      refine B_callV0 (s_X4_addStep hG W_56 hq12) k_56 clX4 m_X4_addStep kv_RX5_64 d_X5_readAtom_49 rfl (Nat.le_of_ble_eq_true rfl) ⟨rfl, rfl, Nat.le_of_ble_eq_true rfl, Nat.le_of_ble_eq_true rfl, (show (1 : Nat) < 10 + 3 * (k + 1) by omega)⟩ (fun n => ?_)
      refine V_goto (tgt := 155) d_X5_readAtom_52 (by decide) ?_
      refine V_less (ls' := [none, none, none]) trivial ?_
      exact s_X5_readAtom_body_j155 hG hA hf hK
    · replace hf := iteF c23 hf
      refine V_aload_n d_X5_readAtom_26 rfl rfl ?_
      refine B_get k_73 fl_RX5_19 d_X5_readAtom_27 g_5_0 ?_
      refine V_iload_n d_X5_readAtom_30 rfl rfl ?_
      obtain ⟨q13, hq13, hf⟩ := ob hf
      refine B_callV0 (s_X8_refuse hG hq13) k_1 clX8 m_X8_refuse kv_RX5_78 d_X5_readAtom_31 rfl (Nat.le_of_ble_eq_true rfl) ⟨rfl, rfl, Nat.le_of_ble_eq_true rfl, Nat.le_of_ble_eq_true rfl, (show (1 : Nat) < 10 + 3 * (k + 1) by omega)⟩ (fun n => ?_)
      cases hf
      exact R_v hK d_X5_readAtom_34 (Nat.le_of_ble_eq_true rfl) (Nat.le_of_ble_eq_true rfl)
theorem s_X5_readAtom_body {G : Gl} (hG : G.1.stackTraces = false) {k : Nat} {rA : Mem → Int32 → Option Mem} (hA : ∀ {μ9 : Mem} {q0 : Int32} {q : Mem}, rA μ9 q0 = some q → Rt G yX5_readAtom (F_X5_readAtom k) none [.ref (G.2.1 + 73), .int q0] μ9 none q) {μ : Mem} {p1 : Int32} {r : Mem} (hf : f_X5_readAtom_body rA μ p1 = some r) : Rt G yX5_readAtom (F_X5_readAtom (k + 1)) none [.ref (G.2.1 + 73), .int p1] μ none r := fun n => Sd.of hG ⟨by decide +kernel, rfl, rfl⟩ rfl (Nat.le_of_ble_eq_true rfl) rfl (fun C hK => s_X5_readAtom_e hG hA hf hK)
theorem s_X5_readAtom {G : Gl} (hG : G.1.stackTraces = false) : ∀ (k : Nat) {μ : Mem} {p1 : Int32} {r : Mem}, f_X5_readAtom k μ p1 = some r → Rt G yX5_readAtom (F_X5_readAtom k) none [.ref (G.2.1 + 73), .int p1] μ none r
  | 0 => fun hf => by cases hf
  | k + 1 => fun hf => s_X5_readAtom_body hG (fun h9 => s_X5_readAtom hG k h9) hf
theorem d_X5_readLine_0 : decode cX5_readLine 0 = .ok (.aload_n 0, 1) := by decide +kernel
theorem d_X5_readLine_1 : decode cX5_readLine 1 = .ok (.invokevirtual 15, 3) := by decide +kernel
theorem d_X5_readLine_4 : decode cX5_readLine 4 = .ok (.istore_n 1, 1) := by decide +kernel
theorem d_X5_readLine_5 : decode cX5_readLine 5 = .ok (.aload_n 0, 1) := by decide +kernel
theorem d_X5_readLine_6 : decode cX5_readLine 6 = .ok (.getfield 19, 3) := by decide +kernel
theorem d_X5_readLine_9 : decode cX5_readLine 9 = .ok (.iconst 0, 1) := by decide +kernel
theorem d_X5_readLine_10 : decode cX5_readLine 10 = .ok (.bipush 99, 2) := by decide +kernel
theorem d_X5_readLine_12 : decode cX5_readLine 12 = .ok (.invokevirtual 23, 3) := by decide +kernel
theorem d_X5_readLine_15 : decode cX5_readLine 15 = .ok (.istore_n 2, 1) := by decide +kernel
theorem d_X5_readLine_16 : decode cX5_readLine 16 = .ok (.aload_n 0, 1) := by decide +kernel
theorem d_X5_readLine_17 : decode cX5_readLine 17 = .ok (.getfield 9, 3) := by decide +kernel
theorem d_X5_readLine_20 : decode cX5_readLine 20 = .ok (.iload_n 1, 1) := by decide +kernel
theorem d_X5_readLine_21 : decode cX5_readLine 21 = .ok (.iload_n 2, 1) := by decide +kernel
theorem d_X5_readLine_22 : decode cX5_readLine 22 = .ok (.invokevirtual 29, 3) := by decide +kernel
theorem d_X5_readLine_25 : decode cX5_readLine 25 = .ok (.aload_n 0, 1) := by decide +kernel
theorem d_X5_readLine_26 : decode cX5_readLine 26 = .ok (.getfield 19, 3) := by decide +kernel
theorem d_X5_readLine_29 : decode cX5_readLine 29 = .ok (.ldc 35, 2) := by decide +kernel
theorem d_X5_readLine_31 : decode cX5_readLine 31 = .ok (.invokevirtual 37, 3) := by decide +kernel
theorem d_X5_readLine_34 : decode cX5_readLine 34 = .ok (.ifCond .eq 8, 3) := by decide +kernel
theorem d_X5_readLine_37 : decode cX5_readLine 37 = .ok (.aload_n 0, 1) := by decide +kernel
theorem d_X5_readLine_38 : decode cX5_readLine 38 = .ok (.iconst 0, 1) := by decide +kernel
theorem d_X5_readLine_39 : decode cX5_readLine 39 = .ok (.invokevirtual 41, 3) := by decide +kernel
theorem d_X5_readLine_42 : decode cX5_readLine 42 = .ok (.aload_n 0, 1) := by decide +kernel
theorem d_X5_readLine_43 : decode cX5_readLine 43 = .ok (.getfield 9, 3) := by decide +kernel
theorem d_X5_readLine_46 : decode cX5_readLine 46 = .ok (.invokevirtual 45, 3) := by decide +kernel
theorem d_X5_readLine_49 : decode cX5_readLine 49 = .ok (.return_, 1) := by decide +kernel
theorem s_X5_readLine_j42 {G : Gl} (hG : G.1.stackTraces = false) {C : Cx} {n : Nat} {μ : Mem}  {r : Mem} (hf : f_X5_readLine_j42 μ = some r) (hK : FinR G C F_X5_readLine none none r) : V G C F_X5_readLine 42 [some (.ref (G.2.1 + 73)), none, none] [] (pic G μ) n 0 0 := by
  unfold f_X5_readLine_j42 at hf
  refine V_aload_n d_X5_readLine_42 rfl rfl ?_
  refine B_get k_73 fl_RX5_9 d_X5_readLine_43 g_5_2 ?_
  obtain ⟨q1, hq1, hf⟩ := ob hf
  refine B_callV0 (s_X4_closeLine hG W_56 hq1) k_56 clX4 m_X4_closeLine kv_RX5_45 d_X5_readLine_46 rfl (Nat.le_of_ble_eq_true rfl) ⟨rfl, rfl, Nat.le_of_ble_eq_true rfl, Nat.le_of_ble_eq_true rfl, Nat.le_of_ble_eq_true rfl⟩ (fun n => ?_)
  cases hf
  exact R_v hK d_X5_readLine_49 (Nat.le_of_ble_eq_true rfl) (Nat.le_of_ble_eq_true rfl)
theorem s_X5_readLine_e {G : Gl} (hG : G.1.stackTraces = false) {C : Cx} {n : Nat} {μ : Mem}  {r : Mem} (hf : f_X5_readLine μ = some r) (hK : FinR G C F_X5_readLine none none r) : V G C F_X5_readLine 0 [some (.ref (G.2.1 + 73)), none, none] [] (pic G μ) n 0 0 := by
  unfold f_X5_readLine at hf
  refine V_aload_n d_X5_readLine_0 rfl rfl ?_
  obtain ⟨q1, hq1, hf⟩ := ob hf
  refine B_callV1 (s_X5_takeKind hG hq1) k_73 clX5 m_X5_takeKind kv_RX5_15 d_X5_readLine_1 rfl (Nat.le_of_ble_eq_true rfl) ⟨rfl, rfl, Nat.le_of_ble_eq_true rfl, Nat.le_of_ble_eq_true rfl, Nat.le_of_ble_eq_true rfl⟩ (fun n => ?_)
  refine V_istore_n (ls' := [_, _, _]) d_X5_readLine_4 rfl rfl rfl ?_
  refine V_aload_n d_X5_readLine_5 rfl rfl ?_
  refine B_get k_73 fl_RX5_19 d_X5_readLine_6 g_5_0 ?_
  refine V_iconst (v := 0) d_X5_readLine_9 ic_0 ?_
  refine V_bipush (v := 99) d_X5_readLine_10 bp_99 ?_
  obtain ⟨q2, hq2, hf⟩ := ob hf
  refine B_callV1 (s_X8_takeNumber hG hq2) k_1 clX8 m_X8_takeNumber kv_RX5_23 d_X5_readLine_12 rfl (Nat.le_of_ble_eq_true rfl) ⟨rfl, rfl, Nat.le_of_ble_eq_true rfl, Nat.le_of_ble_eq_true rfl, Nat.le_of_ble_eq_true rfl⟩ (fun n => ?_)
  refine V_istore_n (ls' := [_, _, _]) d_X5_readLine_15 rfl rfl rfl ?_
  refine V_aload_n d_X5_readLine_16 rfl rfl ?_
  refine B_get k_73 fl_RX5_9 d_X5_readLine_17 g_5_2 ?_
  refine V_iload_n d_X5_readLine_20 rfl rfl ?_
  refine V_iload_n d_X5_readLine_21 rfl rfl ?_
  obtain ⟨q3, hq3, hf⟩ := ob hf
  refine B_callV0 (s_X4_openLine hG W_56 hq3) k_56 clX4 m_X4_openLine kv_RX5_29 d_X5_readLine_22 rfl (Nat.le_of_ble_eq_true rfl) ⟨rfl, rfl, Nat.le_of_ble_eq_true rfl, Nat.le_of_ble_eq_true rfl, Nat.le_of_ble_eq_true rfl⟩ (fun n => ?_)
  refine V_aload_n d_X5_readLine_25 rfl rfl ?_
  refine B_get k_73 fl_RX5_19 d_X5_readLine_26 g_5_0 ?_
  refine V_ldcS (i := 28) d_X5_readLine_29 sT_RX5_35 ?_
  obtain ⟨q4, hq4, hf⟩ := ob hf
  refine B_callV1 (s_X8_takesWord hG sS_28 hq4) k_1 clX8 m_X8_takesWord kv_RX5_37 d_X5_readLine_31 rfl (Nat.le_of_ble_eq_true rfl) ⟨rfl, rfl, Nat.le_of_ble_eq_true rfl, Nat.le_of_ble_eq_true rfl, Nat.le_of_ble_eq_true rfl⟩ (fun n => ?_)
  refine V_if_eq (tgt := 42) d_X5_readLine_34 (by decide) (fun c34 => ?_) (fun c34 => ?_)
  · replace hf := iteF (b2i_nt (b2i_eq0 c34)) hf
    refine V_less (ls' := [some _, none, none]) ⟨rfl, trivial⟩ ?_
    exact s_X5_readLine_j42 hG hf hK
  · replace hf := iteT (b2i_ne0 c34) hf
    refine V_aload_n d_X5_readLine_37 rfl rfl ?_
    refine V_iconst (v := 0) d_X5_readLine_38 ic_0 ?_
    obtain ⟨q5, hq5, hf⟩ := ob hf
    refine B_callV0 (s_X5_readAny hG (fun h9 => s_X5_readAtom hG 8 h9) hq5) k_73 clX5 m_X5_readAny kv_RX5_41 d_X5_readLine_39 rfl (Nat.le_of_ble_eq_true rfl) ⟨rfl, rfl, Nat.le_of_ble_eq_true rfl, Nat.le_of_ble_eq_true rfl, Nat.le_of_ble_eq_true rfl⟩ (fun n => ?_)
    refine V_less (ls' := [some _, none, none]) ⟨rfl, trivial⟩ ?_
    exact s_X5_readLine_j42 hG hf hK
theorem s_X5_readLine {G : Gl} (hG : G.1.stackTraces = false) {μ : Mem} {r : Mem} (hf : f_X5_readLine μ = some r) : Rt G yX5_readLine F_X5_readLine none [.ref (G.2.1 + 73)] μ none r := fun n => Sd.of hG ⟨by decide +kernel, rfl, rfl⟩ rfl (Nat.le_of_ble_eq_true rfl) rfl (fun C hK => s_X5_readLine_e hG hf hK)
theorem d_X7_gather_0 : decode cX7_gather 0 = .ok (.iconst 0, 1) := by decide +kernel
theorem d_X7_gather_1 : decode cX7_gather 1 = .ok (.istore_n 2, 1) := by decide +kernel
theorem d_X7_gather_2 : decode cX7_gather 2 = .ok (.iload_n 2, 1) := by decide +kernel
theorem d_X7_gather_3 : decode cX7_gather 3 = .ok (.bipush 6, 2) := by decide +kernel
theorem d_X7_gather_5 : decode cX7_gather 5 = .ok (.if_icmp .ge 16, 3) := by decide +kernel
theorem d_X7_gather_8 : decode cX7_gather 8 = .ok (.aload_n 0, 1) := by decide +kernel
theorem d_X7_gather_9 : decode cX7_gather 9 = .ok (.getfield 15, 3) := by decide +kernel
theorem d_X7_gather_12 : decode cX7_gather 12 = .ok (.iload_n 2, 1) := by decide +kernel
theorem d_X7_gather_13 : decode cX7_gather 13 = .ok (.iconst 0, 1) := by decide +kernel
theorem d_X7_gather_14 : decode cX7_gather 14 = .ok (.iastore, 1) := by decide +kernel
theorem d_X7_gather_15 : decode cX7_gather 15 = .ok (.iinc 2 1, 3) := by decide +kernel
theorem d_X7_gather_18 : decode cX7_gather 18 = .ok (.goto (-16), 3) := by decide +kernel
theorem d_X7_gather_21 : decode cX7_gather 21 = .ok (.iconst 0, 1) := by decide +kernel
theorem d_X7_gather_22 : decode cX7_gather 22 = .ok (.istore_n 2, 1) := by decide +kernel
theorem d_X7_gather_23 : decode cX7_gather 23 = .ok (.iconst 0, 1) := by decide +kernel
theorem d_X7_gather_24 : decode cX7_gather 24 = .ok (.istore_n 3, 1) := by decide +kernel
theorem d_X7_gather_25 : decode cX7_gather 25 = .ok (.iload_n 3, 1) := by decide +kernel
theorem d_X7_gather_26 : decode cX7_gather 26 = .ok (.iconst 2, 1) := by decide +kernel
theorem d_X7_gather_27 : decode cX7_gather 27 = .ok (.aload_n 1, 1) := by decide +kernel
theorem d_X7_gather_28 : decode cX7_gather 28 = .ok (.getfield 58, 3) := by decide +kernel
theorem d_X7_gather_31 : decode cX7_gather 31 = .ok (.imul, 1) := by decide +kernel
theorem d_X7_gather_32 : decode cX7_gather 32 = .ok (.if_icmp .ge 27, 3) := by decide +kernel
theorem d_X7_gather_35 : decode cX7_gather 35 = .ok (.aload_n 1, 1) := by decide +kernel
theorem d_X7_gather_36 : decode cX7_gather 36 = .ok (.iload_n 3, 1) := by decide +kernel
theorem d_X7_gather_37 : decode cX7_gather 37 = .ok (.invokevirtual 61, 3) := by decide +kernel
theorem d_X7_gather_40 : decode cX7_gather 40 = .ok (.ifCond .eq 13, 3) := by decide +kernel
theorem d_X7_gather_43 : decode cX7_gather 43 = .ok (.aload_n 0, 1) := by decide +kernel
theorem d_X7_gather_44 : decode cX7_gather 44 = .ok (.getfield 9, 3) := by decide +kernel
theorem d_X7_gather_47 : decode cX7_gather 47 = .ok (.iload_n 2, 1) := by decide +kernel
theorem d_X7_gather_48 : decode cX7_gather 48 = .ok (.iload_n 3, 1) := by decide +kernel
theorem d_X7_gather_49 : decode cX7_gather 49 = .ok (.iastore, 1) := by decide +kernel
theorem d_X7_gather_50 : decode cX7_gather 50 = .ok (.iinc 2 1, 3) := by decide +kernel
theorem d_X7_gather_53 : decode cX7_gather 53 = .ok (.iinc 3 1, 3) := by decide +kernel
theorem d_X7_gather_56 : decode cX7_gather 56 = .ok (.goto (-31), 3) := by decide +kernel
theorem d_X7_gather_59 : decode cX7_gather 59 = .ok (.iload_n 2, 1) := by decide +kernel
theorem d_X7_gather_60 : decode cX7_gather 60 = .ok (.ireturn, 1) := by decide +kernel
theorem s_X7_gather_b2 {G : Gl} (hG : G.1.stackTraces = false) {C : Cx} {n : Nat} {μ : Mem} {a1 : Nat} {l2 : Int32} (ha1 : a1 ∈ landL) {y : ((Int32 × Mem) ⊕ Mem)} (hf : f_X7_gather_b2 μ a1 l2 = some y) (hK : (∀ z', y = .inl z' → ∀ n, V G C F_X7_gather 2 [some (.ref (G.2.1 + 256)), some (.ref (G.2.1 + a1)), some (.int z'.1), none] [] (pic G z'.2) n 0 0) ∧ (∀ x', y = .inr x' → ∀ n, V G C F_X7_gather 21 [some (.ref (G.2.1 + 256)), some (.ref (G.2.1 + a1)), none, none] [] (pic G x') n 0 0)) : V G C F_X7_gather 2 [some (.ref (G.2.1 + 256)), some (.ref (G.2.1 + a1)), some (.int l2), none] [] (pic G μ) n 0 0 := by
  unfold f_X7_gather_b2 at hf
  refine V_iload_n d_X7_gather_2 rfl rfl ?_
  refine V_bipush (v := 6) d_X7_gather_3 bp_6 ?_
  refine V_icmp_ge (tgt := 21) d_X7_gather_5 (by decide) (fun c5 => ?_) (fun c5 => ?_)
  · replace hf := iteT c5 hf
    refine V_less (ls' := [some _, some _, none, none]) ⟨rfl, rfl, trivial⟩ ?_
    cases hf
    exact hK.2 _ rfl _
  · replace hf := iteF c5 hf
    refine V_aload_n d_X7_gather_8 rfl rfl ?_
    refine B_get k_256 fl_RX7_15 d_X7_gather_9 g_7_1 ?_
    refine V_iload_n d_X7_gather_12 rfl rfl ?_
    refine V_iconst (v := 0) d_X7_gather_13 ic_0 ?_
    obtain ⟨μ1, hμ1, hf⟩ := ob hf
    refine B_iast k_258 hμ1 d_X7_gather_14 ?_
    refine V_iinc (v := (l2 + 1)) (ls' := [_, _, _, _]) d_X7_gather_15 rfl (by rw [ic_1]) rfl ?_
    refine V_goto (tgt := 2) d_X7_gather_18 (by decide) ?_
    refine V_less (ls' := [some _, some _, some _, none]) ⟨rfl, rfl, rfl, trivial⟩ ?_
    cases hf
    exact hK.1 _ rfl _
theorem s_X7_gather_j53_25 {G : Gl} (hG : G.1.stackTraces = false) {C : Cx} {n : Nat} {μ : Mem} {a1 : Nat} {l2 : Int32} {l3 : Int32} (ha1 : a1 ∈ landL) {y : ((Int32 × Int32 × Mem) ⊕ (Int32 × Mem))} (hf : f_X7_gather_j53_25 μ a1 l2 l3 = some y) (hK : (∀ z', y = .inl z' → ∀ n, V G C F_X7_gather 25 [some (.ref (G.2.1 + 256)), some (.ref (G.2.1 + a1)), some (.int z'.1), some (.int z'.2.1)] [] (pic G z'.2.2) n 0 0) ∧ (∀ x', y = .inr x' → ∀ n, V G C F_X7_gather 59 [none, none, some (.int x'.1), none] [] (pic G x'.2) n 0 0)) : V G C F_X7_gather 53 [some (.ref (G.2.1 + 256)), some (.ref (G.2.1 + a1)), some (.int l2), some (.int l3)] [] (pic G μ) n 0 0 := by
  unfold f_X7_gather_j53_25 at hf
  refine V_iinc (v := (l3 + 1)) (ls' := [_, _, _, _]) d_X7_gather_53 rfl (by rw [ic_1]) rfl ?_
  refine V_goto (tgt := 25) d_X7_gather_56 (by decide) ?_
  refine V_less (ls' := [some _, some _, some _, some _]) ⟨rfl, rfl, rfl, rfl, trivial⟩ ?_
  cases hf
  exact hK.1 _ rfl _
theorem s_X7_gather_b25 {G : Gl} (hG : G.1.stackTraces = false) {C : Cx} {n : Nat} {μ : Mem} {a1 : Nat} {l2 : Int32} {l3 : Int32} (ha1 : a1 ∈ landL) {y : ((Int32 × Int32 × Mem) ⊕ (Int32 × Mem))} (hf : f_X7_gather_b25 μ a1 l2 l3 = some y) (hK : (∀ z', y = .inl z' → ∀ n, V G C F_X7_gather 25 [some (.ref (G.2.1 + 256)), some (.ref (G.2.1 + a1)), some (.int z'.1), some (.int z'.2.1)] [] (pic G z'.2.2) n 0 0) ∧ (∀ x', y = .inr x' → ∀ n, V G C F_X7_gather 59 [none, none, some (.int x'.1), none] [] (pic G x'.2) n 0 0)) : V G C F_X7_gather 25 [some (.ref (G.2.1 + 256)), some (.ref (G.2.1 + a1)), some (.int l2), some (.int l3)] [] (pic G μ) n 0 0 := by
  unfold f_X7_gather_b25 at hf
  refine V_iload_n d_X7_gather_25 rfl rfl ?_
  refine V_iconst (v := 2) d_X7_gather_26 ic_2 ?_
  refine V_aload_n d_X7_gather_27 rfl rfl ?_
  refine B_get (kLand _ ha1) fl_RX7_58 d_X7_gather_28 g_2_0 ?_
  refine V_imul d_X7_gather_31 ?_
  refine V_icmp_ge (tgt := 59) d_X7_gather_32 (by decide) (fun c32 => ?_) (fun c32 => ?_)
  · replace hf := iteT c32 hf
    refine V_less (ls' := [none, none, some _, none]) ⟨rfl, trivial⟩ ?_
    cases hf
    exact hK.2 _ rfl _
  · replace hf := iteF c32 hf
    refine V_aload_n d_X7_gather_35 rfl rfl ?_
    refine V_iload_n d_X7_gather_36 rfl rfl ?_
    obtain ⟨t1, ht1, hf⟩ := ob hf
    refine B_callV1 (s_X2_isPledged hG ha1 ht1) (kLand _ ha1) clX2 m_X2_isPledged kv_RX7_61 d_X7_gather_37 rfl (Nat.le_of_ble_eq_true rfl) ⟨rfl, rfl, Nat.le_of_ble_eq_true rfl, Nat.le_of_ble_eq_true rfl, Nat.le_of_ble_eq_true rfl⟩ (fun n => ?_)
    refine V_if_eq (tgt := 53) d_X7_gather_40 (by decide) (fun c40 => ?_) (fun c40 => ?_)
    · replace hf := iteF (b2i_nt (b2i_eq0 c40)) hf
      refine V_less (ls' := [some _, some _, some _, some _]) ⟨rfl, rfl, rfl, rfl, trivial⟩ ?_
      exact s_X7_gather_j53_25 hG ha1 hf hK
    · replace hf := iteT (b2i_ne0 c40) hf
      refine V_aload_n d_X7_gather_43 rfl rfl ?_
      refine B_get k_256 fl_RX7_9 d_X7_gather_44 g_7_0 ?_
      refine V_iload_n d_X7_gather_47 rfl rfl ?_
      refine V_iload_n d_X7_gather_48 rfl rfl ?_
      obtain ⟨μ2, hμ2, hf⟩ := ob hf
      refine B_iast k_257 hμ2 d_X7_gather_49 ?_
      refine V_iinc (v := (l2 + 1)) (ls' := [_, _, _, _]) d_X7_gather_50 rfl (by rw [ic_1]) rfl ?_
      refine V_less (ls' := [some _, some _, some _, some _]) ⟨rfl, rfl, rfl, rfl, trivial⟩ ?_
      exact s_X7_gather_j53_25 hG ha1 hf hK
theorem s_X7_gather_j59 {G : Gl} (hG : G.1.stackTraces = false) {C : Cx} {n : Nat} {μ : Mem} {a1 : Nat} {l2 : Int32} (ha1 : a1 ∈ landL) {r : (Int32 × Mem)} (hf : f_X7_gather_j59 μ a1 l2 = some r) (hK : FinR G C F_X7_gather (some .int) (some (.int r.1)) r.2) : V G C F_X7_gather 59 [none, none, some (.int l2), none] [] (pic G μ) n 0 0 := by
  unfold f_X7_gather_j59 at hf
  refine V_iload_n d_X7_gather_59 rfl rfl ?_
  cases hf
  exact R_i hK d_X7_gather_60 (Nat.le_of_ble_eq_true rfl) (Nat.le_of_ble_eq_true rfl)
theorem s_X7_gather_l25 {G : Gl} (hG : G.1.stackTraces = false) {C : Cx} {n : Nat} {μ : Mem} {a1 : Nat} {l2 : Int32} {l3 : Int32} (ha1 : a1 ∈ landL) {r : (Int32 × Mem)} (hf : f_X7_gather_l25 μ a1 l2 l3 = some r) (hK : FinR G C F_X7_gather (some .int) (some (.int r.1)) r.2) : V G C F_X7_gather 25 [some (.ref (G.2.1 + 256)), some (.ref (G.2.1 + a1)), some (.int l2), some (.int l3)] [] (pic G μ) n 0 0 := by
  unfold f_X7_gather_l25 at hf
  obtain ⟨t, hl, hf⟩ := ob hf
  refine loopV (P := fun z => ∀ n, V G C F_X7_gather 25 [some (.ref (G.2.1 + 256)), some (.ref (G.2.1 + a1)), some (.int z.1), some (.int z.2.1)] [] (pic G z.2.2) n 0 0) (t := t) ?_ _ _ hl n
  intro z y' hy hI hT n
  refine s_X7_gather_b25 hG ha1 hy ⟨hI, fun x9 ex => ?_⟩
  have ex2 := hT x9 ex
  subst ex2
  intro n
  exact s_X7_gather_j59 hG ha1 hf hK
theorem s_X7_gather_j21 {G : Gl} (hG : G.1.stackTraces = false) {C : Cx} {n : Nat} {μ : Mem} {a1 : Nat} (ha1 : a1 ∈ landL) {r : (Int32 × Mem)} (hf : f_X7_gather_j21 μ a1 = some r) (hK : FinR G C F_X7_gather (some .int) (some (.int r.1)) r.2) : V G C F_X7_gather 21 [some (.ref (G.2.1 + 256)), some (.ref (G.2.1 + a1)), none, none] [] (pic G μ) n 0 0 := by
  unfold f_X7_gather_j21 at hf
  refine V_iconst (v := 0) d_X7_gather_21 ic_0 ?_
  refine V_istore_n (ls' := [_, _, _, _]) d_X7_gather_22 rfl rfl rfl ?_
  refine V_iconst (v := 0) d_X7_gather_23 ic_0 ?_
  refine V_istore_n (ls' := [_, _, _, _]) d_X7_gather_24 rfl rfl rfl ?_
  refine V_less (ls' := [some _, some _, some _, some _]) ⟨rfl, rfl, rfl, rfl, trivial⟩ ?_
  exact s_X7_gather_l25 hG ha1 hf hK
theorem s_X7_gather_l2 {G : Gl} (hG : G.1.stackTraces = false) {C : Cx} {n : Nat} {μ : Mem} {a1 : Nat} {l2 : Int32} (ha1 : a1 ∈ landL) {r : (Int32 × Mem)} (hf : f_X7_gather_l2 μ a1 l2 = some r) (hK : FinR G C F_X7_gather (some .int) (some (.int r.1)) r.2) : V G C F_X7_gather 2 [some (.ref (G.2.1 + 256)), some (.ref (G.2.1 + a1)), some (.int l2), none] [] (pic G μ) n 0 0 := by
  unfold f_X7_gather_l2 at hf
  obtain ⟨t, hl, hf⟩ := ob hf
  refine loopV (P := fun z => ∀ n, V G C F_X7_gather 2 [some (.ref (G.2.1 + 256)), some (.ref (G.2.1 + a1)), some (.int z.1), none] [] (pic G z.2) n 0 0) (t := t) ?_ _ _ hl n
  intro z y' hy hI hT n
  refine s_X7_gather_b2 hG ha1 hy ⟨hI, fun x9 ex => ?_⟩
  have ex2 := hT x9 ex
  subst ex2
  intro n
  exact s_X7_gather_j21 hG ha1 hf hK
theorem s_X7_gather_e {G : Gl} (hG : G.1.stackTraces = false) {C : Cx} {n : Nat} {μ : Mem} {a1 : Nat} (ha1 : a1 ∈ landL) {r : (Int32 × Mem)} (hf : f_X7_gather μ a1 = some r) (hK : FinR G C F_X7_gather (some .int) (some (.int r.1)) r.2) : V G C F_X7_gather 0 [some (.ref (G.2.1 + 256)), some (.ref (G.2.1 + a1)), none, none] [] (pic G μ) n 0 0 := by
  unfold f_X7_gather at hf
  refine V_iconst (v := 0) d_X7_gather_0 ic_0 ?_
  refine V_istore_n (ls' := [_, _, _, _]) d_X7_gather_1 rfl rfl rfl ?_
  refine V_less (ls' := [some _, some _, some _, none]) ⟨rfl, rfl, rfl, trivial⟩ ?_
  exact s_X7_gather_l2 hG ha1 hf hK
theorem s_X7_gather {G : Gl} (hG : G.1.stackTraces = false) {μ : Mem} {a1 : Nat} (ha1 : a1 ∈ landL) {r : (Int32 × Mem)} (hf : f_X7_gather μ a1 = some r) : Rt G yX7_gather F_X7_gather (some .int) [.ref (G.2.1 + 256), .ref (G.2.1 + a1)] μ (some (.int r.1)) r.2 := fun n => Sd.of hG ⟨by decide +kernel, rfl, rfl⟩ rfl (Nat.le_of_ble_eq_true rfl) rfl (fun C hK => s_X7_gather_e hG ha1 hf hK)
theorem d_J6_numberOfTrailingZeros_0f7a4_0 : decode cJ6_numberOfTrailingZeros_0f7a4 0 = .ok (.iload_n 0, 1) := by decide +kernel
theorem d_J6_numberOfTrailingZeros_0f7a4_1 : decode cJ6_numberOfTrailingZeros_0f7a4 1 = .ok (.iconst (-1), 1) := by decide +kernel
theorem d_J6_numberOfTrailingZeros_0f7a4_2 : decode cJ6_numberOfTrailingZeros_0f7a4 2 = .ok (.ixor, 1) := by decide +kernel
theorem d_J6_numberOfTrailingZeros_0f7a4_3 : decode cJ6_numberOfTrailingZeros_0f7a4 3 = .ok (.iload_n 0, 1) := by decide +kernel
theorem d_J6_numberOfTrailingZeros_0f7a4_4 : decode cJ6_numberOfTrailingZeros_0f7a4 4 = .ok (.iconst 1, 1) := by decide +kernel
theorem d_J6_numberOfTrailingZeros_0f7a4_5 : decode cJ6_numberOfTrailingZeros_0f7a4 5 = .ok (.isub, 1) := by decide +kernel
theorem d_J6_numberOfTrailingZeros_0f7a4_6 : decode cJ6_numberOfTrailingZeros_0f7a4 6 = .ok (.iand, 1) := by decide +kernel
theorem d_J6_numberOfTrailingZeros_0f7a4_7 : decode cJ6_numberOfTrailingZeros_0f7a4 7 = .ok (.istore_n 0, 1) := by decide +kernel
theorem d_J6_numberOfTrailingZeros_0f7a4_8 : decode cJ6_numberOfTrailingZeros_0f7a4 8 = .ok (.iload_n 0, 1) := by decide +kernel
theorem d_J6_numberOfTrailingZeros_0f7a4_9 : decode cJ6_numberOfTrailingZeros_0f7a4 9 = .ok (.ifCond .gt 8, 3) := by decide +kernel
theorem d_J6_numberOfTrailingZeros_0f7a4_12 : decode cJ6_numberOfTrailingZeros_0f7a4 12 = .ok (.iload_n 0, 1) := by decide +kernel
theorem d_J6_numberOfTrailingZeros_0f7a4_13 : decode cJ6_numberOfTrailingZeros_0f7a4 13 = .ok (.bipush 32, 2) := by decide +kernel
theorem d_J6_numberOfTrailingZeros_0f7a4_15 : decode cJ6_numberOfTrailingZeros_0f7a4 15 = .ok (.iand, 1) := by decide +kernel
theorem d_J6_numberOfTrailingZeros_0f7a4_16 : decode cJ6_numberOfTrailingZeros_0f7a4 16 = .ok (.ireturn, 1) := by decide +kernel
theorem d_J6_numberOfTrailingZeros_0f7a4_17 : decode cJ6_numberOfTrailingZeros_0f7a4 17 = .ok (.iconst 1, 1) := by decide +kernel
theorem d_J6_numberOfTrailingZeros_0f7a4_18 : decode cJ6_numberOfTrailingZeros_0f7a4 18 = .ok (.istore_n 1, 1) := by decide +kernel
theorem d_J6_numberOfTrailingZeros_0f7a4_19 : decode cJ6_numberOfTrailingZeros_0f7a4 19 = .ok (.iload_n 0, 1) := by decide +kernel
theorem d_J6_numberOfTrailingZeros_0f7a4_20 : decode cJ6_numberOfTrailingZeros_0f7a4 20 = .ok (.ldc_w 264, 3) := by decide +kernel
theorem d_J6_numberOfTrailingZeros_0f7a4_23 : decode cJ6_numberOfTrailingZeros_0f7a4 23 = .ok (.if_icmp .le 11, 3) := by decide +kernel
theorem d_J6_numberOfTrailingZeros_0f7a4_26 : decode cJ6_numberOfTrailingZeros_0f7a4 26 = .ok (.iinc 1 16, 3) := by decide +kernel
theorem d_J6_numberOfTrailingZeros_0f7a4_29 : decode cJ6_numberOfTrailingZeros_0f7a4 29 = .ok (.iload_n 0, 1) := by decide +kernel
theorem d_J6_numberOfTrailingZeros_0f7a4_30 : decode cJ6_numberOfTrailingZeros_0f7a4 30 = .ok (.bipush 16, 2) := by decide +kernel
theorem d_J6_numberOfTrailingZeros_0f7a4_32 : decode cJ6_numberOfTrailingZeros_0f7a4 32 = .ok (.iushr, 1) := by decide +kernel
theorem d_J6_numberOfTrailingZeros_0f7a4_33 : decode cJ6_numberOfTrailingZeros_0f7a4 33 = .ok (.istore_n 0, 1) := by decide +kernel
theorem d_J6_numberOfTrailingZeros_0f7a4_34 : decode cJ6_numberOfTrailingZeros_0f7a4 34 = .ok (.iload_n 0, 1) := by decide +kernel
theorem d_J6_numberOfTrailingZeros_0f7a4_35 : decode cJ6_numberOfTrailingZeros_0f7a4 35 = .ok (.sipush 256, 3) := by decide +kernel
theorem d_J6_numberOfTrailingZeros_0f7a4_38 : decode cJ6_numberOfTrailingZeros_0f7a4 38 = .ok (.if_icmp .le 11, 3) := by decide +kernel
theorem d_J6_numberOfTrailingZeros_0f7a4_41 : decode cJ6_numberOfTrailingZeros_0f7a4 41 = .ok (.iinc 1 8, 3) := by decide +kernel
theorem d_J6_numberOfTrailingZeros_0f7a4_44 : decode cJ6_numberOfTrailingZeros_0f7a4 44 = .ok (.iload_n 0, 1) := by decide +kernel
theorem d_J6_numberOfTrailingZeros_0f7a4_45 : decode cJ6_numberOfTrailingZeros_0f7a4 45 = .ok (.bipush 8, 2) := by decide +kernel
theorem d_J6_numberOfTrailingZeros_0f7a4_47 : decode cJ6_numberOfTrailingZeros_0f7a4 47 = .ok (.iushr, 1) := by decide +kernel
theorem d_J6_numberOfTrailingZeros_0f7a4_48 : decode cJ6_numberOfTrailingZeros_0f7a4 48 = .ok (.istore_n 0, 1) := by decide +kernel
theorem d_J6_numberOfTrailingZeros_0f7a4_49 : decode cJ6_numberOfTrailingZeros_0f7a4 49 = .ok (.iload_n 0, 1) := by decide +kernel
theorem d_J6_numberOfTrailingZeros_0f7a4_50 : decode cJ6_numberOfTrailingZeros_0f7a4 50 = .ok (.bipush 16, 2) := by decide +kernel
theorem d_J6_numberOfTrailingZeros_0f7a4_52 : decode cJ6_numberOfTrailingZeros_0f7a4 52 = .ok (.if_icmp .le 10, 3) := by decide +kernel
theorem d_J6_numberOfTrailingZeros_0f7a4_55 : decode cJ6_numberOfTrailingZeros_0f7a4 55 = .ok (.iinc 1 4, 3) := by decide +kernel
theorem d_J6_numberOfTrailingZeros_0f7a4_58 : decode cJ6_numberOfTrailingZeros_0f7a4 58 = .ok (.iload_n 0, 1) := by decide +kernel
theorem d_J6_numberOfTrailingZeros_0f7a4_59 : decode cJ6_numberOfTrailingZeros_0f7a4 59 = .ok (.iconst 4, 1) := by decide +kernel
theorem d_J6_numberOfTrailingZeros_0f7a4_60 : decode cJ6_numberOfTrailingZeros_0f7a4 60 = .ok (.iushr, 1) := by decide +kernel
theorem d_J6_numberOfTrailingZeros_0f7a4_61 : decode cJ6_numberOfTrailingZeros_0f7a4 61 = .ok (.istore_n 0, 1) := by decide +kernel
theorem d_J6_numberOfTrailingZeros_0f7a4_62 : decode cJ6_numberOfTrailingZeros_0f7a4 62 = .ok (.iload_n 0, 1) := by decide +kernel
theorem d_J6_numberOfTrailingZeros_0f7a4_63 : decode cJ6_numberOfTrailingZeros_0f7a4 63 = .ok (.iconst 4, 1) := by decide +kernel
theorem d_J6_numberOfTrailingZeros_0f7a4_64 : decode cJ6_numberOfTrailingZeros_0f7a4 64 = .ok (.if_icmp .le 10, 3) := by decide +kernel
theorem d_J6_numberOfTrailingZeros_0f7a4_67 : decode cJ6_numberOfTrailingZeros_0f7a4 67 = .ok (.iinc 1 2, 3) := by decide +kernel
theorem d_J6_numberOfTrailingZeros_0f7a4_70 : decode cJ6_numberOfTrailingZeros_0f7a4 70 = .ok (.iload_n 0, 1) := by decide +kernel
theorem d_J6_numberOfTrailingZeros_0f7a4_71 : decode cJ6_numberOfTrailingZeros_0f7a4 71 = .ok (.iconst 2, 1) := by decide +kernel
theorem d_J6_numberOfTrailingZeros_0f7a4_72 : decode cJ6_numberOfTrailingZeros_0f7a4 72 = .ok (.iushr, 1) := by decide +kernel
theorem d_J6_numberOfTrailingZeros_0f7a4_73 : decode cJ6_numberOfTrailingZeros_0f7a4 73 = .ok (.istore_n 0, 1) := by decide +kernel
theorem d_J6_numberOfTrailingZeros_0f7a4_74 : decode cJ6_numberOfTrailingZeros_0f7a4 74 = .ok (.iload_n 1, 1) := by decide +kernel
theorem d_J6_numberOfTrailingZeros_0f7a4_75 : decode cJ6_numberOfTrailingZeros_0f7a4 75 = .ok (.iload_n 0, 1) := by decide +kernel
theorem d_J6_numberOfTrailingZeros_0f7a4_76 : decode cJ6_numberOfTrailingZeros_0f7a4 76 = .ok (.iconst 1, 1) := by decide +kernel
theorem d_J6_numberOfTrailingZeros_0f7a4_77 : decode cJ6_numberOfTrailingZeros_0f7a4 77 = .ok (.iushr, 1) := by decide +kernel
theorem d_J6_numberOfTrailingZeros_0f7a4_78 : decode cJ6_numberOfTrailingZeros_0f7a4 78 = .ok (.iadd, 1) := by decide +kernel
theorem d_J6_numberOfTrailingZeros_0f7a4_79 : decode cJ6_numberOfTrailingZeros_0f7a4 79 = .ok (.ireturn, 1) := by decide +kernel
theorem s_J6_numberOfTrailingZeros_0f7a4_j74 {G : Gl} (hG : G.1.stackTraces = false) {C : Cx} {n : Nat} {μ : Mem} {l0 : Int32} {l1 : Int32} {r : Int32} (hf : f_J6_numberOfTrailingZeros_0f7a4_j74 μ l0 l1 = some r) (hK : FinR G C F_J6_numberOfTrailingZeros_0f7a4 (some .int) (some (.int r)) μ) : V G C F_J6_numberOfTrailingZeros_0f7a4 74 [some (.int l0), some (.int l1)] [] (pic G μ) n 0 0 := by
  unfold f_J6_numberOfTrailingZeros_0f7a4_j74 at hf
  refine V_iload_n d_J6_numberOfTrailingZeros_0f7a4_74 rfl rfl ?_
  refine V_iload_n d_J6_numberOfTrailingZeros_0f7a4_75 rfl rfl ?_
  refine V_iconst (v := 1) d_J6_numberOfTrailingZeros_0f7a4_76 ic_1 ?_
  refine V_iushr d_J6_numberOfTrailingZeros_0f7a4_77 ?_
  refine V_iadd d_J6_numberOfTrailingZeros_0f7a4_78 ?_
  cases hf
  exact R_i hK d_J6_numberOfTrailingZeros_0f7a4_79 (Nat.le_of_ble_eq_true rfl) (Nat.le_of_ble_eq_true rfl)
theorem s_J6_numberOfTrailingZeros_0f7a4_j62 {G : Gl} (hG : G.1.stackTraces = false) {C : Cx} {n : Nat} {μ : Mem} {l0 : Int32} {l1 : Int32} {r : Int32} (hf : f_J6_numberOfTrailingZeros_0f7a4_j62 μ l0 l1 = some r) (hK : FinR G C F_J6_numberOfTrailingZeros_0f7a4 (some .int) (some (.int r)) μ) : V G C F_J6_numberOfTrailingZeros_0f7a4 62 [some (.int l0), some (.int l1)] [] (pic G μ) n 0 0 := by
  unfold f_J6_numberOfTrailingZeros_0f7a4_j62 at hf
  refine V_iload_n d_J6_numberOfTrailingZeros_0f7a4_62 rfl rfl ?_
  refine V_iconst (v := 4) d_J6_numberOfTrailingZeros_0f7a4_63 ic_4 ?_
  refine V_icmp_le (tgt := 74) d_J6_numberOfTrailingZeros_0f7a4_64 (by decide) (fun c64 => ?_) (fun c64 => ?_)
  · replace hf := iteT c64 hf
    refine V_less (ls' := [some _, some _]) ⟨rfl, rfl, trivial⟩ ?_
    exact s_J6_numberOfTrailingZeros_0f7a4_j74 hG hf hK
  · replace hf := iteF c64 hf
    refine V_iinc (v := (l1 + 2)) (ls' := [_, _]) d_J6_numberOfTrailingZeros_0f7a4_67 rfl (by rw [ic_2]) rfl ?_
    refine V_iload_n d_J6_numberOfTrailingZeros_0f7a4_70 rfl rfl ?_
    refine V_iconst (v := 2) d_J6_numberOfTrailingZeros_0f7a4_71 ic_2 ?_
    refine V_iushr d_J6_numberOfTrailingZeros_0f7a4_72 ?_
    refine V_istore_n (ls' := [_, _]) d_J6_numberOfTrailingZeros_0f7a4_73 rfl rfl rfl ?_
    refine V_less (ls' := [some _, some _]) ⟨rfl, rfl, trivial⟩ ?_
    exact s_J6_numberOfTrailingZeros_0f7a4_j74 hG hf hK
theorem s_J6_numberOfTrailingZeros_0f7a4_j49 {G : Gl} (hG : G.1.stackTraces = false) {C : Cx} {n : Nat} {μ : Mem} {l0 : Int32} {l1 : Int32} {r : Int32} (hf : f_J6_numberOfTrailingZeros_0f7a4_j49 μ l0 l1 = some r) (hK : FinR G C F_J6_numberOfTrailingZeros_0f7a4 (some .int) (some (.int r)) μ) : V G C F_J6_numberOfTrailingZeros_0f7a4 49 [some (.int l0), some (.int l1)] [] (pic G μ) n 0 0 := by
  unfold f_J6_numberOfTrailingZeros_0f7a4_j49 at hf
  refine V_iload_n d_J6_numberOfTrailingZeros_0f7a4_49 rfl rfl ?_
  refine V_bipush (v := 16) d_J6_numberOfTrailingZeros_0f7a4_50 bp_16 ?_
  refine V_icmp_le (tgt := 62) d_J6_numberOfTrailingZeros_0f7a4_52 (by decide) (fun c52 => ?_) (fun c52 => ?_)
  · replace hf := iteT c52 hf
    refine V_less (ls' := [some _, some _]) ⟨rfl, rfl, trivial⟩ ?_
    exact s_J6_numberOfTrailingZeros_0f7a4_j62 hG hf hK
  · replace hf := iteF c52 hf
    refine V_iinc (v := (l1 + 4)) (ls' := [_, _]) d_J6_numberOfTrailingZeros_0f7a4_55 rfl (by rw [ic_4]) rfl ?_
    refine V_iload_n d_J6_numberOfTrailingZeros_0f7a4_58 rfl rfl ?_
    refine V_iconst (v := 4) d_J6_numberOfTrailingZeros_0f7a4_59 ic_4 ?_
    refine V_iushr d_J6_numberOfTrailingZeros_0f7a4_60 ?_
    refine V_istore_n (ls' := [_, _]) d_J6_numberOfTrailingZeros_0f7a4_61 rfl rfl rfl ?_
    refine V_less (ls' := [some _, some _]) ⟨rfl, rfl, trivial⟩ ?_
    exact s_J6_numberOfTrailingZeros_0f7a4_j62 hG hf hK
theorem s_J6_numberOfTrailingZeros_0f7a4_j34 {G : Gl} (hG : G.1.stackTraces = false) {C : Cx} {n : Nat} {μ : Mem} {l0 : Int32} {l1 : Int32} {r : Int32} (hf : f_J6_numberOfTrailingZeros_0f7a4_j34 μ l0 l1 = some r) (hK : FinR G C F_J6_numberOfTrailingZeros_0f7a4 (some .int) (some (.int r)) μ) : V G C F_J6_numberOfTrailingZeros_0f7a4 34 [some (.int l0), some (.int l1)] [] (pic G μ) n 0 0 := by
  unfold f_J6_numberOfTrailingZeros_0f7a4_j34 at hf
  refine V_iload_n d_J6_numberOfTrailingZeros_0f7a4_34 rfl rfl ?_
  refine V_sipush (v := 256) d_J6_numberOfTrailingZeros_0f7a4_35 sp_256 ?_
  refine V_icmp_le (tgt := 49) d_J6_numberOfTrailingZeros_0f7a4_38 (by decide) (fun c38 => ?_) (fun c38 => ?_)
  · replace hf := iteT c38 hf
    refine V_less (ls' := [some _, some _]) ⟨rfl, rfl, trivial⟩ ?_
    exact s_J6_numberOfTrailingZeros_0f7a4_j49 hG hf hK
  · replace hf := iteF c38 hf
    refine V_iinc (v := (l1 + 8)) (ls' := [_, _]) d_J6_numberOfTrailingZeros_0f7a4_41 rfl (by rw [ic_8]) rfl ?_
    refine V_iload_n d_J6_numberOfTrailingZeros_0f7a4_44 rfl rfl ?_
    refine V_bipush (v := 8) d_J6_numberOfTrailingZeros_0f7a4_45 bp_8 ?_
    refine V_iushr d_J6_numberOfTrailingZeros_0f7a4_47 ?_
    refine V_istore_n (ls' := [_, _]) d_J6_numberOfTrailingZeros_0f7a4_48 rfl rfl rfl ?_
    refine V_less (ls' := [some _, some _]) ⟨rfl, rfl, trivial⟩ ?_
    exact s_J6_numberOfTrailingZeros_0f7a4_j49 hG hf hK
theorem s_J6_numberOfTrailingZeros_0f7a4_e {G : Gl} (hG : G.1.stackTraces = false) {C : Cx} {n : Nat} {μ : Mem} {p0 : Int32} {r : Int32} (hf : f_J6_numberOfTrailingZeros_0f7a4 μ p0 = some r) (hK : FinR G C F_J6_numberOfTrailingZeros_0f7a4 (some .int) (some (.int r)) μ) : V G C F_J6_numberOfTrailingZeros_0f7a4 0 [some (.int p0), none] [] (pic G μ) n 0 0 := by
  unfold f_J6_numberOfTrailingZeros_0f7a4 at hf
  refine V_iload_n d_J6_numberOfTrailingZeros_0f7a4_0 rfl rfl ?_
  refine V_iconst (v := (-1)) d_J6_numberOfTrailingZeros_0f7a4_1 ic_m1 ?_
  refine V_ixor d_J6_numberOfTrailingZeros_0f7a4_2 ?_
  refine V_iload_n d_J6_numberOfTrailingZeros_0f7a4_3 rfl rfl ?_
  refine V_iconst (v := 1) d_J6_numberOfTrailingZeros_0f7a4_4 ic_1 ?_
  refine V_isub d_J6_numberOfTrailingZeros_0f7a4_5 ?_
  refine V_iand d_J6_numberOfTrailingZeros_0f7a4_6 ?_
  refine V_istore_n (ls' := [_, _]) d_J6_numberOfTrailingZeros_0f7a4_7 rfl rfl rfl ?_
  refine V_iload_n d_J6_numberOfTrailingZeros_0f7a4_8 rfl rfl ?_
  refine V_if_gt (tgt := 17) d_J6_numberOfTrailingZeros_0f7a4_9 (by decide) (fun c9 => ?_) (fun c9 => ?_)
  · replace hf := iteT c9 hf
    refine V_iconst (v := 1) d_J6_numberOfTrailingZeros_0f7a4_17 ic_1 ?_
    refine V_istore_n (ls' := [_, _]) d_J6_numberOfTrailingZeros_0f7a4_18 rfl rfl rfl ?_
    refine V_iload_n d_J6_numberOfTrailingZeros_0f7a4_19 rfl rfl ?_
    refine V_ldcw (v := 65536) d_J6_numberOfTrailingZeros_0f7a4_20 w_433 ?_
    refine V_icmp_le (tgt := 34) d_J6_numberOfTrailingZeros_0f7a4_23 (by decide) (fun c23 => ?_) (fun c23 => ?_)
    · replace hf := iteT c23 hf
      refine V_less (ls' := [some _, some _]) ⟨rfl, rfl, trivial⟩ ?_
      exact s_J6_numberOfTrailingZeros_0f7a4_j34 hG hf hK
    · replace hf := iteF c23 hf
      refine V_iinc (v := (1 + 16)) (ls' := [_, _]) d_J6_numberOfTrailingZeros_0f7a4_26 rfl (by rw [ic_16]) rfl ?_
      refine V_iload_n d_J6_numberOfTrailingZeros_0f7a4_29 rfl rfl ?_
      refine V_bipush (v := 16) d_J6_numberOfTrailingZeros_0f7a4_30 bp_16 ?_
      refine V_iushr d_J6_numberOfTrailingZeros_0f7a4_32 ?_
      refine V_istore_n (ls' := [_, _]) d_J6_numberOfTrailingZeros_0f7a4_33 rfl rfl rfl ?_
      refine V_less (ls' := [some _, some _]) ⟨rfl, rfl, trivial⟩ ?_
      exact s_J6_numberOfTrailingZeros_0f7a4_j34 hG hf hK
  · replace hf := iteF c9 hf
    refine V_iload_n d_J6_numberOfTrailingZeros_0f7a4_12 rfl rfl ?_
    refine V_bipush (v := 32) d_J6_numberOfTrailingZeros_0f7a4_13 bp_32 ?_
    refine V_iand d_J6_numberOfTrailingZeros_0f7a4_15 ?_
    cases hf
    exact R_i hK d_J6_numberOfTrailingZeros_0f7a4_16 (Nat.le_of_ble_eq_true rfl) (Nat.le_of_ble_eq_true rfl)
theorem s_J6_numberOfTrailingZeros_0f7a4 {G : Gl} (hG : G.1.stackTraces = false) {μ : Mem} {p0 : Int32} {r : Int32} (hf : f_J6_numberOfTrailingZeros_0f7a4 μ p0 = some r) : Rt G yJ6_numberOfTrailingZeros_0f7a4 F_J6_numberOfTrailingZeros_0f7a4 (some .int) [.int p0] μ (some (.int r)) μ := fun n => Sd.ofJ hG ⟨by decide +kernel, rfl, rfl⟩ rfl (Nat.le_of_ble_eq_true rfl) rfl (fun C hK => s_J6_numberOfTrailingZeros_0f7a4_e hG hf hK)
theorem d_X7_isBalanced_0 : decode cX7_isBalanced 0 = .ok (.iconst 0, 1) := by decide +kernel
theorem d_X7_isBalanced_1 : decode cX7_isBalanced 1 = .ok (.istore_n 1, 1) := by decide +kernel
theorem d_X7_isBalanced_2 : decode cX7_isBalanced 2 = .ok (.iload_n 1, 1) := by decide +kernel
theorem d_X7_isBalanced_3 : decode cX7_isBalanced 3 = .ok (.bipush 6, 2) := by decide +kernel
theorem d_X7_isBalanced_5 : decode cX7_isBalanced 5 = .ok (.if_icmp .ge 20, 3) := by decide +kernel
theorem d_X7_isBalanced_8 : decode cX7_isBalanced 8 = .ok (.aload_n 0, 1) := by decide +kernel
theorem d_X7_isBalanced_9 : decode cX7_isBalanced 9 = .ok (.getfield 15, 3) := by decide +kernel
theorem d_X7_isBalanced_12 : decode cX7_isBalanced 12 = .ok (.iload_n 1, 1) := by decide +kernel
theorem d_X7_isBalanced_13 : decode cX7_isBalanced 13 = .ok (.iaload, 1) := by decide +kernel
theorem d_X7_isBalanced_14 : decode cX7_isBalanced 14 = .ok (.ifCond .eq 5, 3) := by decide +kernel
theorem d_X7_isBalanced_17 : decode cX7_isBalanced 17 = .ok (.iconst 0, 1) := by decide +kernel
theorem d_X7_isBalanced_18 : decode cX7_isBalanced 18 = .ok (.ireturn, 1) := by decide +kernel
theorem d_X7_isBalanced_19 : decode cX7_isBalanced 19 = .ok (.iinc 1 1, 3) := by decide +kernel
theorem d_X7_isBalanced_22 : decode cX7_isBalanced 22 = .ok (.goto (-20), 3) := by decide +kernel
theorem d_X7_isBalanced_25 : decode cX7_isBalanced 25 = .ok (.iconst 1, 1) := by decide +kernel
theorem d_X7_isBalanced_26 : decode cX7_isBalanced 26 = .ok (.ireturn, 1) := by decide +kernel
theorem s_X7_isBalanced_b2 {G : Gl} (hG : G.1.stackTraces = false) {C : Cx} {n : Nat} {μ : Mem} {l1 : Int32} {y : (Int32 ⊕ (Unit ⊕ Bool))} (hf : f_X7_isBalanced_b2 μ l1 = some y) (hK : (∀ z', y = .inl z' → ∀ n, V G C F_X7_isBalanced 2 [some (.ref (G.2.1 + 256)), some (.int z')] [] (pic G μ) n 0 0) ∧ (∀ x', y = .inr x' → ((∀ x'', x' = .inl x'' → ∀ n, V G C F_X7_isBalanced 25 [none, none] [] (pic G μ) n 0 0) ∧ (∀ x''', x' = .inr x''' → FinR G C F_X7_isBalanced (some .boolean) (some (.int (b2i x'''))) μ)))) : V G C F_X7_isBalanced 2 [some (.ref (G.2.1 + 256)), some (.int l1)] [] (pic G μ) n 0 0 := by
  unfold f_X7_isBalanced_b2 at hf
  refine V_iload_n d_X7_isBalanced_2 rfl rfl ?_
  refine V_bipush (v := 6) d_X7_isBalanced_3 bp_6 ?_
  refine V_icmp_ge (tgt := 25) d_X7_isBalanced_5 (by decide) (fun c5 => ?_) (fun c5 => ?_)
  · replace hf := iteT c5 hf
    refine V_less (ls' := [none, none]) trivial ?_
    cases hf
    exact (hK.2 _ rfl).1 _ rfl _
  · replace hf := iteF c5 hf
    refine V_aload_n d_X7_isBalanced_8 rfl rfl ?_
    refine B_get k_256 fl_RX7_15 d_X7_isBalanced_9 g_7_1 ?_
    refine V_iload_n d_X7_isBalanced_12 rfl rfl ?_
    obtain ⟨t1, ht1, hf⟩ := ob hf
    refine B_iald k_258 ht1 d_X7_isBalanced_13 ?_
    refine V_if_eq (tgt := 19) d_X7_isBalanced_14 (by decide) (fun c14 => ?_) (fun c14 => ?_)
    · replace hf := iteT c14 hf
      refine V_iinc (v := (l1 + 1)) (ls' := [_, _]) d_X7_isBalanced_19 rfl (by rw [ic_1]) rfl ?_
      refine V_goto (tgt := 2) d_X7_isBalanced_22 (by decide) ?_
      refine V_less (ls' := [some _, some _]) ⟨rfl, rfl, trivial⟩ ?_
      cases hf
      exact hK.1 _ rfl _
    · replace hf := iteF c14 hf
      refine V_iconst (v := 0) d_X7_isBalanced_17 ic_0 ?_
      cases hf
      exact R_z ((hK.2 _ rfl).2 _ rfl) d_X7_isBalanced_18 (Nat.le_of_ble_eq_true rfl) (Nat.le_of_ble_eq_true rfl)
theorem s_X7_isBalanced_j25 {G : Gl} (hG : G.1.stackTraces = false) {C : Cx} {n : Nat} {μ : Mem}  {r : Bool} (hf : f_X7_isBalanced_j25 μ = some r) (hK : FinR G C F_X7_isBalanced (some .boolean) (some (.int (b2i r))) μ) : V G C F_X7_isBalanced 25 [none, none] [] (pic G μ) n 0 0 := by
  unfold f_X7_isBalanced_j25 at hf
  refine V_iconst (v := 1) d_X7_isBalanced_25 ic_1 ?_
  cases hf
  exact R_z hK d_X7_isBalanced_26 (Nat.le_of_ble_eq_true rfl) (Nat.le_of_ble_eq_true rfl)
theorem s_X7_isBalanced_l2 {G : Gl} (hG : G.1.stackTraces = false) {C : Cx} {n : Nat} {μ : Mem} {l1 : Int32} {r : Bool} (hf : f_X7_isBalanced_l2 μ l1 = some r) (hK : FinR G C F_X7_isBalanced (some .boolean) (some (.int (b2i r))) μ) : V G C F_X7_isBalanced 2 [some (.ref (G.2.1 + 256)), some (.int l1)] [] (pic G μ) n 0 0 := by
  unfold f_X7_isBalanced_l2 at hf
  obtain ⟨t, hl, hf⟩ := ob hf
  refine loopV (P := fun z => ∀ n, V G C F_X7_isBalanced 2 [some (.ref (G.2.1 + 256)), some (.int z)] [] (pic G μ) n 0 0) (t := t) ?_ _ _ hl n
  intro z y' hy hI hT n
  refine s_X7_isBalanced_b2 hG hy ⟨hI, fun x9 ex => ?_⟩
  have ex2 := hT x9 ex
  subst ex2
  refine ⟨fun e he => ?_, fun x2 hx => ?_⟩
  · subst he
    intro n
    exact s_X7_isBalanced_j25 hG hf hK
  · subst hx
    cases hf
    exact hK
theorem s_X7_isBalanced_e {G : Gl} (hG : G.1.stackTraces = false) {C : Cx} {n : Nat} {μ : Mem}  {r : Bool} (hf : f_X7_isBalanced μ = some r) (hK : FinR G C F_X7_isBalanced (some .boolean) (some (.int (b2i r))) μ) : V G C F_X7_isBalanced 0 [some (.ref (G.2.1 + 256)), none] [] (pic G μ) n 0 0 := by
  unfold f_X7_isBalanced at hf
  refine V_iconst (v := 0) d_X7_isBalanced_0 ic_0 ?_
  refine V_istore_n (ls' := [_, _]) d_X7_isBalanced_1 rfl rfl rfl ?_
  refine V_less (ls' := [some _, some _]) ⟨rfl, rfl, trivial⟩ ?_
  exact s_X7_isBalanced_l2 hG hf hK
theorem s_X7_isBalanced {G : Gl} (hG : G.1.stackTraces = false) {μ : Mem} {r : Bool} (hf : f_X7_isBalanced μ = some r) : Rt G yX7_isBalanced F_X7_isBalanced (some .boolean) [.ref (G.2.1 + 256)] μ (some (.int (b2i r))) μ := fun n => Sd.of hG ⟨by decide +kernel, rfl, rfl⟩ rfl (Nat.le_of_ble_eq_true rfl) rfl (fun C hK => s_X7_isBalanced_e hG hf hK)
theorem d_X7_take_0 : decode cX7_take 0 = .ok (.aload_n 0, 1) := by decide +kernel
theorem d_X7_take_1 : decode cX7_take 1 = .ok (.dup, 1) := by decide +kernel
theorem d_X7_take_2 : decode cX7_take 2 = .ok (.getfield 18, 3) := by decide +kernel
theorem d_X7_take_5 : decode cX7_take 5 = .ok (.iconst 1, 1) := by decide +kernel
theorem d_X7_take_6 : decode cX7_take 6 = .ok (.iadd, 1) := by decide +kernel
theorem d_X7_take_7 : decode cX7_take 7 = .ok (.putfield 18, 3) := by decide +kernel
theorem d_X7_take_10 : decode cX7_take 10 = .ok (.iload_n 1, 1) := by decide +kernel
theorem d_X7_take_11 : decode cX7_take 11 = .ok (.invokestatic 65, 3) := by decide +kernel
theorem d_X7_take_14 : decode cX7_take 14 = .ok (.aload_n 0, 1) := by decide +kernel
theorem d_X7_take_15 : decode cX7_take 15 = .ok (.getfield 22, 3) := by decide +kernel
theorem d_X7_take_18 : decode cX7_take 18 = .ok (.invokestatic 65, 3) := by decide +kernel
theorem d_X7_take_21 : decode cX7_take 21 = .ok (.isub, 1) := by decide +kernel
theorem d_X7_take_22 : decode cX7_take 22 = .ok (.istore_n 2, 1) := by decide +kernel
theorem d_X7_take_23 : decode cX7_take 23 = .ok (.iload_n 2, 1) := by decide +kernel
theorem d_X7_take_24 : decode cX7_take 24 = .ok (.ifCond .gt 15, 3) := by decide +kernel
theorem d_X7_take_27 : decode cX7_take 27 = .ok (.iload_n 2, 1) := by decide +kernel
theorem d_X7_take_28 : decode cX7_take 28 = .ok (.ifCond .ne 16, 3) := by decide +kernel
theorem d_X7_take_31 : decode cX7_take 31 = .ok (.iload_n 1, 1) := by decide +kernel
theorem d_X7_take_32 : decode cX7_take 32 = .ok (.aload_n 0, 1) := by decide +kernel
theorem d_X7_take_33 : decode cX7_take 33 = .ok (.getfield 22, 3) := by decide +kernel
theorem d_X7_take_36 : decode cX7_take 36 = .ok (.if_icmp .ge 8, 3) := by decide +kernel
theorem d_X7_take_39 : decode cX7_take 39 = .ok (.aload_n 0, 1) := by decide +kernel
theorem d_X7_take_40 : decode cX7_take 40 = .ok (.iload_n 1, 1) := by decide +kernel
theorem d_X7_take_41 : decode cX7_take 41 = .ok (.putfield 22, 3) := by decide +kernel
theorem d_X7_take_44 : decode cX7_take 44 = .ok (.return_, 1) := by decide +kernel
theorem s_X7_take_j44 {G : Gl} (hG : G.1.stackTraces = false) {C : Cx} {n : Nat} {μ : Mem}  {r : Mem} (hf : f_X7_take_j44 μ = some r) (hK : FinR G C F_X7_take none none r) : V G C F_X7_take 44 [none, none, none] [] (pic G μ) n 0 0 := by
  unfold f_X7_take_j44 at hf
  cases hf
  exact R_v hK d_X7_take_44 (Nat.le_of_ble_eq_true rfl) (Nat.le_of_ble_eq_true rfl)
theorem s_X7_take_j39 {G : Gl} (hG : G.1.stackTraces = false) {C : Cx} {n : Nat} {μ : Mem} {l1 : Int32} {r : Mem} (hf : f_X7_take_j39 μ l1 = some r) (hK : FinR G C F_X7_take none none r) : V G C F_X7_take 39 [some (.ref (G.2.1 + 256)), some (.int l1), none] [] (pic G μ) n 0 0 := by
  unfold f_X7_take_j39 at hf
  refine V_aload_n d_X7_take_39 rfl rfl ?_
  refine V_iload_n d_X7_take_40 rfl rfl ?_
  refine B_putI k_256 fl_RX7_22 pt_7_3 (Nat.le_of_ble_eq_true rfl) p_7_3 d_X7_take_41 ?_
  refine V_less (ls' := [none, none, none]) trivial ?_
  exact s_X7_take_j44 hG hf hK
theorem s_X7_take_e {G : Gl} (hG : G.1.stackTraces = false) {C : Cx} {n : Nat} {μ : Mem} {p1 : Int32} {r : Mem} (hf : f_X7_take μ p1 = some r) (hK : FinR G C F_X7_take none none r) : V G C F_X7_take 0 [some (.ref (G.2.1 + 256)), some (.int p1), none] [] (pic G μ) n 0 0 := by
  unfold f_X7_take at hf
  refine V_aload_n d_X7_take_0 rfl rfl ?_
  refine V_dup d_X7_take_1 rfl ?_
  refine B_get k_256 fl_RX7_18 d_X7_take_2 g_7_2 ?_
  refine V_iconst (v := 1) d_X7_take_5 ic_1 ?_
  refine V_iadd d_X7_take_6 ?_
  refine B_putI k_256 fl_RX7_18 pt_7_2 (Nat.le_of_ble_eq_true rfl) p_7_2 d_X7_take_7 ?_
  refine V_iload_n d_X7_take_10 rfl rfl ?_
  obtain ⟨t1, ht1, hf⟩ := ob hf
  refine B_callS1 (s_J6_bitCount_0f7a4 hG ht1) m_J6_bitCount_0f7a4 ks_RX7_65 d_X7_take_11 rfl (Nat.le_of_ble_eq_true rfl) ⟨rfl, rfl, Nat.le_of_ble_eq_true rfl, Nat.le_of_ble_eq_true rfl, Nat.le_of_ble_eq_true rfl⟩ (fun n => ?_)
  refine V_aload_n d_X7_take_14 rfl rfl ?_
  refine B_get k_256 fl_RX7_22 d_X7_take_15 g_7_3 ?_
  obtain ⟨t2, ht2, hf⟩ := ob hf
  refine B_callS1 (s_J6_bitCount_0f7a4 hG ht2) m_J6_bitCount_0f7a4 ks_RX7_65 d_X7_take_18 rfl (Nat.le_of_ble_eq_true rfl) ⟨rfl, rfl, Nat.le_of_ble_eq_true rfl, Nat.le_of_ble_eq_true rfl, Nat.le_of_ble_eq_true rfl⟩ (fun n => ?_)
  refine V_isub d_X7_take_21 ?_
  refine V_istore_n (ls' := [_, _, _]) d_X7_take_22 rfl rfl rfl ?_
  refine V_iload_n d_X7_take_23 rfl rfl ?_
  refine V_if_gt (tgt := 39) d_X7_take_24 (by decide) (fun c24 => ?_) (fun c24 => ?_)
  · replace hf := iteT c24 hf
    refine V_less (ls' := [some _, some _, none]) ⟨rfl, rfl, trivial⟩ ?_
    exact s_X7_take_j39 hG hf hK
  · replace hf := iteF c24 hf
    refine V_iload_n d_X7_take_27 rfl rfl ?_
    refine V_if_ne (tgt := 44) d_X7_take_28 (by decide) (fun c28 => ?_) (fun c28 => ?_)
    · replace hf := iteF c28 hf
      refine V_less (ls' := [none, none, none]) trivial ?_
      exact s_X7_take_j44 hG hf hK
    · replace hf := iteT c28 hf
      refine V_iload_n d_X7_take_31 rfl rfl ?_
      refine V_aload_n d_X7_take_32 rfl rfl ?_
      refine B_get k_256 fl_RX7_22 d_X7_take_33 g_7_3 ?_
      refine V_icmp_ge (tgt := 44) d_X7_take_36 (by decide) (fun c36 => ?_) (fun c36 => ?_)
      · replace hf := iteT c36 hf
        refine V_less (ls' := [none, none, none]) trivial ?_
        exact s_X7_take_j44 hG hf hK
      · replace hf := iteF c36 hf
        refine V_less (ls' := [some _, some _, none]) ⟨rfl, rfl, trivial⟩ ?_
        exact s_X7_take_j39 hG hf hK
theorem s_X7_take {G : Gl} (hG : G.1.stackTraces = false) {μ : Mem} {p1 : Int32} {r : Mem} (hf : f_X7_take μ p1 = some r) : Rt G yX7_take F_X7_take none [.ref (G.2.1 + 256), .int p1] μ none r := fun n => Sd.of hG ⟨by decide +kernel, rfl, rfl⟩ rfl (Nat.le_of_ble_eq_true rfl) rfl (fun C hK => s_X7_take_e hG hf hK)
theorem d_X7_seek_0 : decode cX7_seek 0 = .ok (.aload_n 0, 1) := by decide +kernel
theorem d_X7_seek_1 : decode cX7_seek 1 = .ok (.aload_n 1, 1) := by decide +kernel
theorem d_X7_seek_2 : decode cX7_seek 2 = .ok (.invokevirtual 25, 3) := by decide +kernel
theorem d_X7_seek_5 : decode cX7_seek 5 = .ok (.istore_n 2, 1) := by decide +kernel
theorem d_X7_seek_6 : decode cX7_seek 6 = .ok (.aload_n 0, 1) := by decide +kernel
theorem d_X7_seek_7 : decode cX7_seek 7 = .ok (.iconst 0, 1) := by decide +kernel
theorem d_X7_seek_8 : decode cX7_seek 8 = .ok (.putfield 18, 3) := by decide +kernel
theorem d_X7_seek_11 : decode cX7_seek 11 = .ok (.aload_n 0, 1) := by decide +kernel
theorem d_X7_seek_12 : decode cX7_seek 12 = .ok (.iconst 0, 1) := by decide +kernel
theorem d_X7_seek_13 : decode cX7_seek 13 = .ok (.putfield 22, 3) := by decide +kernel
theorem d_X7_seek_16 : decode cX7_seek 16 = .ok (.iconst 0, 1) := by decide +kernel
theorem d_X7_seek_17 : decode cX7_seek 17 = .ok (.istore_n 3, 1) := by decide +kernel
theorem d_X7_seek_18 : decode cX7_seek 18 = .ok (.iconst 1, 1) := by decide +kernel
theorem d_X7_seek_19 : decode cX7_seek 19 = .ok (.istore 4, 2) := by decide +kernel
theorem d_X7_seek_21 : decode cX7_seek 21 = .ok (.iload 4, 2) := by decide +kernel
theorem d_X7_seek_23 : decode cX7_seek 23 = .ok (.iconst 1, 1) := by decide +kernel
theorem d_X7_seek_24 : decode cX7_seek 24 = .ok (.iload_n 2, 1) := by decide +kernel
theorem d_X7_seek_25 : decode cX7_seek 25 = .ok (.ishl, 1) := by decide +kernel
theorem d_X7_seek_26 : decode cX7_seek 26 = .ok (.if_icmp .ge 101, 3) := by decide +kernel
theorem d_X7_seek_29 : decode cX7_seek 29 = .ok (.aload_n 0, 1) := by decide +kernel
theorem d_X7_seek_30 : decode cX7_seek 30 = .ok (.getfield 9, 3) := by decide +kernel
theorem d_X7_seek_33 : decode cX7_seek 33 = .ok (.iload 4, 2) := by decide +kernel
theorem d_X7_seek_35 : decode cX7_seek 35 = .ok (.invokestatic 29, 3) := by decide +kernel
theorem d_X7_seek_38 : decode cX7_seek 38 = .ok (.iaload, 1) := by decide +kernel
theorem d_X7_seek_39 : decode cX7_seek 39 = .ok (.istore 5, 2) := by decide +kernel
theorem d_X7_seek_41 : decode cX7_seek 41 = .ok (.iload_n 3, 1) := by decide +kernel
theorem d_X7_seek_42 : decode cX7_seek 42 = .ok (.iconst 1, 1) := by decide +kernel
theorem d_X7_seek_43 : decode cX7_seek 43 = .ok (.iload 5, 2) := by decide +kernel
theorem d_X7_seek_45 : decode cX7_seek 45 = .ok (.ishl, 1) := by decide +kernel
theorem d_X7_seek_46 : decode cX7_seek 46 = .ok (.ixor, 1) := by decide +kernel
theorem d_X7_seek_47 : decode cX7_seek 47 = .ok (.istore_n 3, 1) := by decide +kernel
theorem d_X7_seek_48 : decode cX7_seek 48 = .ok (.iload_n 3, 1) := by decide +kernel
theorem d_X7_seek_49 : decode cX7_seek 49 = .ok (.iload 5, 2) := by decide +kernel
theorem d_X7_seek_51 : decode cX7_seek 51 = .ok (.invokestatic 35, 3) := by decide +kernel
theorem d_X7_seek_54 : decode cX7_seek 54 = .ok (.ifCond .eq 13, 3) := by decide +kernel
theorem d_X7_seek_57 : decode cX7_seek 57 = .ok (.aload_n 1, 1) := by decide +kernel
theorem d_X7_seek_58 : decode cX7_seek 58 = .ok (.getfield 39, 3) := by decide +kernel
theorem d_X7_seek_61 : decode cX7_seek 61 = .ok (.iload 5, 2) := by decide +kernel
theorem d_X7_seek_63 : decode cX7_seek 63 = .ok (.iaload, 1) := by decide +kernel
theorem d_X7_seek_64 : decode cX7_seek 64 = .ok (.goto 11, 3) := by decide +kernel
theorem d_X7_seek_67 : decode cX7_seek 67 = .ok (.aload_n 1, 1) := by decide +kernel
theorem d_X7_seek_68 : decode cX7_seek 68 = .ok (.getfield 39, 3) := by decide +kernel
theorem d_X7_seek_71 : decode cX7_seek 71 = .ok (.iload 5, 2) := by decide +kernel
theorem d_X7_seek_73 : decode cX7_seek 73 = .ok (.iaload, 1) := by decide +kernel
theorem d_X7_seek_74 : decode cX7_seek 74 = .ok (.ineg, 1) := by decide +kernel
theorem d_X7_seek_75 : decode cX7_seek 75 = .ok (.istore 6, 2) := by decide +kernel
theorem d_X7_seek_77 : decode cX7_seek 77 = .ok (.aload_n 0, 1) := by decide +kernel
theorem d_X7_seek_78 : decode cX7_seek 78 = .ok (.getfield 15, 3) := by decide +kernel
theorem d_X7_seek_81 : decode cX7_seek 81 = .ok (.iload 5, 2) := by decide +kernel
theorem d_X7_seek_83 : decode cX7_seek 83 = .ok (.invokestatic 44, 3) := by decide +kernel
theorem d_X7_seek_86 : decode cX7_seek 86 = .ok (.dup2, 1) := by decide +kernel
theorem d_X7_seek_87 : decode cX7_seek 87 = .ok (.iaload, 1) := by decide +kernel
theorem d_X7_seek_88 : decode cX7_seek 88 = .ok (.iload 6, 2) := by decide +kernel
theorem d_X7_seek_90 : decode cX7_seek 90 = .ok (.iadd, 1) := by decide +kernel
theorem d_X7_seek_91 : decode cX7_seek 91 = .ok (.iastore, 1) := by decide +kernel
theorem d_X7_seek_92 : decode cX7_seek 92 = .ok (.aload_n 0, 1) := by decide +kernel
theorem d_X7_seek_93 : decode cX7_seek 93 = .ok (.getfield 15, 3) := by decide +kernel
theorem d_X7_seek_96 : decode cX7_seek 96 = .ok (.aload_n 1, 1) := by decide +kernel
theorem d_X7_seek_97 : decode cX7_seek 97 = .ok (.getfield 47, 3) := by decide +kernel
theorem d_X7_seek_100 : decode cX7_seek 100 = .ok (.iload 5, 2) := by decide +kernel
theorem d_X7_seek_102 : decode cX7_seek 102 = .ok (.iaload, 1) := by decide +kernel
theorem d_X7_seek_103 : decode cX7_seek 103 = .ok (.dup2, 1) := by decide +kernel
theorem d_X7_seek_104 : decode cX7_seek 104 = .ok (.iaload, 1) := by decide +kernel
theorem d_X7_seek_105 : decode cX7_seek 105 = .ok (.iload 6, 2) := by decide +kernel
theorem d_X7_seek_107 : decode cX7_seek 107 = .ok (.isub, 1) := by decide +kernel
theorem d_X7_seek_108 : decode cX7_seek 108 = .ok (.iastore, 1) := by decide +kernel
theorem d_X7_seek_109 : decode cX7_seek 109 = .ok (.aload_n 0, 1) := by decide +kernel
theorem d_X7_seek_110 : decode cX7_seek 110 = .ok (.invokevirtual 50, 3) := by decide +kernel
theorem d_X7_seek_113 : decode cX7_seek 113 = .ok (.ifCond .eq 8, 3) := by decide +kernel
theorem d_X7_seek_116 : decode cX7_seek 116 = .ok (.aload_n 0, 1) := by decide +kernel
theorem d_X7_seek_117 : decode cX7_seek 117 = .ok (.iload_n 3, 1) := by decide +kernel
theorem d_X7_seek_118 : decode cX7_seek 118 = .ok (.invokevirtual 54, 3) := by decide +kernel
theorem d_X7_seek_121 : decode cX7_seek 121 = .ok (.iinc 4 1, 3) := by decide +kernel
theorem d_X7_seek_124 : decode cX7_seek 124 = .ok (.goto (-103), 3) := by decide +kernel
theorem d_X7_seek_127 : decode cX7_seek 127 = .ok (.return_, 1) := by decide +kernel
theorem s_X7_seek_j121_21 {G : Gl} (hG : G.1.stackTraces = false) {C : Cx} {n : Nat} {μ : Mem} {a1 : Nat} {l2 : Int32} {l3 : Int32} {l4 : Int32} (ha1 : a1 ∈ landL) {y : ((Int32 × Int32 × Mem) ⊕ Mem)} (hf : f_X7_seek_j121_21 μ a1 l2 l3 l4 = some y) (hK : (∀ z', y = .inl z' → ∀ n, V G C F_X7_seek 21 [some (.ref (G.2.1 + 256)), some (.ref (G.2.1 + a1)), some (.int l2), some (.int z'.1), some (.int z'.2.1), none, none] [] (pic G z'.2.2) n 0 0) ∧ (∀ x', y = .inr x' → ∀ n, V G C F_X7_seek 127 [none, none, none, none, none, none, none] [] (pic G x') n 0 0)) : V G C F_X7_seek 121 [some (.ref (G.2.1 + 256)), some (.ref (G.2.1 + a1)), some (.int l2), some (.int l3), some (.int l4), none, none] [] (pic G μ) n 0 0 := by
  unfold f_X7_seek_j121_21 at hf
  refine V_iinc (v := (l4 + 1)) (ls' := [_, _, _, _, _, _, _]) d_X7_seek_121 rfl (by rw [ic_1]) rfl ?_
  refine V_goto (tgt := 21) d_X7_seek_124 (by decide) ?_
  refine V_less (ls' := [some _, some _, some _, some _, some _, none, none]) ⟨rfl, rfl, rfl, rfl, rfl, trivial⟩ ?_
  cases hf
  exact hK.1 _ rfl _
theorem s_X7_seek_j75_21 {G : Gl} (hG : G.1.stackTraces = false) {C : Cx} {n : Nat} {μ : Mem} {a1 : Nat} {l2 : Int32} {l3 : Int32} {l4 : Int32} {l5 : Int32} {k0 : Int32} (ha1 : a1 ∈ landL) {y : ((Int32 × Int32 × Mem) ⊕ Mem)} (hf : f_X7_seek_j75_21 μ a1 l2 l3 l4 l5 k0 = some y) (hK : (∀ z', y = .inl z' → ∀ n, V G C F_X7_seek 21 [some (.ref (G.2.1 + 256)), some (.ref (G.2.1 + a1)), some (.int l2), some (.int z'.1), some (.int z'.2.1), none, none] [] (pic G z'.2.2) n 0 0) ∧ (∀ x', y = .inr x' → ∀ n, V G C F_X7_seek 127 [none, none, none, none, none, none, none] [] (pic G x') n 0 0)) : V G C F_X7_seek 75 [some (.ref (G.2.1 + 256)), some (.ref (G.2.1 + a1)), some (.int l2), some (.int l3), some (.int l4), some (.int l5), none] [.int k0] (pic G μ) n 0 0 := by
  unfold f_X7_seek_j75_21 at hf
  refine V_istore (ls' := [_, _, _, _, _, _, _]) d_X7_seek_75 rfl rfl ?_
  refine V_aload_n d_X7_seek_77 rfl rfl ?_
  refine B_get k_256 fl_RX7_15 d_X7_seek_78 g_7_1 ?_
  refine V_iload d_X7_seek_81 rfl ?_
  obtain ⟨t1, ht1, hf⟩ := ob hf
  refine B_callSN1 (s_X11_ownerOf hG ht1) m_X11_ownerOf ks_RX7_44 d_X7_seek_83 rfl (Nat.le_of_ble_eq_true rfl) ⟨rfl, rfl, Nat.le_of_ble_eq_true rfl, Nat.le_of_ble_eq_true rfl, Nat.le_of_ble_eq_true rfl⟩ (fun n => ?_)
  refine V_dup2 d_X7_seek_86 rfl rfl ?_
  obtain ⟨t2, ht2, hf⟩ := ob hf
  refine B_iald k_258 ht2 d_X7_seek_87 ?_
  refine V_iload d_X7_seek_88 rfl ?_
  refine V_iadd d_X7_seek_90 ?_
  obtain ⟨μ3, hμ3, hf⟩ := ob hf
  refine B_iast k_258 hμ3 d_X7_seek_91 ?_
  refine V_aload_n d_X7_seek_92 rfl rfl ?_
  refine B_get k_256 fl_RX7_15 d_X7_seek_93 g_7_1 ?_
  refine V_aload_n d_X7_seek_96 rfl rfl ?_
  refine B_get (kLand _ ha1) fl_RX7_47 d_X7_seek_97 g_2_12 ?_
  refine V_iload d_X7_seek_100 rfl ?_
  obtain ⟨t4, ht4, hf⟩ := ob hf
  refine B_iald (kLand_7 _ ha1) ht4 d_X7_seek_102 ?_
  refine V_dup2 d_X7_seek_103 rfl rfl ?_
  obtain ⟨t5, ht5, hf⟩ := ob hf
  refine B_iald k_258 ht5 d_X7_seek_104 ?_
  refine V_iload d_X7_seek_105 rfl ?_
  refine V_isub d_X7_seek_107 ?_
  obtain ⟨μ6, hμ6, hf⟩ := ob hf
  refine B_iast k_258 hμ6 d_X7_seek_108 ?_
  refine V_aload_n d_X7_seek_109 rfl rfl ?_
  obtain ⟨t7, ht7, hf⟩ := ob hf
  refine B_callV1 (s_X7_isBalanced hG ht7) k_256 clX7 m_X7_isBalanced kv_RX7_50 d_X7_seek_110 rfl (Nat.le_of_ble_eq_true rfl) ⟨rfl, rfl, Nat.le_of_ble_eq_true rfl, Nat.le_of_ble_eq_true rfl, Nat.le_of_ble_eq_true rfl⟩ (fun n => ?_)
  refine V_if_eq (tgt := 121) d_X7_seek_113 (by decide) (fun c113 => ?_) (fun c113 => ?_)
  · replace hf := iteF (b2i_nt (b2i_eq0 c113)) hf
    refine V_less (ls' := [some _, some _, some _, some _, some _, none, none]) ⟨rfl, rfl, rfl, rfl, rfl, trivial⟩ ?_
    exact s_X7_seek_j121_21 hG ha1 hf hK
  · replace hf := iteT (b2i_ne0 c113) hf
    refine V_aload_n d_X7_seek_116 rfl rfl ?_
    refine V_iload_n d_X7_seek_117 rfl rfl ?_
    obtain ⟨q8, hq8, hf⟩ := ob hf
    refine B_callV0 (s_X7_take hG hq8) k_256 clX7 m_X7_take kv_RX7_54 d_X7_seek_118 rfl (Nat.le_of_ble_eq_true rfl) ⟨rfl, rfl, Nat.le_of_ble_eq_true rfl, Nat.le_of_ble_eq_true rfl, Nat.le_of_ble_eq_true rfl⟩ (fun n => ?_)
    refine V_less (ls' := [some _, some _, some _, some _, some _, none, none]) ⟨rfl, rfl, rfl, rfl, rfl, trivial⟩ ?_
    exact s_X7_seek_j121_21 hG ha1 hf hK
theorem s_X7_seek_b21 {G : Gl} (hG : G.1.stackTraces = false) {C : Cx} {n : Nat} {μ : Mem} {a1 : Nat} {l2 : Int32} {l3 : Int32} {l4 : Int32} (ha1 : a1 ∈ landL) {y : ((Int32 × Int32 × Mem) ⊕ Mem)} (hf : f_X7_seek_b21 μ a1 l2 l3 l4 = some y) (hK : (∀ z', y = .inl z' → ∀ n, V G C F_X7_seek 21 [some (.ref (G.2.1 + 256)), some (.ref (G.2.1 + a1)), some (.int l2), some (.int z'.1), some (.int z'.2.1), none, none] [] (pic G z'.2.2) n 0 0) ∧ (∀ x', y = .inr x' → ∀ n, V G C F_X7_seek 127 [none, none, none, none, none, none, none] [] (pic G x') n 0 0)) : V G C F_X7_seek 21 [some (.ref (G.2.1 + 256)), some (.ref (G.2.1 + a1)), some (.int l2), some (.int l3), some (.int l4), none, none] [] (pic G μ) n 0 0 := by
  unfold f_X7_seek_b21 at hf
  refine V_iload d_X7_seek_21 rfl ?_
  refine V_iconst (v := 1) d_X7_seek_23 ic_1 ?_
  refine V_iload_n d_X7_seek_24 rfl rfl ?_
  refine V_ishl d_X7_seek_25 ?_
  refine V_icmp_ge (tgt := 127) d_X7_seek_26 (by decide) (fun c26 => ?_) (fun c26 => ?_)
  · replace hf := iteT c26 hf
    refine V_less (ls' := [none, none, none, none, none, none, none]) trivial ?_
    cases hf
    exact hK.2 _ rfl _
  · replace hf := iteF c26 hf
    refine V_aload_n d_X7_seek_29 rfl rfl ?_
    refine B_get k_256 fl_RX7_9 d_X7_seek_30 g_7_0 ?_
    refine V_iload d_X7_seek_33 rfl ?_
    obtain ⟨t1, ht1, hf⟩ := ob hf
    refine B_callS1 (s_J6_numberOfTrailingZeros_0f7a4 hG ht1) m_J6_numberOfTrailingZeros_0f7a4 ks_RX7_29 d_X7_seek_35 rfl (Nat.le_of_ble_eq_true rfl) ⟨rfl, rfl, Nat.le_of_ble_eq_true rfl, Nat.le_of_ble_eq_true rfl, Nat.le_of_ble_eq_true rfl⟩ (fun n => ?_)
    obtain ⟨t2, ht2, hf⟩ := ob hf
    refine B_iald k_257 ht2 d_X7_seek_38 ?_
    refine V_istore (ls' := [_, _, _, _, _, _, _]) d_X7_seek_39 rfl rfl ?_
    refine V_iload_n d_X7_seek_41 rfl rfl ?_
    refine V_iconst (v := 1) d_X7_seek_42 ic_1 ?_
    refine V_iload d_X7_seek_43 rfl ?_
    refine V_ishl d_X7_seek_45 ?_
    refine V_ixor d_X7_seek_46 ?_
    refine V_istore_n (ls' := [_, _, _, _, _, _, _]) d_X7_seek_47 rfl rfl rfl ?_
    refine V_iload_n d_X7_seek_48 rfl rfl ?_
    refine V_iload d_X7_seek_49 rfl ?_
    obtain ⟨t3, ht3, hf⟩ := ob hf
    refine B_callSN1 (s_X11_hasBit hG ht3) m_X11_hasBit ks_RX7_35 d_X7_seek_51 rfl (Nat.le_of_ble_eq_true rfl) ⟨rfl, rfl, Nat.le_of_ble_eq_true rfl, Nat.le_of_ble_eq_true rfl, Nat.le_of_ble_eq_true rfl⟩ (fun n => ?_)
    refine V_if_eq (tgt := 67) d_X7_seek_54 (by decide) (fun c54 => ?_) (fun c54 => ?_)
    · replace hf := iteF (b2i_nt (b2i_eq0 c54)) hf
      refine V_aload_n d_X7_seek_67 rfl rfl ?_
      refine B_get (kLand _ ha1) fl_RX7_39 d_X7_seek_68 g_2_13 ?_
      refine V_iload d_X7_seek_71 rfl ?_
      obtain ⟨t4, ht4, hf⟩ := ob hf
      refine B_iald (kLand_8 _ ha1) ht4 d_X7_seek_73 ?_
      refine V_ineg d_X7_seek_74 ?_
      refine V_less (ls' := [some _, some _, some _, some _, some _, some _, none]) ⟨rfl, rfl, rfl, rfl, rfl, rfl, trivial⟩ ?_
      exact s_X7_seek_j75_21 hG ha1 hf hK
    · replace hf := iteT (b2i_ne0 c54) hf
      refine V_aload_n d_X7_seek_57 rfl rfl ?_
      refine B_get (kLand _ ha1) fl_RX7_39 d_X7_seek_58 g_2_13 ?_
      refine V_iload d_X7_seek_61 rfl ?_
      obtain ⟨t5, ht5, hf⟩ := ob hf
      refine B_iald (kLand_8 _ ha1) ht5 d_X7_seek_63 ?_
      refine V_goto (tgt := 75) d_X7_seek_64 (by decide) ?_
      refine V_less (ls' := [some _, some _, some _, some _, some _, some _, none]) ⟨rfl, rfl, rfl, rfl, rfl, rfl, trivial⟩ ?_
      exact s_X7_seek_j75_21 hG ha1 hf hK
theorem s_X7_seek_j127 {G : Gl} (hG : G.1.stackTraces = false) {C : Cx} {n : Nat} {μ : Mem} {a1 : Nat} (ha1 : a1 ∈ landL) {r : Mem} (hf : f_X7_seek_j127 μ a1 = some r) (hK : FinR G C F_X7_seek none none r) : V G C F_X7_seek 127 [none, none, none, none, none, none, none] [] (pic G μ) n 0 0 := by
  unfold f_X7_seek_j127 at hf
  cases hf
  exact R_v hK d_X7_seek_127 (Nat.le_of_ble_eq_true rfl) (Nat.le_of_ble_eq_true rfl)
theorem s_X7_seek_l21 {G : Gl} (hG : G.1.stackTraces = false) {C : Cx} {n : Nat} {μ : Mem} {a1 : Nat} {l2 : Int32} {l3 : Int32} {l4 : Int32} (ha1 : a1 ∈ landL) {r : Mem} (hf : f_X7_seek_l21 μ a1 l2 l3 l4 = some r) (hK : FinR G C F_X7_seek none none r) : V G C F_X7_seek 21 [some (.ref (G.2.1 + 256)), some (.ref (G.2.1 + a1)), some (.int l2), some (.int l3), some (.int l4), none, none] [] (pic G μ) n 0 0 := by
  unfold f_X7_seek_l21 at hf
  obtain ⟨t, hl, hf⟩ := ob hf
  refine loopV (P := fun z => ∀ n, V G C F_X7_seek 21 [some (.ref (G.2.1 + 256)), some (.ref (G.2.1 + a1)), some (.int l2), some (.int z.1), some (.int z.2.1), none, none] [] (pic G z.2.2) n 0 0) (t := t) ?_ _ _ hl n
  intro z y' hy hI hT n
  refine s_X7_seek_b21 hG ha1 hy ⟨hI, fun x9 ex => ?_⟩
  have ex2 := hT x9 ex
  subst ex2
  intro n
  exact s_X7_seek_j127 hG ha1 hf hK
theorem s_X7_seek_e {G : Gl} (hG : G.1.stackTraces = false) {C : Cx} {n : Nat} {μ : Mem} {a1 : Nat} (ha1 : a1 ∈ landL) {r : Mem} (hf : f_X7_seek μ a1 = some r) (hK : FinR G C F_X7_seek none none r) : V G C F_X7_seek 0 [some (.ref (G.2.1 + 256)), some (.ref (G.2.1 + a1)), none, none, none, none, none] [] (pic G μ) n 0 0 := by
  unfold f_X7_seek at hf
  refine V_aload_n d_X7_seek_0 rfl rfl ?_
  refine V_aload_n d_X7_seek_1 rfl rfl ?_
  obtain ⟨q1, hq1, hf⟩ := ob hf
  refine B_callV1 (s_X7_gather hG ha1 hq1) k_256 clX7 m_X7_gather kv_RX7_25 d_X7_seek_2 rfl (Nat.le_of_ble_eq_true rfl) ⟨rfl, rfl, Nat.le_of_ble_eq_true rfl, Nat.le_of_ble_eq_true rfl, Nat.le_of_ble_eq_true rfl⟩ (fun n => ?_)
  refine V_istore_n (ls' := [_, _, _, _, _, _, _]) d_X7_seek_5 rfl rfl rfl ?_
  refine V_aload_n d_X7_seek_6 rfl rfl ?_
  refine V_iconst (v := 0) d_X7_seek_7 ic_0 ?_
  refine B_putI k_256 fl_RX7_18 pt_7_2 (Nat.le_of_ble_eq_true rfl) p_7_2 d_X7_seek_8 ?_
  refine V_aload_n d_X7_seek_11 rfl rfl ?_
  refine V_iconst (v := 0) d_X7_seek_12 ic_0 ?_
  refine B_putI k_256 fl_RX7_22 pt_7_3 (Nat.le_of_ble_eq_true rfl) p_7_3 d_X7_seek_13 ?_
  refine V_iconst (v := 0) d_X7_seek_16 ic_0 ?_
  refine V_istore_n (ls' := [_, _, _, _, _, _, _]) d_X7_seek_17 rfl rfl rfl ?_
  refine V_iconst (v := 1) d_X7_seek_18 ic_1 ?_
  refine V_istore (ls' := [_, _, _, _, _, _, _]) d_X7_seek_19 rfl rfl ?_
  refine V_less (ls' := [some _, some _, some _, some _, some _, none, none]) ⟨rfl, rfl, rfl, rfl, rfl, trivial⟩ ?_
  exact s_X7_seek_l21 hG ha1 hf hK
theorem s_X7_seek {G : Gl} (hG : G.1.stackTraces = false) {μ : Mem} {a1 : Nat} (ha1 : a1 ∈ landL) {r : Mem} (hf : f_X7_seek μ a1 = some r) : Rt G yX7_seek F_X7_seek none [.ref (G.2.1 + 256), .ref (G.2.1 + a1)] μ none r := fun n => Sd.of hG ⟨by decide +kernel, rfl, rfl⟩ rfl (Nat.le_of_ble_eq_true rfl) rfl (fun C hK => s_X7_seek_e hG ha1 hf hK)
theorem d_X8_add_0 : decode cX8_add 0 = .ok (.bipush 24, 2) := by decide +kernel
theorem d_X8_add_2 : decode cX8_add 2 = .ok (.istore_n 2, 1) := by decide +kernel
theorem d_X8_add_3 : decode cX8_add 3 = .ok (.iload_n 2, 1) := by decide +kernel
theorem d_X8_add_4 : decode cX8_add 4 = .ok (.ifCond .lt 45, 3) := by decide +kernel
theorem d_X8_add_7 : decode cX8_add 7 = .ok (.aload_n 0, 1) := by decide +kernel
theorem d_X8_add_8 : decode cX8_add 8 = .ok (.getfield 15, 3) := by decide +kernel
theorem d_X8_add_11 : decode cX8_add 11 = .ok (.sipush 400, 3) := by decide +kernel
theorem d_X8_add_14 : decode cX8_add 14 = .ok (.if_icmp .ge 35, 3) := by decide +kernel
theorem d_X8_add_17 : decode cX8_add 17 = .ok (.aload_n 0, 1) := by decide +kernel
theorem d_X8_add_18 : decode cX8_add 18 = .ok (.getfield 9, 3) := by decide +kernel
theorem d_X8_add_21 : decode cX8_add 21 = .ok (.aload_n 0, 1) := by decide +kernel
theorem d_X8_add_22 : decode cX8_add 22 = .ok (.getfield 15, 3) := by decide +kernel
theorem d_X8_add_25 : decode cX8_add 25 = .ok (.iload_n 1, 1) := by decide +kernel
theorem d_X8_add_26 : decode cX8_add 26 = .ok (.iload_n 2, 1) := by decide +kernel
theorem d_X8_add_27 : decode cX8_add 27 = .ok (.iushr, 1) := by decide +kernel
theorem d_X8_add_28 : decode cX8_add 28 = .ok (.sipush 255, 3) := by decide +kernel
theorem d_X8_add_31 : decode cX8_add 31 = .ok (.iand, 1) := by decide +kernel
theorem d_X8_add_32 : decode cX8_add 32 = .ok (.iastore, 1) := by decide +kernel
theorem d_X8_add_33 : decode cX8_add 33 = .ok (.aload_n 0, 1) := by decide +kernel
theorem d_X8_add_34 : decode cX8_add 34 = .ok (.dup, 1) := by decide +kernel
theorem d_X8_add_35 : decode cX8_add 35 = .ok (.getfield 15, 3) := by decide +kernel
theorem d_X8_add_38 : decode cX8_add 38 = .ok (.iconst 1, 1) := by decide +kernel
theorem d_X8_add_39 : decode cX8_add 39 = .ok (.iadd, 1) := by decide +kernel
theorem d_X8_add_40 : decode cX8_add 40 = .ok (.putfield 15, 3) := by decide +kernel
theorem d_X8_add_43 : decode cX8_add 43 = .ok (.iinc 2 (-8), 3) := by decide +kernel
theorem d_X8_add_46 : decode cX8_add 46 = .ok (.goto (-43), 3) := by decide +kernel
theorem d_X8_add_49 : decode cX8_add 49 = .ok (.return_, 1) := by decide +kernel
theorem s_X8_add_b3 {G : Gl} (hG : G.1.stackTraces = false) {C : Cx} {n : Nat} {μ : Mem} {l1 : Int32} {l2 : Int32} {y : ((Int32 × Mem) ⊕ Mem)} (hf : f_X8_add_b3 μ l1 l2 = some y) (hK : (∀ z', y = .inl z' → ∀ n, V G C F_X8_add 3 [some (.ref (G.2.1 + 1)), some (.int l1), some (.int z'.1)] [] (pic G z'.2) n 0 0) ∧ (∀ x', y = .inr x' → ∀ n, V G C F_X8_add 49 [none, none, none] [] (pic G x') n 0 0)) : V G C F_X8_add 3 [some (.ref (G.2.1 + 1)), some (.int l1), some (.int l2)] [] (pic G μ) n 0 0 := by
  unfold f_X8_add_b3 at hf
  refine V_iload_n d_X8_add_3 rfl rfl ?_
  refine V_if_lt (tgt := 49) d_X8_add_4 (by decide) (fun c4 => ?_) (fun c4 => ?_)
  · replace hf := iteT c4 hf
    refine V_less (ls' := [none, none, none]) trivial ?_
    cases hf
    exact hK.2 _ rfl _
  · replace hf := iteF c4 hf
    refine V_aload_n d_X8_add_7 rfl rfl ?_
    refine B_get k_1 fl_RX8_15 d_X8_add_8 g_8_1 ?_
    refine V_sipush (v := 400) d_X8_add_11 sp_400 ?_
    refine V_icmp_ge (tgt := 49) d_X8_add_14 (by decide) (fun c14 => ?_) (fun c14 => ?_)
    · replace hf := iteT c14 hf
      refine V_less (ls' := [none, none, none]) trivial ?_
      cases hf
      exact hK.2 _ rfl _
    · replace hf := iteF c14 hf
      refine V_aload_n d_X8_add_17 rfl rfl ?_
      refine B_get k_1 fl_RX8_9 d_X8_add_18 g_8_0 ?_
      refine V_aload_n d_X8_add_21 rfl rfl ?_
      refine B_get k_1 fl_RX8_15 d_X8_add_22 g_8_1 ?_
      refine V_iload_n d_X8_add_25 rfl rfl ?_
      refine V_iload_n d_X8_add_26 rfl rfl ?_
      refine V_iushr d_X8_add_27 ?_
      refine V_sipush (v := 255) d_X8_add_28 sp_255 ?_
      refine V_iand d_X8_add_31 ?_
      obtain ⟨μ1, hμ1, hf⟩ := ob hf
      refine B_iast k_2 hμ1 d_X8_add_32 ?_
      refine V_aload_n d_X8_add_33 rfl rfl ?_
      refine V_dup d_X8_add_34 rfl ?_
      refine B_get k_1 fl_RX8_15 d_X8_add_35 g_8_1 ?_
      refine V_iconst (v := 1) d_X8_add_38 ic_1 ?_
      refine V_iadd d_X8_add_39 ?_
      refine B_putI k_1 fl_RX8_15 pt_8_1 (Nat.le_of_ble_eq_true rfl) p_8_1 d_X8_add_40 ?_
      refine V_iinc (v := (l2 + (-8))) (ls' := [_, _, _]) d_X8_add_43 rfl (by rw [ic_m8]) rfl ?_
      refine V_goto (tgt := 3) d_X8_add_46 (by decide) ?_
      refine V_less (ls' := [some _, some _, some _]) ⟨rfl, rfl, rfl, trivial⟩ ?_
      cases hf
      exact hK.1 _ rfl _
theorem s_X8_add_j49 {G : Gl} (hG : G.1.stackTraces = false) {C : Cx} {n : Nat} {μ : Mem}  {r : Mem} (hf : f_X8_add_j49 μ = some r) (hK : FinR G C F_X8_add none none r) : V G C F_X8_add 49 [none, none, none] [] (pic G μ) n 0 0 := by
  unfold f_X8_add_j49 at hf
  cases hf
  exact R_v hK d_X8_add_49 (Nat.le_of_ble_eq_true rfl) (Nat.le_of_ble_eq_true rfl)
theorem s_X8_add_l3 {G : Gl} (hG : G.1.stackTraces = false) {C : Cx} {n : Nat} {μ : Mem} {l1 : Int32} {l2 : Int32} {r : Mem} (hf : f_X8_add_l3 μ l1 l2 = some r) (hK : FinR G C F_X8_add none none r) : V G C F_X8_add 3 [some (.ref (G.2.1 + 1)), some (.int l1), some (.int l2)] [] (pic G μ) n 0 0 := by
  unfold f_X8_add_l3 at hf
  obtain ⟨t, hl, hf⟩ := ob hf
  refine loopV (P := fun z => ∀ n, V G C F_X8_add 3 [some (.ref (G.2.1 + 1)), some (.int l1), some (.int z.1)] [] (pic G z.2) n 0 0) (t := t) ?_ _ _ hl n
  intro z y' hy hI hT n
  refine s_X8_add_b3 hG hy ⟨hI, fun x9 ex => ?_⟩
  have ex2 := hT x9 ex
  subst ex2
  intro n
  exact s_X8_add_j49 hG hf hK
theorem s_X8_add_e {G : Gl} (hG : G.1.stackTraces = false) {C : Cx} {n : Nat} {μ : Mem} {p1 : Int32} {r : Mem} (hf : f_X8_add μ p1 = some r) (hK : FinR G C F_X8_add none none r) : V G C F_X8_add 0 [some (.ref (G.2.1 + 1)), some (.int p1), none] [] (pic G μ) n 0 0 := by
  unfold f_X8_add at hf
  refine V_bipush (v := 24) d_X8_add_0 bp_24 ?_
  refine V_istore_n (ls' := [_, _, _]) d_X8_add_2 rfl rfl rfl ?_
  refine V_less (ls' := [some _, some _, some _]) ⟨rfl, rfl, rfl, trivial⟩ ?_
  exact s_X8_add_l3 hG hf hK
theorem s_X8_add {G : Gl} (hG : G.1.stackTraces = false) {μ : Mem} {p1 : Int32} {r : Mem} (hf : f_X8_add μ p1 = some r) : Rt G yX8_add F_X8_add none [.ref (G.2.1 + 1), .int p1] μ none r := fun n => Sd.of hG ⟨by decide +kernel, rfl, rfl⟩ rfl (Nat.le_of_ble_eq_true rfl) rfl (fun C hK => s_X8_add_e hG hf hK)
theorem d_X8_useUp_0 : decode cX8_useUp 0 = .ok (.aload_n 0, 1) := by decide +kernel
theorem d_X8_useUp_1 : decode cX8_useUp 1 = .ok (.getfield 15, 3) := by decide +kernel
theorem d_X8_useUp_4 : decode cX8_useUp 4 = .ok (.istore_n 1, 1) := by decide +kernel
theorem d_X8_useUp_5 : decode cX8_useUp 5 = .ok (.aload_n 0, 1) := by decide +kernel
theorem d_X8_useUp_6 : decode cX8_useUp 6 = .ok (.iconst 0, 1) := by decide +kernel
theorem d_X8_useUp_7 : decode cX8_useUp 7 = .ok (.putfield 15, 3) := by decide +kernel
theorem d_X8_useUp_10 : decode cX8_useUp 10 = .ok (.iload_n 1, 1) := by decide +kernel
theorem d_X8_useUp_11 : decode cX8_useUp 11 = .ok (.ireturn, 1) := by decide +kernel
theorem s_X8_useUp_e {G : Gl} (hG : G.1.stackTraces = false) {C : Cx} {n : Nat} {μ : Mem}  {r : (Int32 × Mem)} (hf : f_X8_useUp μ = some r) (hK : FinR G C F_X8_useUp (some .int) (some (.int r.1)) r.2) : V G C F_X8_useUp 0 [some (.ref (G.2.1 + 1)), none] [] (pic G μ) n 0 0 := by
  unfold f_X8_useUp at hf
  refine V_aload_n d_X8_useUp_0 rfl rfl ?_
  refine B_get k_1 fl_RX8_15 d_X8_useUp_1 g_8_1 ?_
  refine V_istore_n (ls' := [_, _]) d_X8_useUp_4 rfl rfl rfl ?_
  refine V_aload_n d_X8_useUp_5 rfl rfl ?_
  refine V_iconst (v := 0) d_X8_useUp_6 ic_0 ?_
  refine B_putI k_1 fl_RX8_15 pt_8_1 (Nat.le_of_ble_eq_true rfl) p_8_1 d_X8_useUp_7 ?_
  refine V_iload_n d_X8_useUp_10 rfl rfl ?_
  cases hf
  exact R_i hK d_X8_useUp_11 (Nat.le_of_ble_eq_true rfl) (Nat.le_of_ble_eq_true rfl)
theorem s_X8_useUp {G : Gl} (hG : G.1.stackTraces = false) {μ : Mem} {r : (Int32 × Mem)} (hf : f_X8_useUp μ = some r) : Rt G yX8_useUp F_X8_useUp (some .int) [.ref (G.2.1 + 1)] μ (some (.int r.1)) r.2 := fun n => Sd.of hG ⟨by decide +kernel, rfl, rfl⟩ rfl (Nat.le_of_ble_eq_true rfl) rfl (fun C hK => s_X8_useUp_e hG hf hK)
theorem d_X8_openText_0 : decode cX8_openText 0 = .ok (.aload_n 0, 1) := by decide +kernel
theorem d_X8_openText_1 : decode cX8_openText 1 = .ok (.aload_n 0, 1) := by decide +kernel
theorem d_X8_openText_2 : decode cX8_openText 2 = .ok (.invokevirtual 28, 3) := by decide +kernel
theorem d_X8_openText_5 : decode cX8_openText 5 = .ok (.putfield 19, 3) := by decide +kernel
theorem d_X8_openText_8 : decode cX8_openText 8 = .ok (.aload_n 0, 1) := by decide +kernel
theorem d_X8_openText_9 : decode cX8_openText 9 = .ok (.iconst (-1), 1) := by decide +kernel
theorem d_X8_openText_10 : decode cX8_openText 10 = .ok (.putfield 25, 3) := by decide +kernel
theorem d_X8_openText_13 : decode cX8_openText 13 = .ok (.aload_n 0, 1) := by decide +kernel
theorem d_X8_openText_14 : decode cX8_openText 14 = .ok (.iconst 0, 1) := by decide +kernel
theorem d_X8_openText_15 : decode cX8_openText 15 = .ok (.invokevirtual 32, 3) := by decide +kernel
theorem d_X8_openText_18 : decode cX8_openText 18 = .ok (.return_, 1) := by decide +kernel
theorem s_X8_openText_e {G : Gl} (hG : G.1.stackTraces = false) {C : Cx} {n : Nat} {μ : Mem}  {r : Mem} (hf : f_X8_openText μ = some r) (hK : FinR G C F_X8_openText none none r) : V G C F_X8_openText 0 [some (.ref (G.2.1 + 1))] [] (pic G μ) n 0 0 := by
  unfold f_X8_openText at hf
  refine V_aload_n d_X8_openText_0 rfl rfl ?_
  refine V_aload_n d_X8_openText_1 rfl rfl ?_
  obtain ⟨q1, hq1, hf⟩ := ob hf
  refine B_callV1 (s_X8_useUp hG hq1) k_1 clX8 m_X8_useUp kv_RX8_28 d_X8_openText_2 rfl (Nat.le_of_ble_eq_true rfl) ⟨rfl, rfl, Nat.le_of_ble_eq_true rfl, Nat.le_of_ble_eq_true rfl, Nat.le_of_ble_eq_true rfl⟩ (fun n => ?_)
  refine B_putI k_1 fl_RX8_19 pt_8_2 (Nat.le_of_ble_eq_true rfl) p_8_2 d_X8_openText_5 ?_
  refine V_aload_n d_X8_openText_8 rfl rfl ?_
  refine V_iconst (v := (-1)) d_X8_openText_9 ic_m1 ?_
  refine B_putI k_1 fl_RX8_25 pt_8_4 (Nat.le_of_ble_eq_true rfl) p_8_4 d_X8_openText_10 ?_
  refine V_aload_n d_X8_openText_13 rfl rfl ?_
  refine V_iconst (v := 0) d_X8_openText_14 ic_0 ?_
  obtain ⟨q2, hq2, hf⟩ := ob hf
  refine B_callV0 (s_X8_moveTo hG hq2) k_1 clX8 m_X8_moveTo kv_RX8_32 d_X8_openText_15 rfl (Nat.le_of_ble_eq_true rfl) ⟨rfl, rfl, Nat.le_of_ble_eq_true rfl, Nat.le_of_ble_eq_true rfl, Nat.le_of_ble_eq_true rfl⟩ (fun n => ?_)
  cases hf
  exact R_v hK d_X8_openText_18 (Nat.le_of_ble_eq_true rfl) (Nat.le_of_ble_eq_true rfl)
theorem s_X8_openText {G : Gl} (hG : G.1.stackTraces = false) {μ : Mem} {r : Mem} (hf : f_X8_openText μ = some r) : Rt G yX8_openText F_X8_openText none [.ref (G.2.1 + 1)] μ none r := fun n => Sd.of hG ⟨by decide +kernel, rfl, rfl⟩ rfl (Nat.le_of_ble_eq_true rfl) rfl (fun C hK => s_X8_openText_e hG hf hK)
theorem d_X8_isOver_0 : decode cX8_isOver 0 = .ok (.aload_n 0, 1) := by decide +kernel
theorem d_X8_isOver_1 : decode cX8_isOver 1 = .ok (.getfield 22, 3) := by decide +kernel
theorem d_X8_isOver_4 : decode cX8_isOver 4 = .ok (.aload_n 0, 1) := by decide +kernel
theorem d_X8_isOver_5 : decode cX8_isOver 5 = .ok (.getfield 19, 3) := by decide +kernel
theorem d_X8_isOver_8 : decode cX8_isOver 8 = .ok (.if_icmp .lt 7, 3) := by decide +kernel
theorem d_X8_isOver_11 : decode cX8_isOver 11 = .ok (.iconst 1, 1) := by decide +kernel
theorem d_X8_isOver_12 : decode cX8_isOver 12 = .ok (.goto 4, 3) := by decide +kernel
theorem d_X8_isOver_15 : decode cX8_isOver 15 = .ok (.iconst 0, 1) := by decide +kernel
theorem d_X8_isOver_16 : decode cX8_isOver 16 = .ok (.ireturn, 1) := by decide +kernel
theorem s_X8_isOver_e {G : Gl} (hG : G.1.stackTraces = false) {C : Cx} {n : Nat} {μ : Mem}  {r : Bool} (hf : f_X8_isOver μ = some r) (hK : FinR G C F_X8_isOver (some .boolean) (some (.int (b2i r))) μ) : V G C F_X8_isOver 0 [some (.ref (G.2.1 + 1))] [] (pic G μ) n 0 0 := by
  unfold f_X8_isOver at hf
  refine V_aload_n d_X8_isOver_0 rfl rfl ?_
  refine B_get k_1 fl_RX8_22 d_X8_isOver_1 g_8_3 ?_
  refine V_aload_n d_X8_isOver_4 rfl rfl ?_
  refine B_get k_1 fl_RX8_19 d_X8_isOver_5 g_8_2 ?_
  have hJj1 : ∀ j1 : Bool, j1 = (if (μ 1 3) < (μ 1 2) then (false : Bool) else true) → V G C F_X8_isOver 16 [none] [.int (b2i j1)] (pic G μ) n 0 0 := by
    intro j1 ej1
    subst ej1
    cases hf
    exact R_z hK d_X8_isOver_16 (Nat.le_of_ble_eq_true rfl) (Nat.le_of_ble_eq_true rfl)
  refine V_icmp_lt (tgt := 15) d_X8_isOver_8 (by decide) (fun c8 => ?_) (fun c8 => ?_)
  · refine V_iconst (v := 0) d_X8_isOver_15 ic_0 ?_
    refine V_less (ls' := [none]) trivial ?_
    exact hJj1 false (by rw [if_pos c8])
  · refine V_iconst (v := 1) d_X8_isOver_11 ic_1 ?_
    refine V_goto (tgt := 16) d_X8_isOver_12 (by decide) ?_
    refine V_less (ls' := [none]) trivial ?_
    exact hJj1 true (by rw [if_neg c8])
theorem s_X8_isOver {G : Gl} (hG : G.1.stackTraces = false) {μ : Mem} {r : Bool} (hf : f_X8_isOver μ = some r) : Rt G yX8_isOver F_X8_isOver (some .boolean) [.ref (G.2.1 + 1)] μ (some (.int (b2i r))) μ := fun n => Sd.of hG ⟨by decide +kernel, rfl, rfl⟩ rfl (Nat.le_of_ble_eq_true rfl) rfl (fun C hK => s_X8_isOver_e hG hf hK)
theorem d_X9_tell_0 : decode cX9_tell 0 = .ok (.aload_n 0, 1) := by decide +kernel
theorem d_X9_tell_1 : decode cX9_tell 1 = .ok (.getfield 9, 3) := by decide +kernel
theorem d_X9_tell_4 : decode cX9_tell 4 = .ok (.iload_n 1, 1) := by decide +kernel
theorem d_X9_tell_5 : decode cX9_tell 5 = .ok (.bipush 6, 2) := by decide +kernel
theorem d_X9_tell_7 : decode cX9_tell 7 = .ok (.imul, 1) := by decide +kernel
theorem d_X9_tell_8 : decode cX9_tell 8 = .ok (.iload_n 2, 1) := by decide +kernel
theorem d_X9_tell_9 : decode cX9_tell 9 = .ok (.iadd, 1) := by decide +kernel
theorem d_X9_tell_10 : decode cX9_tell 10 = .ok (.iload_n 3, 1) := by decide +kernel
theorem d_X9_tell_11 : decode cX9_tell 11 = .ok (.iconst (-1), 1) := by decide +kernel
theorem d_X9_tell_12 : decode cX9_tell 12 = .ok (.if_icmp .ne 8, 3) := by decide +kernel
theorem d_X9_tell_15 : decode cX9_tell 15 = .ok (.ldc 22, 2) := by decide +kernel
theorem d_X9_tell_17 : decode cX9_tell 17 = .ok (.goto 4, 3) := by decide +kernel
theorem d_X9_tell_20 : decode cX9_tell 20 = .ok (.iload_n 3, 1) := by decide +kernel
theorem d_X9_tell_21 : decode cX9_tell 21 = .ok (.iastore, 1) := by decide +kernel
theorem d_X9_tell_22 : decode cX9_tell 22 = .ok (.return_, 1) := by decide +kernel
theorem s_X9_tell_e {G : Gl} (hG : G.1.stackTraces = false) {C : Cx} {n : Nat} {μ : Mem} {p1 : Int32} {p2 : Int32} {p3 : Int32} {r : Mem} (hf : f_X9_tell μ p1 p2 p3 = some r) (hK : FinR G C F_X9_tell none none r) : V G C F_X9_tell 0 [some (.ref (G.2.1 + 259)), some (.int p1), some (.int p2), some (.int p3)] [] (pic G μ) n 0 0 := by
  unfold f_X9_tell at hf
  refine V_aload_n d_X9_tell_0 rfl rfl ?_
  refine B_get k_259 fl_RX9_9 d_X9_tell_1 g_9_0 ?_
  refine V_iload_n d_X9_tell_4 rfl rfl ?_
  refine V_bipush (v := 6) d_X9_tell_5 bp_6 ?_
  refine V_imul d_X9_tell_7 ?_
  refine V_iload_n d_X9_tell_8 rfl rfl ?_
  refine V_iadd d_X9_tell_9 ?_
  refine V_iload_n d_X9_tell_10 rfl rfl ?_
  refine V_iconst (v := (-1)) d_X9_tell_11 ic_m1 ?_
  have hJj1 : ∀ j1 : Int32, j1 = (if p3 = (-1) then (1000000 : Int32) else p3) → V G C F_X9_tell 21 [none, none, none, none] [.int j1, .int ((p1 * 6) + p2), .ref (G.2.1 + 260)] (pic G μ) n 0 0 := by
    intro j1 ej1
    subst ej1
    obtain ⟨μ2, hμ2, hf⟩ := ob hf
    refine B_iast k_260 hμ2 d_X9_tell_21 ?_
    cases hf
    exact R_v hK d_X9_tell_22 (Nat.le_of_ble_eq_true rfl) (Nat.le_of_ble_eq_true rfl)
  refine V_icmp_ne (tgt := 20) d_X9_tell_12 (by decide) (fun c12 => ?_) (fun c12 => ?_)
  · refine V_iload_n d_X9_tell_20 rfl rfl ?_
    refine V_less (ls' := [none, none, none, none]) trivial ?_
    exact hJj1 p3 (by rw [if_neg c12])
  · refine V_ldc (v := 1000000) d_X9_tell_15 w_1196 ?_
    refine V_goto (tgt := 21) d_X9_tell_17 (by decide) ?_
    refine V_less (ls' := [none, none, none, none]) trivial ?_
    exact hJj1 1000000 (by rw [if_pos c12])
theorem s_X9_tell {G : Gl} (hG : G.1.stackTraces = false) {μ : Mem} {p1 : Int32} {p2 : Int32} {p3 : Int32} {r : Mem} (hf : f_X9_tell μ p1 p2 p3 = some r) : Rt G yX9_tell F_X9_tell none [.ref (G.2.1 + 259), .int p1, .int p2, .int p3] μ none r := fun n => Sd.of hG ⟨by decide +kernel, rfl, rfl⟩ rfl (Nat.le_of_ble_eq_true rfl) rfl (fun C hK => s_X9_tell_e hG hf hK)
theorem d_X9_with_0 : decode cX9_with 0 = .ok (.iload_n 1, 1) := by decide +kernel
theorem d_X9_with_1 : decode cX9_with 1 = .ok (.invokestatic 40, 3) := by decide +kernel
theorem d_X9_with_4 : decode cX9_with 4 = .ok (.istore_n 3, 1) := by decide +kernel
theorem d_X9_with_5 : decode cX9_with 5 = .ok (.aload_n 0, 1) := by decide +kernel
theorem d_X9_with_6 : decode cX9_with 6 = .ok (.getfield 9, 3) := by decide +kernel
theorem d_X9_with_9 : decode cX9_with 9 = .ok (.iload_n 3, 1) := by decide +kernel
theorem d_X9_with_10 : decode cX9_with 10 = .ok (.bipush 6, 2) := by decide +kernel
theorem d_X9_with_12 : decode cX9_with 12 = .ok (.imul, 1) := by decide +kernel
theorem d_X9_with_13 : decode cX9_with 13 = .ok (.iload_n 2, 1) := by decide +kernel
theorem d_X9_with_14 : decode cX9_with 14 = .ok (.iadd, 1) := by decide +kernel
theorem d_X9_with_15 : decode cX9_with 15 = .ok (.iaload, 1) := by decide +kernel
theorem d_X9_with_16 : decode cX9_with 16 = .ok (.aload_n 0, 1) := by decide +kernel
theorem d_X9_with_17 : decode cX9_with 17 = .ok (.getfield 15, 3) := by decide +kernel
theorem d_X9_with_20 : decode cX9_with 20 = .ok (.iload_n 1, 1) := by decide +kernel
theorem d_X9_with_21 : decode cX9_with 21 = .ok (.iconst 1, 1) := by decide +kernel
theorem d_X9_with_22 : decode cX9_with 22 = .ok (.iload_n 2, 1) := by decide +kernel
theorem d_X9_with_23 : decode cX9_with 23 = .ok (.ishl, 1) := by decide +kernel
theorem d_X9_with_24 : decode cX9_with 24 = .ok (.ior, 1) := by decide +kernel
theorem d_X9_with_25 : decode cX9_with 25 = .ok (.iaload, 1) := by decide +kernel
theorem d_X9_with_26 : decode cX9_with 26 = .ok (.iadd, 1) := by decide +kernel
theorem d_X9_with_27 : decode cX9_with 27 = .ok (.ireturn, 1) := by decide +kernel
theorem s_X9_with_e {G : Gl} (hG : G.1.stackTraces = false) {C : Cx} {n : Nat} {μ : Mem} {p1 : Int32} {p2 : Int32} {r : Int32} (hf : f_X9_with μ p1 p2 = some r) (hK : FinR G C F_X9_with (some .int) (some (.int r)) μ) : V G C F_X9_with 0 [some (.ref (G.2.1 + 259)), some (.int p1), some (.int p2), none] [] (pic G μ) n 0 0 := by
  unfold f_X9_with at hf
  refine V_iload_n d_X9_with_0 rfl rfl ?_
  obtain ⟨t1, ht1, hf⟩ := ob hf
  refine B_callS1 (s_J6_bitCount_0f7a4 hG ht1) m_J6_bitCount_0f7a4 ks_RX9_40 d_X9_with_1 rfl (Nat.le_of_ble_eq_true rfl) ⟨rfl, rfl, Nat.le_of_ble_eq_true rfl, Nat.le_of_ble_eq_true rfl, Nat.le_of_ble_eq_true rfl⟩ (fun n => ?_)
  refine V_istore_n (ls' := [_, _, _, _]) d_X9_with_4 rfl rfl rfl ?_
  refine V_aload_n d_X9_with_5 rfl rfl ?_
  refine B_get k_259 fl_RX9_9 d_X9_with_6 g_9_0 ?_
  refine V_iload_n d_X9_with_9 rfl rfl ?_
  refine V_bipush (v := 6) d_X9_with_10 bp_6 ?_
  refine V_imul d_X9_with_12 ?_
  refine V_iload_n d_X9_with_13 rfl rfl ?_
  refine V_iadd d_X9_with_14 ?_
  obtain ⟨t2, ht2, hf⟩ := ob hf
  refine B_iald k_260 ht2 d_X9_with_15 ?_
  refine V_aload_n d_X9_with_16 rfl rfl ?_
  refine B_get k_259 fl_RX9_15 d_X9_with_17 g_9_1 ?_
  refine V_iload_n d_X9_with_20 rfl rfl ?_
  refine V_iconst (v := 1) d_X9_with_21 ic_1 ?_
  refine V_iload_n d_X9_with_22 rfl rfl ?_
  refine V_ishl d_X9_with_23 ?_
  refine V_ior d_X9_with_24 ?_
  obtain ⟨t3, ht3, hf⟩ := ob hf
  refine B_iald k_261 ht3 d_X9_with_25 ?_
  refine V_iadd d_X9_with_26 ?_
  cases hf
  exact R_i hK d_X9_with_27 (Nat.le_of_ble_eq_true rfl) (Nat.le_of_ble_eq_true rfl)
theorem s_X9_with {G : Gl} (hG : G.1.stackTraces = false) {μ : Mem} {p1 : Int32} {p2 : Int32} {r : Int32} (hf : f_X9_with μ p1 p2 = some r) : Rt G yX9_with F_X9_with (some .int) [.ref (G.2.1 + 259), .int p1, .int p2] μ (some (.int r)) μ := fun n => Sd.of hG ⟨by decide +kernel, rfl, rfl⟩ rfl (Nat.le_of_ble_eq_true rfl) rfl (fun C hK => s_X9_with_e hG hf hK)
theorem d_X9_weigh_0 : decode cX9_weigh 0 = .ok (.aload_n 0, 1) := by decide +kernel
theorem d_X9_weigh_1 : decode cX9_weigh 1 = .ok (.iload_n 1, 1) := by decide +kernel
theorem d_X9_weigh_2 : decode cX9_weigh 2 = .ok (.putfield 18, 3) := by decide +kernel
theorem d_X9_weigh_5 : decode cX9_weigh 5 = .ok (.iconst 1, 1) := by decide +kernel
theorem d_X9_weigh_6 : decode cX9_weigh 6 = .ok (.aload_n 0, 1) := by decide +kernel
theorem d_X9_weigh_7 : decode cX9_weigh 7 = .ok (.getfield 18, 3) := by decide +kernel
theorem d_X9_weigh_10 : decode cX9_weigh 10 = .ok (.ishl, 1) := by decide +kernel
theorem d_X9_weigh_11 : decode cX9_weigh 11 = .ok (.iconst 1, 1) := by decide +kernel
theorem d_X9_weigh_12 : decode cX9_weigh 12 = .ok (.isub, 1) := by decide +kernel
theorem d_X9_weigh_13 : decode cX9_weigh 13 = .ok (.istore_n 2, 1) := by decide +kernel
theorem d_X9_weigh_14 : decode cX9_weigh 14 = .ok (.aload_n 0, 1) := by decide +kernel
theorem d_X9_weigh_15 : decode cX9_weigh 15 = .ok (.getfield 15, 3) := by decide +kernel
theorem d_X9_weigh_18 : decode cX9_weigh 18 = .ok (.iload_n 2, 1) := by decide +kernel
theorem d_X9_weigh_19 : decode cX9_weigh 19 = .ok (.iconst 0, 1) := by decide +kernel
theorem d_X9_weigh_20 : decode cX9_weigh 20 = .ok (.iastore, 1) := by decide +kernel
theorem d_X9_weigh_21 : decode cX9_weigh 21 = .ok (.iload_n 2, 1) := by decide +kernel
theorem d_X9_weigh_22 : decode cX9_weigh 22 = .ok (.iconst 1, 1) := by decide +kernel
theorem d_X9_weigh_23 : decode cX9_weigh 23 = .ok (.isub, 1) := by decide +kernel
theorem d_X9_weigh_24 : decode cX9_weigh 24 = .ok (.istore_n 3, 1) := by decide +kernel
theorem d_X9_weigh_25 : decode cX9_weigh 25 = .ok (.iload_n 3, 1) := by decide +kernel
theorem d_X9_weigh_26 : decode cX9_weigh 26 = .ok (.ifCond .lt 66, 3) := by decide +kernel
theorem d_X9_weigh_29 : decode cX9_weigh 29 = .ok (.aload_n 0, 1) := by decide +kernel
theorem d_X9_weigh_30 : decode cX9_weigh 30 = .ok (.getfield 15, 3) := by decide +kernel
theorem d_X9_weigh_33 : decode cX9_weigh 33 = .ok (.iload_n 3, 1) := by decide +kernel
theorem d_X9_weigh_34 : decode cX9_weigh 34 = .ok (.ldc 22, 2) := by decide +kernel
theorem d_X9_weigh_36 : decode cX9_weigh 36 = .ok (.iastore, 1) := by decide +kernel
theorem d_X9_weigh_37 : decode cX9_weigh 37 = .ok (.iconst 0, 1) := by decide +kernel
theorem d_X9_weigh_38 : decode cX9_weigh 38 = .ok (.istore 4, 2) := by decide +kernel
theorem d_X9_weigh_40 : decode cX9_weigh 40 = .ok (.iload 4, 2) := by decide +kernel
theorem d_X9_weigh_42 : decode cX9_weigh 42 = .ok (.aload_n 0, 1) := by decide +kernel
theorem d_X9_weigh_43 : decode cX9_weigh 43 = .ok (.getfield 18, 3) := by decide +kernel
theorem d_X9_weigh_46 : decode cX9_weigh 46 = .ok (.if_icmp .ge 40, 3) := by decide +kernel
theorem d_X9_weigh_49 : decode cX9_weigh 49 = .ok (.iload_n 3, 1) := by decide +kernel
theorem d_X9_weigh_50 : decode cX9_weigh 50 = .ok (.iload 4, 2) := by decide +kernel
theorem d_X9_weigh_52 : decode cX9_weigh 52 = .ok (.invokestatic 23, 3) := by decide +kernel
theorem d_X9_weigh_55 : decode cX9_weigh 55 = .ok (.ifCond .ne 25, 3) := by decide +kernel
theorem d_X9_weigh_58 : decode cX9_weigh 58 = .ok (.aload_n 0, 1) := by decide +kernel
theorem d_X9_weigh_59 : decode cX9_weigh 59 = .ok (.getfield 15, 3) := by decide +kernel
theorem d_X9_weigh_62 : decode cX9_weigh 62 = .ok (.iload_n 3, 1) := by decide +kernel
theorem d_X9_weigh_63 : decode cX9_weigh 63 = .ok (.aload_n 0, 1) := by decide +kernel
theorem d_X9_weigh_64 : decode cX9_weigh 64 = .ok (.getfield 15, 3) := by decide +kernel
theorem d_X9_weigh_67 : decode cX9_weigh 67 = .ok (.iload_n 3, 1) := by decide +kernel
theorem d_X9_weigh_68 : decode cX9_weigh 68 = .ok (.iaload, 1) := by decide +kernel
theorem d_X9_weigh_69 : decode cX9_weigh 69 = .ok (.aload_n 0, 1) := by decide +kernel
theorem d_X9_weigh_70 : decode cX9_weigh 70 = .ok (.iload_n 3, 1) := by decide +kernel
theorem d_X9_weigh_71 : decode cX9_weigh 71 = .ok (.iload 4, 2) := by decide +kernel
theorem d_X9_weigh_73 : decode cX9_weigh 73 = .ok (.invokevirtual 27, 3) := by decide +kernel
theorem d_X9_weigh_76 : decode cX9_weigh 76 = .ok (.invokestatic 31, 3) := by decide +kernel
theorem d_X9_weigh_79 : decode cX9_weigh 79 = .ok (.iastore, 1) := by decide +kernel
theorem d_X9_weigh_80 : decode cX9_weigh 80 = .ok (.iinc 4 1, 3) := by decide +kernel
theorem d_X9_weigh_83 : decode cX9_weigh 83 = .ok (.goto (-43), 3) := by decide +kernel
theorem d_X9_weigh_86 : decode cX9_weigh 86 = .ok (.iinc 3 (-1), 3) := by decide +kernel
theorem d_X9_weigh_89 : decode cX9_weigh 89 = .ok (.goto (-64), 3) := by decide +kernel
theorem d_X9_weigh_92 : decode cX9_weigh 92 = .ok (.return_, 1) := by decide +kernel
theorem s_X9_weigh_j80_40 {G : Gl} (hG : G.1.stackTraces = false) {C : Cx} {n : Nat} {μ : Mem} {l3 : Int32} {l4 : Int32} {y : ((Int32 × Mem) ⊕ Mem)} (hf : f_X9_weigh_j80_40 μ l3 l4 = some y) (hK : (∀ z', y = .inl z' → ∀ n, V G C F_X9_weigh 40 [some (.ref (G.2.1 + 259)), none, none, some (.int l3), some (.int z'.1)] [] (pic G z'.2) n 0 0) ∧ (∀ x', y = .inr x' → ∀ n, V G C F_X9_weigh 86 [some (.ref (G.2.1 + 259)), none, none, some (.int l3), none] [] (pic G x') n 0 0)) : V G C F_X9_weigh 80 [some (.ref (G.2.1 + 259)), none, none, some (.int l3), some (.int l4)] [] (pic G μ) n 0 0 := by
  unfold f_X9_weigh_j80_40 at hf
  refine V_iinc (v := (l4 + 1)) (ls' := [_, _, _, _, _]) d_X9_weigh_80 rfl (by rw [ic_1]) rfl ?_
  refine V_goto (tgt := 40) d_X9_weigh_83 (by decide) ?_
  refine V_less (ls' := [some _, none, none, some _, some _]) ⟨rfl, rfl, rfl, trivial⟩ ?_
  cases hf
  exact hK.1 _ rfl _
theorem s_X9_weigh_b40 {G : Gl} (hG : G.1.stackTraces = false) {C : Cx} {n : Nat} {μ : Mem} {l3 : Int32} {l4 : Int32} {y : ((Int32 × Mem) ⊕ Mem)} (hf : f_X9_weigh_b40 μ l3 l4 = some y) (hK : (∀ z', y = .inl z' → ∀ n, V G C F_X9_weigh 40 [some (.ref (G.2.1 + 259)), none, none, some (.int l3), some (.int z'.1)] [] (pic G z'.2) n 0 0) ∧ (∀ x', y = .inr x' → ∀ n, V G C F_X9_weigh 86 [some (.ref (G.2.1 + 259)), none, none, some (.int l3), none] [] (pic G x') n 0 0)) : V G C F_X9_weigh 40 [some (.ref (G.2.1 + 259)), none, none, some (.int l3), some (.int l4)] [] (pic G μ) n 0 0 := by
  unfold f_X9_weigh_b40 at hf
  refine V_iload d_X9_weigh_40 rfl ?_
  refine V_aload_n d_X9_weigh_42 rfl rfl ?_
  refine B_get k_259 fl_RX9_18 d_X9_weigh_43 g_9_2 ?_
  refine V_icmp_ge (tgt := 86) d_X9_weigh_46 (by decide) (fun c46 => ?_) (fun c46 => ?_)
  · replace hf := iteT c46 hf
    refine V_less (ls' := [some _, none, none, some _, none]) ⟨rfl, rfl, trivial⟩ ?_
    cases hf
    exact hK.2 _ rfl _
  · replace hf := iteF c46 hf
    refine V_iload_n d_X9_weigh_49 rfl rfl ?_
    refine V_iload d_X9_weigh_50 rfl ?_
    obtain ⟨t1, ht1, hf⟩ := ob hf
    refine B_callSN1 (s_X11_hasBit hG ht1) m_X11_hasBit ks_RX9_23 d_X9_weigh_52 rfl (Nat.le_of_ble_eq_true rfl) ⟨rfl, rfl, Nat.le_of_ble_eq_true rfl, Nat.le_of_ble_eq_true rfl, Nat.le_of_ble_eq_true rfl⟩ (fun n => ?_)
    refine V_if_ne (tgt := 80) d_X9_weigh_55 (by decide) (fun c55 => ?_) (fun c55 => ?_)
    · replace hf := iteT (b2i_ne0 c55) hf
      refine V_less (ls' := [some _, none, none, some _, some _]) ⟨rfl, rfl, rfl, trivial⟩ ?_
      exact s_X9_weigh_j80_40 hG hf hK
    · replace hf := iteF (b2i_nt (b2i_eq0 c55)) hf
      refine V_aload_n d_X9_weigh_58 rfl rfl ?_
      refine B_get k_259 fl_RX9_15 d_X9_weigh_59 g_9_1 ?_
      refine V_iload_n d_X9_weigh_62 rfl rfl ?_
      refine V_aload_n d_X9_weigh_63 rfl rfl ?_
      refine B_get k_259 fl_RX9_15 d_X9_weigh_64 g_9_1 ?_
      refine V_iload_n d_X9_weigh_67 rfl rfl ?_
      obtain ⟨t2, ht2, hf⟩ := ob hf
      refine B_iald k_261 ht2 d_X9_weigh_68 ?_
      refine V_aload_n d_X9_weigh_69 rfl rfl ?_
      refine V_iload_n d_X9_weigh_70 rfl rfl ?_
      refine V_iload d_X9_weigh_71 rfl ?_
      obtain ⟨t3, ht3, hf⟩ := ob hf
      refine B_callV1 (s_X9_with hG ht3) k_259 clX9 m_X9_with kv_RX9_27 d_X9_weigh_73 rfl (Nat.le_of_ble_eq_true rfl) ⟨rfl, rfl, Nat.le_of_ble_eq_true rfl, Nat.le_of_ble_eq_true rfl, Nat.le_of_ble_eq_true rfl⟩ (fun n => ?_)
      obtain ⟨t4, ht4, hf⟩ := ob hf
      refine B_callS1 (s_J9_min_7cf53 hG ht4) m_J9_min_7cf53 ks_RX9_31 d_X9_weigh_76 rfl (Nat.le_of_ble_eq_true rfl) ⟨rfl, rfl, Nat.le_of_ble_eq_true rfl, Nat.le_of_ble_eq_true rfl, Nat.le_of_ble_eq_true rfl⟩ (fun n => ?_)
      obtain ⟨μ5, hμ5, hf⟩ := ob hf
      refine B_iast k_261 hμ5 d_X9_weigh_79 ?_
      refine V_less (ls' := [some _, none, none, some _, some _]) ⟨rfl, rfl, rfl, trivial⟩ ?_
      exact s_X9_weigh_j80_40 hG hf hK
theorem s_X9_weigh_j86_25 {G : Gl} (hG : G.1.stackTraces = false) {C : Cx} {n : Nat} {μ : Mem} {l3 : Int32} {y : ((Int32 × Mem) ⊕ Mem)} (hf : f_X9_weigh_j86_25 μ l3 = some y) (hK : (∀ z', y = .inl z' → ∀ n, V G C F_X9_weigh 25 [some (.ref (G.2.1 + 259)), none, none, some (.int z'.1), none] [] (pic G z'.2) n 0 0) ∧ (∀ x', y = .inr x' → ∀ n, V G C F_X9_weigh 92 [none, none, none, none, none] [] (pic G x') n 0 0)) : V G C F_X9_weigh 86 [some (.ref (G.2.1 + 259)), none, none, some (.int l3), none] [] (pic G μ) n 0 0 := by
  unfold f_X9_weigh_j86_25 at hf
  refine V_iinc (v := (l3 + (-1))) (ls' := [_, _, _, _, _]) d_X9_weigh_86 rfl (by rw [ic_m1]) rfl ?_
  refine V_goto (tgt := 25) d_X9_weigh_89 (by decide) ?_
  refine V_less (ls' := [some _, none, none, some _, none]) ⟨rfl, rfl, trivial⟩ ?_
  cases hf
  exact hK.1 _ rfl _
theorem s_X9_weigh_l40 {G : Gl} (hG : G.1.stackTraces = false) {C : Cx} {n : Nat} {μ : Mem} {l3 : Int32} {l4 : Int32} {y : ((Int32 × Mem) ⊕ Mem)} (hf : f_X9_weigh_l40 μ l3 l4 = some y) (hK : (∀ z', y = .inl z' → ∀ n, V G C F_X9_weigh 25 [some (.ref (G.2.1 + 259)), none, none, some (.int z'.1), none] [] (pic G z'.2) n 0 0) ∧ (∀ x', y = .inr x' → ∀ n, V G C F_X9_weigh 92 [none, none, none, none, none] [] (pic G x') n 0 0)) : V G C F_X9_weigh 40 [some (.ref (G.2.1 + 259)), none, none, some (.int l3), some (.int l4)] [] (pic G μ) n 0 0 := by
  unfold f_X9_weigh_l40 at hf
  obtain ⟨t, hl, hf⟩ := ob hf
  refine loopV (P := fun z => ∀ n, V G C F_X9_weigh 40 [some (.ref (G.2.1 + 259)), none, none, some (.int l3), some (.int z.1)] [] (pic G z.2) n 0 0) (t := t) ?_ _ _ hl n
  intro z y' hy hI hT n
  refine s_X9_weigh_b40 hG hy ⟨hI, fun x9 ex => ?_⟩
  have ex2 := hT x9 ex
  subst ex2
  intro n
  exact s_X9_weigh_j86_25 hG hf hK
theorem s_X9_weigh_b25 {G : Gl} (hG : G.1.stackTraces = false) {C : Cx} {n : Nat} {μ : Mem} {l3 : Int32} {y : ((Int32 × Mem) ⊕ Mem)} (hf : f_X9_weigh_b25 μ l3 = some y) (hK : (∀ z', y = .inl z' → ∀ n, V G C F_X9_weigh 25 [some (.ref (G.2.1 + 259)), none, none, some (.int z'.1), none] [] (pic G z'.2) n 0 0) ∧ (∀ x', y = .inr x' → ∀ n, V G C F_X9_weigh 92 [none, none, none, none, none] [] (pic G x') n 0 0)) : V G C F_X9_weigh 25 [some (.ref (G.2.1 + 259)), none, none, some (.int l3), none] [] (pic G μ) n 0 0 := by
  unfold f_X9_weigh_b25 at hf
  refine V_iload_n d_X9_weigh_25 rfl rfl ?_
  refine V_if_lt (tgt := 92) d_X9_weigh_26 (by decide) (fun c26 => ?_) (fun c26 => ?_)
  · replace hf := iteT c26 hf
    refine V_less (ls' := [none, none, none, none, none]) trivial ?_
    cases hf
    exact hK.2 _ rfl _
  · replace hf := iteF c26 hf
    refine V_aload_n d_X9_weigh_29 rfl rfl ?_
    refine B_get k_259 fl_RX9_15 d_X9_weigh_30 g_9_1 ?_
    refine V_iload_n d_X9_weigh_33 rfl rfl ?_
    refine V_ldc (v := 1000000) d_X9_weigh_34 w_1196 ?_
    obtain ⟨μ1, hμ1, hf⟩ := ob hf
    refine B_iast k_261 hμ1 d_X9_weigh_36 ?_
    refine V_iconst (v := 0) d_X9_weigh_37 ic_0 ?_
    refine V_istore (ls' := [_, _, _, _, _]) d_X9_weigh_38 rfl rfl ?_
    refine V_less (ls' := [some _, none, none, some _, some _]) ⟨rfl, rfl, rfl, trivial⟩ ?_
    exact s_X9_weigh_l40 hG hf hK
theorem s_X9_weigh_j92 {G : Gl} (hG : G.1.stackTraces = false) {C : Cx} {n : Nat} {μ : Mem}  {r : Mem} (hf : f_X9_weigh_j92 μ = some r) (hK : FinR G C F_X9_weigh none none r) : V G C F_X9_weigh 92 [none, none, none, none, none] [] (pic G μ) n 0 0 := by
  unfold f_X9_weigh_j92 at hf
  cases hf
  exact R_v hK d_X9_weigh_92 (Nat.le_of_ble_eq_true rfl) (Nat.le_of_ble_eq_true rfl)
theorem s_X9_weigh_l25 {G : Gl} (hG : G.1.stackTraces = false) {C : Cx} {n : Nat} {μ : Mem} {l3 : Int32} {r : Mem} (hf : f_X9_weigh_l25 μ l3 = some r) (hK : FinR G C F_X9_weigh none none r) : V G C F_X9_weigh 25 [some (.ref (G.2.1 + 259)), none, none, some (.int l3), none] [] (pic G μ) n 0 0 := by
  unfold f_X9_weigh_l25 at hf
  obtain ⟨t, hl, hf⟩ := ob hf
  refine loopV (P := fun z => ∀ n, V G C F_X9_weigh 25 [some (.ref (G.2.1 + 259)), none, none, some (.int z.1), none] [] (pic G z.2) n 0 0) (t := t) ?_ _ _ hl n
  intro z y' hy hI hT n
  refine s_X9_weigh_b25 hG hy ⟨hI, fun x9 ex => ?_⟩
  have ex2 := hT x9 ex
  subst ex2
  intro n
  exact s_X9_weigh_j92 hG hf hK
theorem s_X9_weigh_e {G : Gl} (hG : G.1.stackTraces = false) {C : Cx} {n : Nat} {μ : Mem} {p1 : Int32} {r : Mem} (hf : f_X9_weigh μ p1 = some r) (hK : FinR G C F_X9_weigh none none r) : V G C F_X9_weigh 0 [some (.ref (G.2.1 + 259)), some (.int p1), none, none, none] [] (pic G μ) n 0 0 := by
  unfold f_X9_weigh at hf
  refine V_aload_n d_X9_weigh_0 rfl rfl ?_
  refine V_iload_n d_X9_weigh_1 rfl rfl ?_
  refine B_putI k_259 fl_RX9_18 pt_9_2 (Nat.le_of_ble_eq_true rfl) p_9_2 d_X9_weigh_2 ?_
  refine V_iconst (v := 1) d_X9_weigh_5 ic_1 ?_
  refine V_aload_n d_X9_weigh_6 rfl rfl ?_
  refine B_get k_259 fl_RX9_18 d_X9_weigh_7 g_9_2 ?_
  refine V_ishl d_X9_weigh_10 ?_
  refine V_iconst (v := 1) d_X9_weigh_11 ic_1 ?_
  refine V_isub d_X9_weigh_12 ?_
  refine V_istore_n (ls' := [_, _, _, _, _]) d_X9_weigh_13 rfl rfl rfl ?_
  refine V_aload_n d_X9_weigh_14 rfl rfl ?_
  refine B_get k_259 fl_RX9_15 d_X9_weigh_15 g_9_1 ?_
  refine V_iload_n d_X9_weigh_18 rfl rfl ?_
  refine V_iconst (v := 0) d_X9_weigh_19 ic_0 ?_
  obtain ⟨μ1, hμ1, hf⟩ := ob hf
  refine B_iast k_261 hμ1 d_X9_weigh_20 ?_
  refine V_iload_n d_X9_weigh_21 rfl rfl ?_
  refine V_iconst (v := 1) d_X9_weigh_22 ic_1 ?_
  refine V_isub d_X9_weigh_23 ?_
  refine V_istore_n (ls' := [_, _, _, _, _]) d_X9_weigh_24 rfl rfl rfl ?_
  refine V_less (ls' := [some _, none, none, some _, none]) ⟨rfl, rfl, trivial⟩ ?_
  exact s_X9_weigh_l25 hG hf hK
theorem s_X9_weigh {G : Gl} (hG : G.1.stackTraces = false) {μ : Mem} {p1 : Int32} {r : Mem} (hf : f_X9_weigh μ p1 = some r) : Rt G yX9_weigh F_X9_weigh none [.ref (G.2.1 + 259), .int p1] μ none r := fun n => Sd.of hG ⟨by decide +kernel, rfl, rfl⟩ rfl (Nat.le_of_ble_eq_true rfl) rfl (fun C hK => s_X9_weigh_e hG hf hK)
theorem d_X9_leastOfAll_0 : decode cX9_leastOfAll 0 = .ok (.aload_n 0, 1) := by decide +kernel
theorem d_X9_leastOfAll_1 : decode cX9_leastOfAll 1 = .ok (.getfield 15, 3) := by decide +kernel
theorem d_X9_leastOfAll_4 : decode cX9_leastOfAll 4 = .ok (.iconst 0, 1) := by decide +kernel
theorem d_X9_leastOfAll_5 : decode cX9_leastOfAll 5 = .ok (.iaload, 1) := by decide +kernel
theorem d_X9_leastOfAll_6 : decode cX9_leastOfAll 6 = .ok (.ldc 22, 2) := by decide +kernel
theorem d_X9_leastOfAll_8 : decode cX9_leastOfAll 8 = .ok (.if_icmp .lt 7, 3) := by decide +kernel
theorem d_X9_leastOfAll_11 : decode cX9_leastOfAll 11 = .ok (.iconst (-1), 1) := by decide +kernel
theorem d_X9_leastOfAll_12 : decode cX9_leastOfAll 12 = .ok (.goto 9, 3) := by decide +kernel
theorem d_X9_leastOfAll_15 : decode cX9_leastOfAll 15 = .ok (.aload_n 0, 1) := by decide +kernel
theorem d_X9_leastOfAll_16 : decode cX9_leastOfAll 16 = .ok (.getfield 15, 3) := by decide +kernel
theorem d_X9_leastOfAll_19 : decode cX9_leastOfAll 19 = .ok (.iconst 0, 1) := by decide +kernel
theorem d_X9_leastOfAll_20 : decode cX9_leastOfAll 20 = .ok (.iaload, 1) := by decide +kernel
theorem d_X9_leastOfAll_21 : decode cX9_leastOfAll 21 = .ok (.ireturn, 1) := by decide +kernel
theorem s_X9_leastOfAll_j21 {G : Gl} (hG : G.1.stackTraces = false) {C : Cx} {n : Nat} {μ : Mem} {k0 : Int32} {r : Int32} (hf : f_X9_leastOfAll_j21 μ k0 = some r) (hK : FinR G C F_X9_leastOfAll (some .int) (some (.int r)) μ) : V G C F_X9_leastOfAll 21 [none] [.int k0] (pic G μ) n 0 0 := by
  unfold f_X9_leastOfAll_j21 at hf
  cases hf
  exact R_i hK d_X9_leastOfAll_21 (Nat.le_of_ble_eq_true rfl) (Nat.le_of_ble_eq_true rfl)
theorem s_X9_leastOfAll_e {G : Gl} (hG : G.1.stackTraces = false) {C : Cx} {n : Nat} {μ : Mem}  {r : Int32} (hf : f_X9_leastOfAll μ = some r) (hK : FinR G C F_X9_leastOfAll (some .int) (some (.int r)) μ) : V G C F_X9_leastOfAll 0 [some (.ref (G.2.1 + 259))] [] (pic G μ) n 0 0 := by
  unfold f_X9_leastOfAll at hf
  refine V_aload_n d_X9_leastOfAll_0 rfl rfl ?_
  refine B_get k_259 fl_RX9_15 d_X9_leastOfAll_1 g_9_1 ?_
  refine V_iconst (v := 0) d_X9_leastOfAll_4 ic_0 ?_
  obtain ⟨t1, ht1, hf⟩ := ob hf
  refine B_iald k_261 ht1 d_X9_leastOfAll_5 ?_
  refine V_ldc (v := 1000000) d_X9_leastOfAll_6 w_1196 ?_
  refine V_icmp_lt (tgt := 15) d_X9_leastOfAll_8 (by decide) (fun c8 => ?_) (fun c8 => ?_)
  · replace hf := iteT c8 hf
    refine V_aload_n d_X9_leastOfAll_15 rfl rfl ?_
    refine B_get k_259 fl_RX9_15 d_X9_leastOfAll_16 g_9_1 ?_
    refine V_iconst (v := 0) d_X9_leastOfAll_19 ic_0 ?_
    obtain ⟨t2, ht2, hf⟩ := ob hf
    refine B_iald k_261 ht2 d_X9_leastOfAll_20 ?_
    refine V_less (ls' := [none]) trivial ?_
    exact s_X9_leastOfAll_j21 hG hf hK
  · replace hf := iteF c8 hf
    refine V_iconst (v := (-1)) d_X9_leastOfAll_11 ic_m1 ?_
    refine V_goto (tgt := 21) d_X9_leastOfAll_12 (by decide) ?_
    refine V_less (ls' := [none]) trivial ?_
    exact s_X9_leastOfAll_j21 hG hf hK
theorem s_X9_leastOfAll {G : Gl} (hG : G.1.stackTraces = false) {μ : Mem} {r : Int32} (hf : f_X9_leastOfAll μ = some r) : Rt G yX9_leastOfAll F_X9_leastOfAll (some .int) [.ref (G.2.1 + 259)] μ (some (.int r)) μ := fun n => Sd.of hG ⟨by decide +kernel, rfl, rfl⟩ rfl (Nat.le_of_ble_eq_true rfl) rfl (fun C hK => s_X9_leastOfAll_e hG hf hK)
theorem d_X9_firstBest_0 : decode cX9_firstBest 0 = .ok (.iconst 0, 1) := by decide +kernel
theorem d_X9_firstBest_1 : decode cX9_firstBest 1 = .ok (.istore_n 2, 1) := by decide +kernel
theorem d_X9_firstBest_2 : decode cX9_firstBest 2 = .ok (.iload_n 2, 1) := by decide +kernel
theorem d_X9_firstBest_3 : decode cX9_firstBest 3 = .ok (.aload_n 0, 1) := by decide +kernel
theorem d_X9_firstBest_4 : decode cX9_firstBest 4 = .ok (.getfield 18, 3) := by decide +kernel
theorem d_X9_firstBest_7 : decode cX9_firstBest 7 = .ok (.if_icmp .ge 34, 3) := by decide +kernel
theorem d_X9_firstBest_10 : decode cX9_firstBest 10 = .ok (.iload_n 1, 1) := by decide +kernel
theorem d_X9_firstBest_11 : decode cX9_firstBest 11 = .ok (.iload_n 2, 1) := by decide +kernel
theorem d_X9_firstBest_12 : decode cX9_firstBest 12 = .ok (.invokestatic 23, 3) := by decide +kernel
theorem d_X9_firstBest_15 : decode cX9_firstBest 15 = .ok (.ifCond .ne 20, 3) := by decide +kernel
theorem d_X9_firstBest_18 : decode cX9_firstBest 18 = .ok (.aload_n 0, 1) := by decide +kernel
theorem d_X9_firstBest_19 : decode cX9_firstBest 19 = .ok (.iload_n 1, 1) := by decide +kernel
theorem d_X9_firstBest_20 : decode cX9_firstBest 20 = .ok (.iload_n 2, 1) := by decide +kernel
theorem d_X9_firstBest_21 : decode cX9_firstBest 21 = .ok (.invokevirtual 27, 3) := by decide +kernel
theorem d_X9_firstBest_24 : decode cX9_firstBest 24 = .ok (.aload_n 0, 1) := by decide +kernel
theorem d_X9_firstBest_25 : decode cX9_firstBest 25 = .ok (.getfield 15, 3) := by decide +kernel
theorem d_X9_firstBest_28 : decode cX9_firstBest 28 = .ok (.iload_n 1, 1) := by decide +kernel
theorem d_X9_firstBest_29 : decode cX9_firstBest 29 = .ok (.iaload, 1) := by decide +kernel
theorem d_X9_firstBest_30 : decode cX9_firstBest 30 = .ok (.if_icmp .ne 5, 3) := by decide +kernel
theorem d_X9_firstBest_33 : decode cX9_firstBest 33 = .ok (.iload_n 2, 1) := by decide +kernel
theorem d_X9_firstBest_34 : decode cX9_firstBest 34 = .ok (.ireturn, 1) := by decide +kernel
theorem d_X9_firstBest_35 : decode cX9_firstBest 35 = .ok (.iinc 2 1, 3) := by decide +kernel
theorem d_X9_firstBest_38 : decode cX9_firstBest 38 = .ok (.goto (-36), 3) := by decide +kernel
theorem d_X9_firstBest_41 : decode cX9_firstBest 41 = .ok (.iconst 0, 1) := by decide +kernel
theorem d_X9_firstBest_42 : decode cX9_firstBest 42 = .ok (.ireturn, 1) := by decide +kernel
theorem s_X9_firstBest_j35_2 {G : Gl} (hG : G.1.stackTraces = false) {C : Cx} {n : Nat} {μ : Mem} {l1 : Int32} {l2 : Int32} {y : (Int32 ⊕ (Unit ⊕ Int32))} (hf : f_X9_firstBest_j35_2 μ l1 l2 = some y) (hK : (∀ z', y = .inl z' → ∀ n, V G C F_X9_firstBest 2 [some (.ref (G.2.1 + 259)), some (.int l1), some (.int z')] [] (pic G μ) n 0 0) ∧ (∀ x', y = .inr x' → ((∀ x'', x' = .inl x'' → ∀ n, V G C F_X9_firstBest 41 [none, none, none] [] (pic G μ) n 0 0) ∧ (∀ x''', x' = .inr x''' → FinR G C F_X9_firstBest (some .int) (some (.int x''')) μ)))) : V G C F_X9_firstBest 35 [some (.ref (G.2.1 + 259)), some (.int l1), some (.int l2)] [] (pic G μ) n 0 0 := by
  unfold f_X9_firstBest_j35_2 at hf
  refine V_iinc (v := (l2 + 1)) (ls' := [_, _, _]) d_X9_firstBest_35 rfl (by rw [ic_1]) rfl ?_
  refine V_goto (tgt := 2) d_X9_firstBest_38 (by decide) ?_
  refine V_less (ls' := [some _, some _, some _]) ⟨rfl, rfl, rfl, trivial⟩ ?_
  cases hf
  exact hK.1 _ rfl _
theorem s_X9_firstBest_b2 {G : Gl} (hG : G.1.stackTraces = false) {C : Cx} {n : Nat} {μ : Mem} {l1 : Int32} {l2 : Int32} {y : (Int32 ⊕ (Unit ⊕ Int32))} (hf : f_X9_firstBest_b2 μ l1 l2 = some y) (hK : (∀ z', y = .inl z' → ∀ n, V G C F_X9_firstBest 2 [some (.ref (G.2.1 + 259)), some (.int l1), some (.int z')] [] (pic G μ) n 0 0) ∧ (∀ x', y = .inr x' → ((∀ x'', x' = .inl x'' → ∀ n, V G C F_X9_firstBest 41 [none, none, none] [] (pic G μ) n 0 0) ∧ (∀ x''', x' = .inr x''' → FinR G C F_X9_firstBest (some .int) (some (.int x''')) μ)))) : V G C F_X9_firstBest 2 [some (.ref (G.2.1 + 259)), some (.int l1), some (.int l2)] [] (pic G μ) n 0 0 := by
  unfold f_X9_firstBest_b2 at hf
  refine V_iload_n d_X9_firstBest_2 rfl rfl ?_
  refine V_aload_n d_X9_firstBest_3 rfl rfl ?_
  refine B_get k_259 fl_RX9_18 d_X9_firstBest_4 g_9_2 ?_
  refine V_icmp_ge (tgt := 41) d_X9_firstBest_7 (by decide) (fun c7 => ?_) (fun c7 => ?_)
  · replace hf := iteT c7 hf
    refine V_less (ls' := [none, none, none]) trivial ?_
    cases hf
    exact (hK.2 _ rfl).1 _ rfl _
  · replace hf := iteF c7 hf
    refine V_iload_n d_X9_firstBest_10 rfl rfl ?_
    refine V_iload_n d_X9_firstBest_11 rfl rfl ?_
    obtain ⟨t1, ht1, hf⟩ := ob hf
    refine B_callSN1 (s_X11_hasBit hG ht1) m_X11_hasBit ks_RX9_23 d_X9_firstBest_12 rfl (Nat.le_of_ble_eq_true rfl) ⟨rfl, rfl, Nat.le_of_ble_eq_true rfl, Nat.le_of_ble_eq_true rfl, Nat.le_of_ble_eq_true rfl⟩ (fun n => ?_)
    refine V_if_ne (tgt := 35) d_X9_firstBest_15 (by decide) (fun c15 => ?_) (fun c15 => ?_)
    · replace hf := iteT (b2i_ne0 c15) hf
      refine V_less (ls' := [some _, some _, some _]) ⟨rfl, rfl, rfl, trivial⟩ ?_
      exact s_X9_firstBest_j35_2 hG hf hK
    · replace hf := iteF (b2i_nt (b2i_eq0 c15)) hf
      refine V_aload_n d_X9_firstBest_18 rfl rfl ?_
      refine V_iload_n d_X9_firstBest_19 rfl rfl ?_
      refine V_iload_n d_X9_firstBest_20 rfl rfl ?_
      obtain ⟨t2, ht2, hf⟩ := ob hf
      refine B_callV1 (s_X9_with hG ht2) k_259 clX9 m_X9_with kv_RX9_27 d_X9_firstBest_21 rfl (Nat.le_of_ble_eq_true rfl) ⟨rfl, rfl, Nat.le_of_ble_eq_true rfl, Nat.le_of_ble_eq_true rfl, Nat.le_of_ble_eq_true rfl⟩ (fun n => ?_)
      refine V_aload_n d_X9_firstBest_24 rfl rfl ?_
      refine B_get k_259 fl_RX9_15 d_X9_firstBest_25 g_9_1 ?_
      refine V_iload_n d_X9_firstBest_28 rfl rfl ?_
      obtain ⟨t3, ht3, hf⟩ := ob hf
      refine B_iald k_261 ht3 d_X9_firstBest_29 ?_
      refine V_icmp_ne (tgt := 35) d_X9_firstBest_30 (by decide) (fun c30 => ?_) (fun c30 => ?_)
      · replace hf := iteF c30 hf
        refine V_less (ls' := [some _, some _, some _]) ⟨rfl, rfl, rfl, trivial⟩ ?_
        exact s_X9_firstBest_j35_2 hG hf hK
      · replace hf := iteT c30 hf
        refine V_iload_n d_X9_firstBest_33 rfl rfl ?_
        cases hf
        exact R_i ((hK.2 _ rfl).2 _ rfl) d_X9_firstBest_34 (Nat.le_of_ble_eq_true rfl) (Nat.le_of_ble_eq_true rfl)
theorem s_X9_firstBest_j41 {G : Gl} (hG : G.1.stackTraces = false) {C : Cx} {n : Nat} {μ : Mem}  {r : Int32} (hf : f_X9_firstBest_j41 μ = some r) (hK : FinR G C F_X9_firstBest (some .int) (some (.int r)) μ) : V G C F_X9_firstBest 41 [none, none, none] [] (pic G μ) n 0 0 := by
  unfold f_X9_firstBest_j41 at hf
  refine V_iconst (v := 0) d_X9_firstBest_41 ic_0 ?_
  cases hf
  exact R_i hK d_X9_firstBest_42 (Nat.le_of_ble_eq_true rfl) (Nat.le_of_ble_eq_true rfl)
theorem s_X9_firstBest_l2 {G : Gl} (hG : G.1.stackTraces = false) {C : Cx} {n : Nat} {μ : Mem} {l1 : Int32} {l2 : Int32} {r : Int32} (hf : f_X9_firstBest_l2 μ l1 l2 = some r) (hK : FinR G C F_X9_firstBest (some .int) (some (.int r)) μ) : V G C F_X9_firstBest 2 [some (.ref (G.2.1 + 259)), some (.int l1), some (.int l2)] [] (pic G μ) n 0 0 := by
  unfold f_X9_firstBest_l2 at hf
  obtain ⟨t, hl, hf⟩ := ob hf
  refine loopV (P := fun z => ∀ n, V G C F_X9_firstBest 2 [some (.ref (G.2.1 + 259)), some (.int l1), some (.int z)] [] (pic G μ) n 0 0) (t := t) ?_ _ _ hl n
  intro z y' hy hI hT n
  refine s_X9_firstBest_b2 hG hy ⟨hI, fun x9 ex => ?_⟩
  have ex2 := hT x9 ex
  subst ex2
  refine ⟨fun e he => ?_, fun x2 hx => ?_⟩
  · subst he
    intro n
    exact s_X9_firstBest_j41 hG hf hK
  · subst hx
    cases hf
    exact hK
theorem s_X9_firstBest_e {G : Gl} (hG : G.1.stackTraces = false) {C : Cx} {n : Nat} {μ : Mem} {p1 : Int32} {r : Int32} (hf : f_X9_firstBest μ p1 = some r) (hK : FinR G C F_X9_firstBest (some .int) (some (.int r)) μ) : V G C F_X9_firstBest 0 [some (.ref (G.2.1 + 259)), some (.int p1), none] [] (pic G μ) n 0 0 := by
  unfold f_X9_firstBest at hf
  refine V_iconst (v := 0) d_X9_firstBest_0 ic_0 ?_
  refine V_istore_n (ls' := [_, _, _]) d_X9_firstBest_1 rfl rfl rfl ?_
  refine V_less (ls' := [some _, some _, some _]) ⟨rfl, rfl, rfl, trivial⟩ ?_
  exact s_X9_firstBest_l2 hG hf hK
theorem s_X9_firstBest {G : Gl} (hG : G.1.stackTraces = false) {μ : Mem} {p1 : Int32} {r : Int32} (hf : f_X9_firstBest μ p1 = some r) : Rt G yX9_firstBest F_X9_firstBest (some .int) [.ref (G.2.1 + 259), .int p1] μ (some (.int r)) μ := fun n => Sd.of hG ⟨by decide +kernel, rfl, rfl⟩ rfl (Nat.le_of_ble_eq_true rfl) rfl (fun C hK => s_X9_firstBest_e hG hf hK)
theorem d_X9_partOf_0 : decode cX9_partOf 0 = .ok (.aload_n 0, 1) := by decide +kernel
theorem d_X9_partOf_1 : decode cX9_partOf 1 = .ok (.getfield 15, 3) := by decide +kernel
theorem d_X9_partOf_4 : decode cX9_partOf 4 = .ok (.iconst 0, 1) := by decide +kernel
theorem d_X9_partOf_5 : decode cX9_partOf 5 = .ok (.iaload, 1) := by decide +kernel
theorem d_X9_partOf_6 : decode cX9_partOf 6 = .ok (.ldc 22, 2) := by decide +kernel
theorem d_X9_partOf_8 : decode cX9_partOf 8 = .ok (.if_icmp .lt 5, 3) := by decide +kernel
theorem d_X9_partOf_11 : decode cX9_partOf 11 = .ok (.iconst (-1), 1) := by decide +kernel
theorem d_X9_partOf_12 : decode cX9_partOf 12 = .ok (.ireturn, 1) := by decide +kernel
theorem d_X9_partOf_13 : decode cX9_partOf 13 = .ok (.iconst 0, 1) := by decide +kernel
theorem d_X9_partOf_14 : decode cX9_partOf 14 = .ok (.istore_n 2, 1) := by decide +kernel
theorem d_X9_partOf_15 : decode cX9_partOf 15 = .ok (.iconst (-1), 1) := by decide +kernel
theorem d_X9_partOf_16 : decode cX9_partOf 16 = .ok (.istore_n 3, 1) := by decide +kernel
theorem d_X9_partOf_17 : decode cX9_partOf 17 = .ok (.iconst 0, 1) := by decide +kernel
theorem d_X9_partOf_18 : decode cX9_partOf 18 = .ok (.istore 4, 2) := by decide +kernel
theorem d_X9_partOf_20 : decode cX9_partOf 20 = .ok (.iload 4, 2) := by decide +kernel
theorem d_X9_partOf_22 : decode cX9_partOf 22 = .ok (.iload_n 1, 1) := by decide +kernel
theorem d_X9_partOf_23 : decode cX9_partOf 23 = .ok (.if_icmp .gt 21, 3) := by decide +kernel
theorem d_X9_partOf_26 : decode cX9_partOf 26 = .ok (.aload_n 0, 1) := by decide +kernel
theorem d_X9_partOf_27 : decode cX9_partOf 27 = .ok (.iload_n 2, 1) := by decide +kernel
theorem d_X9_partOf_28 : decode cX9_partOf 28 = .ok (.invokevirtual 36, 3) := by decide +kernel
theorem d_X9_partOf_31 : decode cX9_partOf 31 = .ok (.istore_n 3, 1) := by decide +kernel
theorem d_X9_partOf_32 : decode cX9_partOf 32 = .ok (.iload_n 2, 1) := by decide +kernel
theorem d_X9_partOf_33 : decode cX9_partOf 33 = .ok (.iconst 1, 1) := by decide +kernel
theorem d_X9_partOf_34 : decode cX9_partOf 34 = .ok (.iload_n 3, 1) := by decide +kernel
theorem d_X9_partOf_35 : decode cX9_partOf 35 = .ok (.ishl, 1) := by decide +kernel
theorem d_X9_partOf_36 : decode cX9_partOf 36 = .ok (.ior, 1) := by decide +kernel
theorem d_X9_partOf_37 : decode cX9_partOf 37 = .ok (.istore_n 2, 1) := by decide +kernel
theorem d_X9_partOf_38 : decode cX9_partOf 38 = .ok (.iinc 4 1, 3) := by decide +kernel
theorem d_X9_partOf_41 : decode cX9_partOf 41 = .ok (.goto (-21), 3) := by decide +kernel
theorem d_X9_partOf_44 : decode cX9_partOf 44 = .ok (.iload_n 3, 1) := by decide +kernel
theorem d_X9_partOf_45 : decode cX9_partOf 45 = .ok (.ireturn, 1) := by decide +kernel
theorem s_X9_partOf_b20 {G : Gl} (hG : G.1.stackTraces = false) {C : Cx} {n : Nat} {μ : Mem} {l1 : Int32} {l2 : Int32} {l3 : Int32} {l4 : Int32} {y : ((Int32 × Int32 × Int32) ⊕ Int32)} (hf : f_X9_partOf_b20 μ l1 l2 l3 l4 = some y) (hK : (∀ z', y = .inl z' → ∀ n, V G C F_X9_partOf 20 [some (.ref (G.2.1 + 259)), some (.int l1), some (.int z'.1), some (.int z'.2.1), some (.int z'.2.2)] [] (pic G μ) n 0 0) ∧ (∀ x', y = .inr x' → ∀ n, V G C F_X9_partOf 44 [none, none, none, some (.int x'), none] [] (pic G μ) n 0 0)) : V G C F_X9_partOf 20 [some (.ref (G.2.1 + 259)), some (.int l1), some (.int l2), some (.int l3), some (.int l4)] [] (pic G μ) n 0 0 := by
  unfold f_X9_partOf_b20 at hf
  refine V_iload d_X9_partOf_20 rfl ?_
  refine V_iload_n d_X9_partOf_22 rfl rfl ?_
  refine V_icmp_gt (tgt := 44) d_X9_partOf_23 (by decide) (fun c23 => ?_) (fun c23 => ?_)
  · replace hf := iteT c23 hf
    refine V_less (ls' := [none, none, none, some _, none]) ⟨rfl, trivial⟩ ?_
    cases hf
    exact hK.2 _ rfl _
  · replace hf := iteF c23 hf
    refine V_aload_n d_X9_partOf_26 rfl rfl ?_
    refine V_iload_n d_X9_partOf_27 rfl rfl ?_
    obtain ⟨t1, ht1, hf⟩ := ob hf
    refine B_callV1 (s_X9_firstBest hG ht1) k_259 clX9 m_X9_firstBest kv_RX9_36 d_X9_partOf_28 rfl (Nat.le_of_ble_eq_true rfl) ⟨rfl, rfl, Nat.le_of_ble_eq_true rfl, Nat.le_of_ble_eq_true rfl, Nat.le_of_ble_eq_true rfl⟩ (fun n => ?_)
    refine V_istore_n (ls' := [_, _, _, _, _]) d_X9_partOf_31 rfl rfl rfl ?_
    refine V_iload_n d_X9_partOf_32 rfl rfl ?_
    refine V_iconst (v := 1) d_X9_partOf_33 ic_1 ?_
    refine V_iload_n d_X9_partOf_34 rfl rfl ?_
    refine V_ishl d_X9_partOf_35 ?_
    refine V_ior d_X9_partOf_36 ?_
    refine V_istore_n (ls' := [_, _, _, _, _]) d_X9_partOf_37 rfl rfl rfl ?_
    refine V_iinc (v := (l4 + 1)) (ls' := [_, _, _, _, _]) d_X9_partOf_38 rfl (by rw [ic_1]) rfl ?_
    refine V_goto (tgt := 20) d_X9_partOf_41 (by decide) ?_
    refine V_less (ls' := [some _, some _, some _, some _, some _]) ⟨rfl, rfl, rfl, rfl, rfl, trivial⟩ ?_
    cases hf
    exact hK.1 _ rfl _
theorem s_X9_partOf_j44 {G : Gl} (hG : G.1.stackTraces = false) {C : Cx} {n : Nat} {μ : Mem} {l3 : Int32} {r : Int32} (hf : f_X9_partOf_j44 μ l3 = some r) (hK : FinR G C F_X9_partOf (some .int) (some (.int r)) μ) : V G C F_X9_partOf 44 [none, none, none, some (.int l3), none] [] (pic G μ) n 0 0 := by
  unfold f_X9_partOf_j44 at hf
  refine V_iload_n d_X9_partOf_44 rfl rfl ?_
  cases hf
  exact R_i hK d_X9_partOf_45 (Nat.le_of_ble_eq_true rfl) (Nat.le_of_ble_eq_true rfl)
theorem s_X9_partOf_l20 {G : Gl} (hG : G.1.stackTraces = false) {C : Cx} {n : Nat} {μ : Mem} {l1 : Int32} {l2 : Int32} {l3 : Int32} {l4 : Int32} {r : Int32} (hf : f_X9_partOf_l20 μ l1 l2 l3 l4 = some r) (hK : FinR G C F_X9_partOf (some .int) (some (.int r)) μ) : V G C F_X9_partOf 20 [some (.ref (G.2.1 + 259)), some (.int l1), some (.int l2), some (.int l3), some (.int l4)] [] (pic G μ) n 0 0 := by
  unfold f_X9_partOf_l20 at hf
  obtain ⟨t, hl, hf⟩ := ob hf
  refine loopV (P := fun z => ∀ n, V G C F_X9_partOf 20 [some (.ref (G.2.1 + 259)), some (.int l1), some (.int z.1), some (.int z.2.1), some (.int z.2.2)] [] (pic G μ) n 0 0) (t := t) ?_ _ _ hl n
  intro z y' hy hI hT n
  refine s_X9_partOf_b20 hG hy ⟨hI, fun x9 ex => ?_⟩
  have ex2 := hT x9 ex
  subst ex2
  intro n
  exact s_X9_partOf_j44 hG hf hK
theorem s_X9_partOf_e {G : Gl} (hG : G.1.stackTraces = false) {C : Cx} {n : Nat} {μ : Mem} {p1 : Int32} {r : Int32} (hf : f_X9_partOf μ p1 = some r) (hK : FinR G C F_X9_partOf (some .int) (some (.int r)) μ) : V G C F_X9_partOf 0 [some (.ref (G.2.1 + 259)), some (.int p1), none, none, none] [] (pic G μ) n 0 0 := by
  unfold f_X9_partOf at hf
  refine V_aload_n d_X9_partOf_0 rfl rfl ?_
  refine B_get k_259 fl_RX9_15 d_X9_partOf_1 g_9_1 ?_
  refine V_iconst (v := 0) d_X9_partOf_4 ic_0 ?_
  obtain ⟨t1, ht1, hf⟩ := ob hf
  refine B_iald k_261 ht1 d_X9_partOf_5 ?_
  refine V_ldc (v := 1000000) d_X9_partOf_6 w_1196 ?_
  refine V_icmp_lt (tgt := 13) d_X9_partOf_8 (by decide) (fun c8 => ?_) (fun c8 => ?_)
  · replace hf := iteT c8 hf
    refine V_iconst (v := 0) d_X9_partOf_13 ic_0 ?_
    refine V_istore_n (ls' := [_, _, _, _, _]) d_X9_partOf_14 rfl rfl rfl ?_
    refine V_iconst (v := (-1)) d_X9_partOf_15 ic_m1 ?_
    refine V_istore_n (ls' := [_, _, _, _, _]) d_X9_partOf_16 rfl rfl rfl ?_
    refine V_iconst (v := 0) d_X9_partOf_17 ic_0 ?_
    refine V_istore (ls' := [_, _, _, _, _]) d_X9_partOf_18 rfl rfl ?_
    refine V_less (ls' := [some _, some _, some _, some _, some _]) ⟨rfl, rfl, rfl, rfl, rfl, trivial⟩ ?_
    exact s_X9_partOf_l20 hG hf hK
  · replace hf := iteF c8 hf
    refine V_iconst (v := (-1)) d_X9_partOf_11 ic_m1 ?_
    cases hf
    exact R_i hK d_X9_partOf_12 (Nat.le_of_ble_eq_true rfl) (Nat.le_of_ble_eq_true rfl)
theorem s_X9_partOf {G : Gl} (hG : G.1.stackTraces = false) {μ : Mem} {p1 : Int32} {r : Int32} (hf : f_X9_partOf μ p1 = some r) : Rt G yX9_partOf F_X9_partOf (some .int) [.ref (G.2.1 + 259), .int p1] μ (some (.int r)) μ := fun n => Sd.of hG ⟨by decide +kernel, rfl, rfl⟩ rfl (Nat.le_of_ble_eq_true rfl) rfl (fun C hK => s_X9_partOf_e hG hf hK)
theorem d_X10_areTold_0 : decode cX10_areTold 0 = .ok (.iload_n 1, 1) := by decide +kernel
theorem d_X10_areTold_1 : decode cX10_areTold 1 = .ok (.bipush 36, 2) := by decide +kernel
theorem d_X10_areTold_3 : decode cX10_areTold 3 = .ok (.if_icmp .gt 9, 3) := by decide +kernel
theorem d_X10_areTold_6 : decode cX10_areTold 6 = .ok (.iload_n 1, 1) := by decide +kernel
theorem d_X10_areTold_7 : decode cX10_areTold 7 = .ok (.iconst 3, 1) := by decide +kernel
theorem d_X10_areTold_8 : decode cX10_areTold 8 = .ok (.irem, 1) := by decide +kernel
theorem d_X10_areTold_9 : decode cX10_areTold 9 = .ok (.ifCond .eq 5, 3) := by decide +kernel
theorem d_X10_areTold_12 : decode cX10_areTold 12 = .ok (.iconst 0, 1) := by decide +kernel
theorem d_X10_areTold_13 : decode cX10_areTold 13 = .ok (.ireturn, 1) := by decide +kernel
theorem d_X10_areTold_14 : decode cX10_areTold 14 = .ok (.iconst 0, 1) := by decide +kernel
theorem d_X10_areTold_15 : decode cX10_areTold 15 = .ok (.istore_n 3, 1) := by decide +kernel
theorem d_X10_areTold_16 : decode cX10_areTold 16 = .ok (.iload_n 3, 1) := by decide +kernel
theorem d_X10_areTold_17 : decode cX10_areTold 17 = .ok (.iload_n 1, 1) := by decide +kernel
theorem d_X10_areTold_18 : decode cX10_areTold 18 = .ok (.if_icmp .ge 49, 3) := by decide +kernel
theorem d_X10_areTold_21 : decode cX10_areTold 21 = .ok (.aload_n 0, 1) := by decide +kernel
theorem d_X10_areTold_22 : decode cX10_areTold 22 = .ok (.getfield 25, 3) := by decide +kernel
theorem d_X10_areTold_25 : decode cX10_areTold 25 = .ok (.getfield 29, 3) := by decide +kernel
theorem d_X10_areTold_28 : decode cX10_areTold 28 = .ok (.iload_n 3, 1) := by decide +kernel
theorem d_X10_areTold_29 : decode cX10_areTold 29 = .ok (.iaload, 1) := by decide +kernel
theorem d_X10_areTold_30 : decode cX10_areTold 30 = .ok (.aload_n 0, 1) := by decide +kernel
theorem d_X10_areTold_31 : decode cX10_areTold 31 = .ok (.getfield 25, 3) := by decide +kernel
theorem d_X10_areTold_34 : decode cX10_areTold 34 = .ok (.getfield 29, 3) := by decide +kernel
theorem d_X10_areTold_37 : decode cX10_areTold 37 = .ok (.iload_n 3, 1) := by decide +kernel
theorem d_X10_areTold_38 : decode cX10_areTold 38 = .ok (.iconst 1, 1) := by decide +kernel
theorem d_X10_areTold_39 : decode cX10_areTold 39 = .ok (.iadd, 1) := by decide +kernel
theorem d_X10_areTold_40 : decode cX10_areTold 40 = .ok (.iaload, 1) := by decide +kernel
theorem d_X10_areTold_41 : decode cX10_areTold 41 = .ok (.if_icmp .gt 18, 3) := by decide +kernel
theorem d_X10_areTold_44 : decode cX10_areTold 44 = .ok (.aload_n 0, 1) := by decide +kernel
theorem d_X10_areTold_45 : decode cX10_areTold 45 = .ok (.getfield 25, 3) := by decide +kernel
theorem d_X10_areTold_48 : decode cX10_areTold 48 = .ok (.getfield 29, 3) := by decide +kernel
theorem d_X10_areTold_51 : decode cX10_areTold 51 = .ok (.iload_n 3, 1) := by decide +kernel
theorem d_X10_areTold_52 : decode cX10_areTold 52 = .ok (.iconst 1, 1) := by decide +kernel
theorem d_X10_areTold_53 : decode cX10_areTold 53 = .ok (.iadd, 1) := by decide +kernel
theorem d_X10_areTold_54 : decode cX10_areTold 54 = .ok (.iaload, 1) := by decide +kernel
theorem d_X10_areTold_55 : decode cX10_areTold 55 = .ok (.iload_n 2, 1) := by decide +kernel
theorem d_X10_areTold_56 : decode cX10_areTold 56 = .ok (.if_icmp .lt 5, 3) := by decide +kernel
theorem d_X10_areTold_59 : decode cX10_areTold 59 = .ok (.iconst 0, 1) := by decide +kernel
theorem d_X10_areTold_60 : decode cX10_areTold 60 = .ok (.ireturn, 1) := by decide +kernel
theorem d_X10_areTold_61 : decode cX10_areTold 61 = .ok (.iinc 3 3, 3) := by decide +kernel
theorem d_X10_areTold_64 : decode cX10_areTold 64 = .ok (.goto (-48), 3) := by decide +kernel
theorem d_X10_areTold_67 : decode cX10_areTold 67 = .ok (.iconst 1, 1) := by decide +kernel
theorem d_X10_areTold_68 : decode cX10_areTold 68 = .ok (.ireturn, 1) := by decide +kernel
theorem s_X10_areTold_j12 {G : Gl} (hG : G.1.stackTraces = false) {C : Cx} {n : Nat} {μ : Mem}  {r : Bool} (hf : f_X10_areTold_j12 μ = some r) (hK : FinR G C F_X10_areTold (some .boolean) (some (.int (b2i r))) μ) : V G C F_X10_areTold 12 [none, none, none, none] [] (pic G μ) n 0 0 := by
  unfold f_X10_areTold_j12 at hf
  refine V_iconst (v := 0) d_X10_areTold_12 ic_0 ?_
  cases hf
  exact R_z hK d_X10_areTold_13 (Nat.le_of_ble_eq_true rfl) (Nat.le_of_ble_eq_true rfl)
theorem s_X10_areTold_j59_16 {G : Gl} (hG : G.1.stackTraces = false) {C : Cx} {n : Nat} {μ : Mem}  {l1 : Int32} {l2 : Int32} {y : (Int32 ⊕ (Unit ⊕ Bool))} (hf : f_X10_areTold_j59_16 μ = some y) (hK : (∀ z', y = .inl z' → ∀ n, V G C F_X10_areTold 16 [some (.ref (G.2.1 + 262)), some (.int l1), some (.int l2), some (.int z')] [] (pic G μ) n 0 0) ∧ (∀ x', y = .inr x' → ((∀ x'', x' = .inl x'' → ∀ n, V G C F_X10_areTold 67 [none, none, none, none] [] (pic G μ) n 0 0) ∧ (∀ x''', x' = .inr x''' → FinR G C F_X10_areTold (some .boolean) (some (.int (b2i x'''))) μ)))) : V G C F_X10_areTold 59 [none, none, none, none] [] (pic G μ) n 0 0 := by
  unfold f_X10_areTold_j59_16 at hf
  refine V_iconst (v := 0) d_X10_areTold_59 ic_0 ?_
  cases hf
  exact R_z ((hK.2 _ rfl).2 _ rfl) d_X10_areTold_60 (Nat.le_of_ble_eq_true rfl) (Nat.le_of_ble_eq_true rfl)
theorem s_X10_areTold_b16 {G : Gl} (hG : G.1.stackTraces = false) {C : Cx} {n : Nat} {μ : Mem} {l1 : Int32} {l2 : Int32} {l3 : Int32} {y : (Int32 ⊕ (Unit ⊕ Bool))} (hf : f_X10_areTold_b16 μ l1 l2 l3 = some y) (hK : (∀ z', y = .inl z' → ∀ n, V G C F_X10_areTold 16 [some (.ref (G.2.1 + 262)), some (.int l1), some (.int l2), some (.int z')] [] (pic G μ) n 0 0) ∧ (∀ x', y = .inr x' → ((∀ x'', x' = .inl x'' → ∀ n, V G C F_X10_areTold 67 [none, none, none, none] [] (pic G μ) n 0 0) ∧ (∀ x''', x' = .inr x''' → FinR G C F_X10_areTold (some .boolean) (some (.int (b2i x'''))) μ)))) : V G C F_X10_areTold 16 [some (.ref (G.2.1 + 262)), some (.int l1), some (.int l2), some (.int l3)] [] (pic G μ) n 0 0 := by
  unfold f_X10_areTold_b16 at hf
  refine V_iload_n d_X10_areTold_16 rfl rfl ?_
  refine V_iload_n d_X10_areTold_17 rfl rfl ?_
  refine V_icmp_ge (tgt := 67) d_X10_areTold_18 (by decide) (fun c18 => ?_) (fun c18 => ?_)
  · replace hf := iteT c18 hf
    refine V_less (ls' := [none, none, none, none]) trivial ?_
    cases hf
    exact (hK.2 _ rfl).1 _ rfl _
  · replace hf := iteF c18 hf
    refine V_aload_n d_X10_areTold_21 rfl rfl ?_
    refine B_get k_262 fl_RX10_25 d_X10_areTold_22 g_10_0 ?_
    refine B_get k_1 fl_RX10_29 d_X10_areTold_25 g_8_0 ?_
    refine V_iload_n d_X10_areTold_28 rfl rfl ?_
    obtain ⟨t1, ht1, hf⟩ := ob hf
    refine B_iald k_2 ht1 d_X10_areTold_29 ?_
    refine V_aload_n d_X10_areTold_30 rfl rfl ?_
    refine B_get k_262 fl_RX10_25 d_X10_areTold_31 g_10_0 ?_
    refine B_get k_1 fl_RX10_29 d_X10_areTold_34 g_8_0 ?_
    refine V_iload_n d_X10_areTold_37 rfl rfl ?_
    refine V_iconst (v := 1) d_X10_areTold_38 ic_1 ?_
    refine V_iadd d_X10_areTold_39 ?_
    obtain ⟨t2, ht2, hf⟩ := ob hf
    refine B_iald k_2 ht2 d_X10_areTold_40 ?_
    refine V_icmp_gt (tgt := 59) d_X10_areTold_41 (by decide) (fun c41 => ?_) (fun c41 => ?_)
    · replace hf := iteT c41 hf
      refine V_less (ls' := [none, none, none, none]) trivial ?_
      exact s_X10_areTold_j59_16 hG hf hK
    · replace hf := iteF c41 hf
      refine V_aload_n d_X10_areTold_44 rfl rfl ?_
      refine B_get k_262 fl_RX10_25 d_X10_areTold_45 g_10_0 ?_
      refine B_get k_1 fl_RX10_29 d_X10_areTold_48 g_8_0 ?_
      refine V_iload_n d_X10_areTold_51 rfl rfl ?_
      refine V_iconst (v := 1) d_X10_areTold_52 ic_1 ?_
      refine V_iadd d_X10_areTold_53 ?_
      obtain ⟨t3, ht3, hf⟩ := ob hf
      refine B_iald k_2 ht3 d_X10_areTold_54 ?_
      refine V_iload_n d_X10_areTold_55 rfl rfl ?_
      refine V_icmp_lt (tgt := 61) d_X10_areTold_56 (by decide) (fun c56 => ?_) (fun c56 => ?_)
      · replace hf := iteT c56 hf
        refine V_iinc (v := (l3 + 3)) (ls' := [_, _, _, _]) d_X10_areTold_61 rfl (by rw [ic_3]) rfl ?_
        refine V_goto (tgt := 16) d_X10_areTold_64 (by decide) ?_
        refine V_less (ls' := [some _, some _, some _, some _]) ⟨rfl, rfl, rfl, rfl, trivial⟩ ?_
        cases hf
        exact hK.1 _ rfl _
      · replace hf := iteF c56 hf
        refine V_less (ls' := [none, none, none, none]) trivial ?_
        exact s_X10_areTold_j59_16 hG hf hK
theorem s_X10_areTold_j67 {G : Gl} (hG : G.1.stackTraces = false) {C : Cx} {n : Nat} {μ : Mem}  {r : Bool} (hf : f_X10_areTold_j67 μ = some r) (hK : FinR G C F_X10_areTold (some .boolean) (some (.int (b2i r))) μ) : V G C F_X10_areTold 67 [none, none, none, none] [] (pic G μ) n 0 0 := by
  unfold f_X10_areTold_j67 at hf
  refine V_iconst (v := 1) d_X10_areTold_67 ic_1 ?_
  cases hf
  exact R_z hK d_X10_areTold_68 (Nat.le_of_ble_eq_true rfl) (Nat.le_of_ble_eq_true rfl)
theorem s_X10_areTold_l16 {G : Gl} (hG : G.1.stackTraces = false) {C : Cx} {n : Nat} {μ : Mem} {l1 : Int32} {l2 : Int32} {l3 : Int32} {r : Bool} (hf : f_X10_areTold_l16 μ l1 l2 l3 = some r) (hK : FinR G C F_X10_areTold (some .boolean) (some (.int (b2i r))) μ) : V G C F_X10_areTold 16 [some (.ref (G.2.1 + 262)), some (.int l1), some (.int l2), some (.int l3)] [] (pic G μ) n 0 0 := by
  unfold f_X10_areTold_l16 at hf
  obtain ⟨t, hl, hf⟩ := ob hf
  refine loopV (P := fun z => ∀ n, V G C F_X10_areTold 16 [some (.ref (G.2.1 + 262)), some (.int l1), some (.int l2), some (.int z)] [] (pic G μ) n 0 0) (t := t) ?_ _ _ hl n
  intro z y' hy hI hT n
  refine s_X10_areTold_b16 hG hy ⟨hI, fun x9 ex => ?_⟩
  have ex2 := hT x9 ex
  subst ex2
  refine ⟨fun e he => ?_, fun x2 hx => ?_⟩
  · subst he
    intro n
    exact s_X10_areTold_j67 hG hf hK
  · subst hx
    cases hf
    exact hK
theorem s_X10_areTold_e {G : Gl} (hG : G.1.stackTraces = false) {C : Cx} {n : Nat} {μ : Mem} {p1 : Int32} {p2 : Int32} {r : Bool} (hf : f_X10_areTold μ p1 p2 = some r) (hK : FinR G C F_X10_areTold (some .boolean) (some (.int (b2i r))) μ) : V G C F_X10_areTold 0 [some (.ref (G.2.1 + 262)), some (.int p1), some (.int p2), none] [] (pic G μ) n 0 0 := by
  unfold f_X10_areTold at hf
  refine V_iload_n d_X10_areTold_0 rfl rfl ?_
  refine V_bipush (v := 36) d_X10_areTold_1 bp_36 ?_
  refine V_icmp_gt (tgt := 12) d_X10_areTold_3 (by decide) (fun c3 => ?_) (fun c3 => ?_)
  · replace hf := iteT c3 hf
    refine V_less (ls' := [none, none, none, none]) trivial ?_
    exact s_X10_areTold_j12 hG hf hK
  · replace hf := iteF c3 hf
    refine V_iload_n d_X10_areTold_6 rfl rfl ?_
    refine V_iconst (v := 3) d_X10_areTold_7 ic_3 ?_
    obtain ⟨t1, ht1, hf⟩ := ob hf
    obtain ⟨gt1, ht1⟩ := rm_some ht1
    refine V_irem d_X10_areTold_8 gt1 ?_
    rw [ht1]
    refine V_if_eq (tgt := 14) d_X10_areTold_9 (by decide) (fun c9 => ?_) (fun c9 => ?_)
    · replace hf := iteT c9 hf
      refine V_iconst (v := 0) d_X10_areTold_14 ic_0 ?_
      refine V_istore_n (ls' := [_, _, _, _]) d_X10_areTold_15 rfl rfl rfl ?_
      refine V_less (ls' := [some _, some _, some _, some _]) ⟨rfl, rfl, rfl, rfl, trivial⟩ ?_
      exact s_X10_areTold_l16 hG hf hK
    · replace hf := iteF c9 hf
      refine V_less (ls' := [none, none, none, none]) trivial ?_
      exact s_X10_areTold_j12 hG hf hK
theorem s_X10_areTold {G : Gl} (hG : G.1.stackTraces = false) {μ : Mem} {p1 : Int32} {p2 : Int32} {r : Bool} (hf : f_X10_areTold μ p1 p2 = some r) : Rt G yX10_areTold F_X10_areTold (some .boolean) [.ref (G.2.1 + 262), .int p1, .int p2] μ (some (.int (b2i r))) μ := fun n => Sd.of hG ⟨by decide +kernel, rfl, rfl⟩ rfl (Nat.le_of_ble_eq_true rfl) rfl (fun C hK => s_X10_areTold_e hG hf hK)
theorem d_X10_fits_0 : decode cX10_fits 0 = .ok (.iconst 0, 1) := by decide +kernel
theorem d_X10_fits_1 : decode cX10_fits 1 = .ok (.istore_n 3, 1) := by decide +kernel
theorem d_X10_fits_2 : decode cX10_fits 2 = .ok (.iload_n 3, 1) := by decide +kernel
theorem d_X10_fits_3 : decode cX10_fits 3 = .ok (.iload_n 2, 1) := by decide +kernel
theorem d_X10_fits_4 : decode cX10_fits 4 = .ok (.if_icmp .ge 75, 3) := by decide +kernel
theorem d_X10_fits_7 : decode cX10_fits 7 = .ok (.aload_n 0, 1) := by decide +kernel
theorem d_X10_fits_8 : decode cX10_fits 8 = .ok (.getfield 25, 3) := by decide +kernel
theorem d_X10_fits_11 : decode cX10_fits 11 = .ok (.getfield 29, 3) := by decide +kernel
theorem d_X10_fits_14 : decode cX10_fits 14 = .ok (.iload_n 3, 1) := by decide +kernel
theorem d_X10_fits_15 : decode cX10_fits 15 = .ok (.iconst 1, 1) := by decide +kernel
theorem d_X10_fits_16 : decode cX10_fits 16 = .ok (.iadd, 1) := by decide +kernel
theorem d_X10_fits_17 : decode cX10_fits 17 = .ok (.iaload, 1) := by decide +kernel
theorem d_X10_fits_18 : decode cX10_fits 18 = .ok (.aload_n 0, 1) := by decide +kernel
theorem d_X10_fits_19 : decode cX10_fits 19 = .ok (.getfield 25, 3) := by decide +kernel
theorem d_X10_fits_22 : decode cX10_fits 22 = .ok (.getfield 29, 3) := by decide +kernel
theorem d_X10_fits_25 : decode cX10_fits 25 = .ok (.iload_n 3, 1) := by decide +kernel
theorem d_X10_fits_26 : decode cX10_fits 26 = .ok (.iaload, 1) := by decide +kernel
theorem d_X10_fits_27 : decode cX10_fits 27 = .ok (.isub, 1) := by decide +kernel
theorem d_X10_fits_28 : decode cX10_fits 28 = .ok (.iconst 1, 1) := by decide +kernel
theorem d_X10_fits_29 : decode cX10_fits 29 = .ok (.iadd, 1) := by decide +kernel
theorem d_X10_fits_30 : decode cX10_fits 30 = .ok (.istore 4, 2) := by decide +kernel
theorem d_X10_fits_32 : decode cX10_fits 32 = .ok (.iload_n 1, 1) := by decide +kernel
theorem d_X10_fits_33 : decode cX10_fits 33 = .ok (.aload_n 0, 1) := by decide +kernel
theorem d_X10_fits_34 : decode cX10_fits 34 = .ok (.getfield 25, 3) := by decide +kernel
theorem d_X10_fits_37 : decode cX10_fits 37 = .ok (.getfield 29, 3) := by decide +kernel
theorem d_X10_fits_40 : decode cX10_fits 40 = .ok (.iload_n 3, 1) := by decide +kernel
theorem d_X10_fits_41 : decode cX10_fits 41 = .ok (.iaload, 1) := by decide +kernel
theorem d_X10_fits_42 : decode cX10_fits 42 = .ok (.ishr, 1) := by decide +kernel
theorem d_X10_fits_43 : decode cX10_fits 43 = .ok (.iconst 1, 1) := by decide +kernel
theorem d_X10_fits_44 : decode cX10_fits 44 = .ok (.iload 4, 2) := by decide +kernel
theorem d_X10_fits_46 : decode cX10_fits 46 = .ok (.ishl, 1) := by decide +kernel
theorem d_X10_fits_47 : decode cX10_fits 47 = .ok (.iconst 1, 1) := by decide +kernel
theorem d_X10_fits_48 : decode cX10_fits 48 = .ok (.isub, 1) := by decide +kernel
theorem d_X10_fits_49 : decode cX10_fits 49 = .ok (.iand, 1) := by decide +kernel
theorem d_X10_fits_50 : decode cX10_fits 50 = .ok (.istore 5, 2) := by decide +kernel
theorem d_X10_fits_52 : decode cX10_fits 52 = .ok (.iload 5, 2) := by decide +kernel
theorem d_X10_fits_54 : decode cX10_fits 54 = .ok (.invokestatic 48, 3) := by decide +kernel
theorem d_X10_fits_57 : decode cX10_fits 57 = .ok (.aload_n 0, 1) := by decide +kernel
theorem d_X10_fits_58 : decode cX10_fits 58 = .ok (.getfield 25, 3) := by decide +kernel
theorem d_X10_fits_61 : decode cX10_fits 61 = .ok (.getfield 29, 3) := by decide +kernel
theorem d_X10_fits_64 : decode cX10_fits 64 = .ok (.iload_n 3, 1) := by decide +kernel
theorem d_X10_fits_65 : decode cX10_fits 65 = .ok (.iconst 2, 1) := by decide +kernel
theorem d_X10_fits_66 : decode cX10_fits 66 = .ok (.iadd, 1) := by decide +kernel
theorem d_X10_fits_67 : decode cX10_fits 67 = .ok (.iaload, 1) := by decide +kernel
theorem d_X10_fits_68 : decode cX10_fits 68 = .ok (.if_icmp .eq 5, 3) := by decide +kernel
theorem d_X10_fits_71 : decode cX10_fits 71 = .ok (.iconst 0, 1) := by decide +kernel
theorem d_X10_fits_72 : decode cX10_fits 72 = .ok (.ireturn, 1) := by decide +kernel
theorem d_X10_fits_73 : decode cX10_fits 73 = .ok (.iinc 3 3, 3) := by decide +kernel
theorem d_X10_fits_76 : decode cX10_fits 76 = .ok (.goto (-74), 3) := by decide +kernel
theorem d_X10_fits_79 : decode cX10_fits 79 = .ok (.iconst 1, 1) := by decide +kernel
theorem d_X10_fits_80 : decode cX10_fits 80 = .ok (.ireturn, 1) := by decide +kernel
theorem s_X10_fits_b2 {G : Gl} (hG : G.1.stackTraces = false) {C : Cx} {n : Nat} {μ : Mem} {l1 : Int32} {l2 : Int32} {l3 : Int32} {y : (Int32 ⊕ (Unit ⊕ Bool))} (hf : f_X10_fits_b2 μ l1 l2 l3 = some y) (hK : (∀ z', y = .inl z' → ∀ n, V G C F_X10_fits 2 [some (.ref (G.2.1 + 262)), some (.int l1), some (.int l2), some (.int z'), none, none] [] (pic G μ) n 0 0) ∧ (∀ x', y = .inr x' → ((∀ x'', x' = .inl x'' → ∀ n, V G C F_X10_fits 79 [none, none, none, none, none, none] [] (pic G μ) n 0 0) ∧ (∀ x''', x' = .inr x''' → FinR G C F_X10_fits (some .boolean) (some (.int (b2i x'''))) μ)))) : V G C F_X10_fits 2 [some (.ref (G.2.1 + 262)), some (.int l1), some (.int l2), some (.int l3), none, none] [] (pic G μ) n 0 0 := by
  unfold f_X10_fits_b2 at hf
  refine V_iload_n d_X10_fits_2 rfl rfl ?_
  refine V_iload_n d_X10_fits_3 rfl rfl ?_
  refine V_icmp_ge (tgt := 79) d_X10_fits_4 (by decide) (fun c4 => ?_) (fun c4 => ?_)
  · replace hf := iteT c4 hf
    refine V_less (ls' := [none, none, none, none, none, none]) trivial ?_
    cases hf
    exact (hK.2 _ rfl).1 _ rfl _
  · replace hf := iteF c4 hf
    refine V_aload_n d_X10_fits_7 rfl rfl ?_
    refine B_get k_262 fl_RX10_25 d_X10_fits_8 g_10_0 ?_
    refine B_get k_1 fl_RX10_29 d_X10_fits_11 g_8_0 ?_
    refine V_iload_n d_X10_fits_14 rfl rfl ?_
    refine V_iconst (v := 1) d_X10_fits_15 ic_1 ?_
    refine V_iadd d_X10_fits_16 ?_
    obtain ⟨t1, ht1, hf⟩ := ob hf
    refine B_iald k_2 ht1 d_X10_fits_17 ?_
    refine V_aload_n d_X10_fits_18 rfl rfl ?_
    refine B_get k_262 fl_RX10_25 d_X10_fits_19 g_10_0 ?_
    refine B_get k_1 fl_RX10_29 d_X10_fits_22 g_8_0 ?_
    refine V_iload_n d_X10_fits_25 rfl rfl ?_
    obtain ⟨t2, ht2, hf⟩ := ob hf
    refine B_iald k_2 ht2 d_X10_fits_26 ?_
    refine V_isub d_X10_fits_27 ?_
    refine V_iconst (v := 1) d_X10_fits_28 ic_1 ?_
    refine V_iadd d_X10_fits_29 ?_
    refine V_istore (ls' := [_, _, _, _, _, _]) d_X10_fits_30 rfl rfl ?_
    refine V_iload_n d_X10_fits_32 rfl rfl ?_
    refine V_aload_n d_X10_fits_33 rfl rfl ?_
    refine B_get k_262 fl_RX10_25 d_X10_fits_34 g_10_0 ?_
    refine B_get k_1 fl_RX10_29 d_X10_fits_37 g_8_0 ?_
    refine V_iload_n d_X10_fits_40 rfl rfl ?_
    obtain ⟨t3, ht3, hf⟩ := ob hf
    refine B_iald k_2 ht3 d_X10_fits_41 ?_
    refine V_ishr d_X10_fits_42 ?_
    refine V_iconst (v := 1) d_X10_fits_43 ic_1 ?_
    refine V_iload d_X10_fits_44 rfl ?_
    refine V_ishl d_X10_fits_46 ?_
    refine V_iconst (v := 1) d_X10_fits_47 ic_1 ?_
    refine V_isub d_X10_fits_48 ?_
    refine V_iand d_X10_fits_49 ?_
    refine V_istore (ls' := [_, _, _, _, _, _]) d_X10_fits_50 rfl rfl ?_
    refine V_iload d_X10_fits_52 rfl ?_
    obtain ⟨t4, ht4, hf⟩ := ob hf
    refine B_callS1 (s_J6_bitCount_0f7a4 hG ht4) m_J6_bitCount_0f7a4 ks_RX10_48 d_X10_fits_54 rfl (Nat.le_of_ble_eq_true rfl) ⟨rfl, rfl, Nat.le_of_ble_eq_true rfl, Nat.le_of_ble_eq_true rfl, Nat.le_of_ble_eq_true rfl⟩ (fun n => ?_)
    refine V_aload_n d_X10_fits_57 rfl rfl ?_
    refine B_get k_262 fl_RX10_25 d_X10_fits_58 g_10_0 ?_
    refine B_get k_1 fl_RX10_29 d_X10_fits_61 g_8_0 ?_
    refine V_iload_n d_X10_fits_64 rfl rfl ?_
    refine V_iconst (v := 2) d_X10_fits_65 ic_2 ?_
    refine V_iadd d_X10_fits_66 ?_
    obtain ⟨t5, ht5, hf⟩ := ob hf
    refine B_iald k_2 ht5 d_X10_fits_67 ?_
    refine V_icmp_eq (tgt := 73) d_X10_fits_68 (by decide) (fun c68 => ?_) (fun c68 => ?_)
    · replace hf := iteT c68 hf
      refine V_iinc (v := (l3 + 3)) (ls' := [_, _, _, _, _, _]) d_X10_fits_73 rfl (by rw [ic_3]) rfl ?_
      refine V_goto (tgt := 2) d_X10_fits_76 (by decide) ?_
      refine V_less (ls' := [some _, some _, some _, some _, none, none]) ⟨rfl, rfl, rfl, rfl, trivial⟩ ?_
      cases hf
      exact hK.1 _ rfl _
    · replace hf := iteF c68 hf
      refine V_iconst (v := 0) d_X10_fits_71 ic_0 ?_
      cases hf
      exact R_z ((hK.2 _ rfl).2 _ rfl) d_X10_fits_72 (Nat.le_of_ble_eq_true rfl) (Nat.le_of_ble_eq_true rfl)
theorem s_X10_fits_j79 {G : Gl} (hG : G.1.stackTraces = false) {C : Cx} {n : Nat} {μ : Mem}  {r : Bool} (hf : f_X10_fits_j79 μ = some r) (hK : FinR G C F_X10_fits (some .boolean) (some (.int (b2i r))) μ) : V G C F_X10_fits 79 [none, none, none, none, none, none] [] (pic G μ) n 0 0 := by
  unfold f_X10_fits_j79 at hf
  refine V_iconst (v := 1) d_X10_fits_79 ic_1 ?_
  cases hf
  exact R_z hK d_X10_fits_80 (Nat.le_of_ble_eq_true rfl) (Nat.le_of_ble_eq_true rfl)
theorem s_X10_fits_l2 {G : Gl} (hG : G.1.stackTraces = false) {C : Cx} {n : Nat} {μ : Mem} {l1 : Int32} {l2 : Int32} {l3 : Int32} {r : Bool} (hf : f_X10_fits_l2 μ l1 l2 l3 = some r) (hK : FinR G C F_X10_fits (some .boolean) (some (.int (b2i r))) μ) : V G C F_X10_fits 2 [some (.ref (G.2.1 + 262)), some (.int l1), some (.int l2), some (.int l3), none, none] [] (pic G μ) n 0 0 := by
  unfold f_X10_fits_l2 at hf
  obtain ⟨t, hl, hf⟩ := ob hf
  refine loopV (P := fun z => ∀ n, V G C F_X10_fits 2 [some (.ref (G.2.1 + 262)), some (.int l1), some (.int l2), some (.int z), none, none] [] (pic G μ) n 0 0) (t := t) ?_ _ _ hl n
  intro z y' hy hI hT n
  refine s_X10_fits_b2 hG hy ⟨hI, fun x9 ex => ?_⟩
  have ex2 := hT x9 ex
  subst ex2
  refine ⟨fun e he => ?_, fun x2 hx => ?_⟩
  · subst he
    intro n
    exact s_X10_fits_j79 hG hf hK
  · subst hx
    cases hf
    exact hK
theorem s_X10_fits_e {G : Gl} (hG : G.1.stackTraces = false) {C : Cx} {n : Nat} {μ : Mem} {p1 : Int32} {p2 : Int32} {r : Bool} (hf : f_X10_fits μ p1 p2 = some r) (hK : FinR G C F_X10_fits (some .boolean) (some (.int (b2i r))) μ) : V G C F_X10_fits 0 [some (.ref (G.2.1 + 262)), some (.int p1), some (.int p2), none, none, none] [] (pic G μ) n 0 0 := by
  unfold f_X10_fits at hf
  refine V_iconst (v := 0) d_X10_fits_0 ic_0 ?_
  refine V_istore_n (ls' := [_, _, _, _, _, _]) d_X10_fits_1 rfl rfl rfl ?_
  refine V_less (ls' := [some _, some _, some _, some _, none, none]) ⟨rfl, rfl, rfl, rfl, trivial⟩ ?_
  exact s_X10_fits_l2 hG hf hK
theorem s_X10_fits {G : Gl} (hG : G.1.stackTraces = false) {μ : Mem} {p1 : Int32} {p2 : Int32} {r : Bool} (hf : f_X10_fits μ p1 p2 = some r) : Rt G yX10_fits F_X10_fits (some .boolean) [.ref (G.2.1 + 262), .int p1, .int p2] μ (some (.int (b2i r))) μ := fun n => Sd.of hG ⟨by decide +kernel, rfl, rfl⟩ rfl (Nat.le_of_ble_eq_true rfl) rfl (fun C hK => s_X10_fits_e hG hf hK)
theorem d_X10_take_0 : decode cX10_take 0 = .ok (.aload_n 0, 1) := by decide +kernel
theorem d_X10_take_1 : decode cX10_take 1 = .ok (.aload_n 0, 1) := by decide +kernel
theorem d_X10_take_2 : decode cX10_take 2 = .ok (.getfield 19, 3) := by decide +kernel
theorem d_X10_take_5 : decode cX10_take 5 = .ok (.ifCond .ne 7, 3) := by decide +kernel
theorem d_X10_take_8 : decode cX10_take 8 = .ok (.iload_n 1, 1) := by decide +kernel
theorem d_X10_take_9 : decode cX10_take 9 = .ok (.goto 9, 3) := by decide +kernel
theorem d_X10_take_12 : decode cX10_take 12 = .ok (.aload_n 0, 1) := by decide +kernel
theorem d_X10_take_13 : decode cX10_take 13 = .ok (.getfield 22, 3) := by decide +kernel
theorem d_X10_take_16 : decode cX10_take 16 = .ok (.iload_n 1, 1) := by decide +kernel
theorem d_X10_take_17 : decode cX10_take 17 = .ok (.iand, 1) := by decide +kernel
theorem d_X10_take_18 : decode cX10_take 18 = .ok (.putfield 22, 3) := by decide +kernel
theorem d_X10_take_21 : decode cX10_take 21 = .ok (.aload_n 0, 1) := by decide +kernel
theorem d_X10_take_22 : decode cX10_take 22 = .ok (.dup, 1) := by decide +kernel
theorem d_X10_take_23 : decode cX10_take 23 = .ok (.getfield 19, 3) := by decide +kernel
theorem d_X10_take_26 : decode cX10_take 26 = .ok (.iconst 1, 1) := by decide +kernel
theorem d_X10_take_27 : decode cX10_take 27 = .ok (.iadd, 1) := by decide +kernel
theorem d_X10_take_28 : decode cX10_take 28 = .ok (.putfield 19, 3) := by decide +kernel
theorem d_X10_take_31 : decode cX10_take 31 = .ok (.iconst 0, 1) := by decide +kernel
theorem d_X10_take_32 : decode cX10_take 32 = .ok (.istore_n 2, 1) := by decide +kernel
theorem d_X10_take_33 : decode cX10_take 33 = .ok (.iload_n 2, 1) := by decide +kernel
theorem d_X10_take_34 : decode cX10_take 34 = .ok (.aload_n 0, 1) := by decide +kernel
theorem d_X10_take_35 : decode cX10_take 35 = .ok (.getfield 15, 3) := by decide +kernel
theorem d_X10_take_38 : decode cX10_take 38 = .ok (.if_icmp .ge 27, 3) := by decide +kernel
theorem d_X10_take_41 : decode cX10_take 41 = .ok (.iload_n 1, 1) := by decide +kernel
theorem d_X10_take_42 : decode cX10_take 42 = .ok (.iload_n 2, 1) := by decide +kernel
theorem d_X10_take_43 : decode cX10_take 43 = .ok (.invokestatic 54, 3) := by decide +kernel
theorem d_X10_take_46 : decode cX10_take 46 = .ok (.ifCond .eq 13, 3) := by decide +kernel
theorem d_X10_take_49 : decode cX10_take 49 = .ok (.aload_n 0, 1) := by decide +kernel
theorem d_X10_take_50 : decode cX10_take 50 = .ok (.getfield 9, 3) := by decide +kernel
theorem d_X10_take_53 : decode cX10_take 53 = .ok (.iload_n 2, 1) := by decide +kernel
theorem d_X10_take_54 : decode cX10_take 54 = .ok (.dup2, 1) := by decide +kernel
theorem d_X10_take_55 : decode cX10_take 55 = .ok (.iaload, 1) := by decide +kernel
theorem d_X10_take_56 : decode cX10_take 56 = .ok (.iconst 1, 1) := by decide +kernel
theorem d_X10_take_57 : decode cX10_take 57 = .ok (.iadd, 1) := by decide +kernel
theorem d_X10_take_58 : decode cX10_take 58 = .ok (.iastore, 1) := by decide +kernel
theorem d_X10_take_59 : decode cX10_take 59 = .ok (.iinc 2 1, 3) := by decide +kernel
theorem d_X10_take_62 : decode cX10_take 62 = .ok (.goto (-29), 3) := by decide +kernel
theorem d_X10_take_65 : decode cX10_take 65 = .ok (.return_, 1) := by decide +kernel
theorem s_X10_take_j59_33 {G : Gl} (hG : G.1.stackTraces = false) {C : Cx} {n : Nat} {μ : Mem} {l1 : Int32} {l2 : Int32} {y : ((Int32 × Mem) ⊕ Mem)} (hf : f_X10_take_j59_33 μ l1 l2 = some y) (hK : (∀ z', y = .inl z' → ∀ n, V G C F_X10_take 33 [some (.ref (G.2.1 + 262)), some (.int l1), some (.int z'.1)] [] (pic G z'.2) n 0 0) ∧ (∀ x', y = .inr x' → ∀ n, V G C F_X10_take 65 [none, none, none] [] (pic G x') n 0 0)) : V G C F_X10_take 59 [some (.ref (G.2.1 + 262)), some (.int l1), some (.int l2)] [] (pic G μ) n 0 0 := by
  unfold f_X10_take_j59_33 at hf
  refine V_iinc (v := (l2 + 1)) (ls' := [_, _, _]) d_X10_take_59 rfl (by rw [ic_1]) rfl ?_
  refine V_goto (tgt := 33) d_X10_take_62 (by decide) ?_
  refine V_less (ls' := [some _, some _, some _]) ⟨rfl, rfl, rfl, trivial⟩ ?_
  cases hf
  exact hK.1 _ rfl _
theorem s_X10_take_b33 {G : Gl} (hG : G.1.stackTraces = false) {C : Cx} {n : Nat} {μ : Mem} {l1 : Int32} {l2 : Int32} {y : ((Int32 × Mem) ⊕ Mem)} (hf : f_X10_take_b33 μ l1 l2 = some y) (hK : (∀ z', y = .inl z' → ∀ n, V G C F_X10_take 33 [some (.ref (G.2.1 + 262)), some (.int l1), some (.int z'.1)] [] (pic G z'.2) n 0 0) ∧ (∀ x', y = .inr x' → ∀ n, V G C F_X10_take 65 [none, none, none] [] (pic G x') n 0 0)) : V G C F_X10_take 33 [some (.ref (G.2.1 + 262)), some (.int l1), some (.int l2)] [] (pic G μ) n 0 0 := by
  unfold f_X10_take_b33 at hf
  refine V_iload_n d_X10_take_33 rfl rfl ?_
  refine V_aload_n d_X10_take_34 rfl rfl ?_
  refine B_get k_262 fl_RX10_15 d_X10_take_35 g_10_2 ?_
  refine V_icmp_ge (tgt := 65) d_X10_take_38 (by decide) (fun c38 => ?_) (fun c38 => ?_)
  · replace hf := iteT c38 hf
    refine V_less (ls' := [none, none, none]) trivial ?_
    cases hf
    exact hK.2 _ rfl _
  · replace hf := iteF c38 hf
    refine V_iload_n d_X10_take_41 rfl rfl ?_
    refine V_iload_n d_X10_take_42 rfl rfl ?_
    obtain ⟨t1, ht1, hf⟩ := ob hf
    refine B_callSN1 (s_X11_hasBit hG ht1) m_X11_hasBit ks_RX10_54 d_X10_take_43 rfl (Nat.le_of_ble_eq_true rfl) ⟨rfl, rfl, Nat.le_of_ble_eq_true rfl, Nat.le_of_ble_eq_true rfl, Nat.le_of_ble_eq_true rfl⟩ (fun n => ?_)
    refine V_if_eq (tgt := 59) d_X10_take_46 (by decide) (fun c46 => ?_) (fun c46 => ?_)
    · replace hf := iteF (b2i_nt (b2i_eq0 c46)) hf
      refine V_less (ls' := [some _, some _, some _]) ⟨rfl, rfl, rfl, trivial⟩ ?_
      exact s_X10_take_j59_33 hG hf hK
    · replace hf := iteT (b2i_ne0 c46) hf
      refine V_aload_n d_X10_take_49 rfl rfl ?_
      refine B_get k_262 fl_RX10_9 d_X10_take_50 g_10_1 ?_
      refine V_iload_n d_X10_take_53 rfl rfl ?_
      refine V_dup2 d_X10_take_54 rfl rfl ?_
      obtain ⟨t2, ht2, hf⟩ := ob hf
      refine B_iald k_263 ht2 d_X10_take_55 ?_
      refine V_iconst (v := 1) d_X10_take_56 ic_1 ?_
      refine V_iadd d_X10_take_57 ?_
      obtain ⟨μ3, hμ3, hf⟩ := ob hf
      refine B_iast k_263 hμ3 d_X10_take_58 ?_
      refine V_less (ls' := [some _, some _, some _]) ⟨rfl, rfl, rfl, trivial⟩ ?_
      exact s_X10_take_j59_33 hG hf hK
theorem s_X10_take_j65 {G : Gl} (hG : G.1.stackTraces = false) {C : Cx} {n : Nat} {μ : Mem}  {r : Mem} (hf : f_X10_take_j65 μ = some r) (hK : FinR G C F_X10_take none none r) : V G C F_X10_take 65 [none, none, none] [] (pic G μ) n 0 0 := by
  unfold f_X10_take_j65 at hf
  cases hf
  exact R_v hK d_X10_take_65 (Nat.le_of_ble_eq_true rfl) (Nat.le_of_ble_eq_true rfl)
theorem s_X10_take_l33 {G : Gl} (hG : G.1.stackTraces = false) {C : Cx} {n : Nat} {μ : Mem} {l1 : Int32} {l2 : Int32} {r : Mem} (hf : f_X10_take_l33 μ l1 l2 = some r) (hK : FinR G C F_X10_take none none r) : V G C F_X10_take 33 [some (.ref (G.2.1 + 262)), some (.int l1), some (.int l2)] [] (pic G μ) n 0 0 := by
  unfold f_X10_take_l33 at hf
  obtain ⟨t, hl, hf⟩ := ob hf
  refine loopV (P := fun z => ∀ n, V G C F_X10_take 33 [some (.ref (G.2.1 + 262)), some (.int l1), some (.int z.1)] [] (pic G z.2) n 0 0) (t := t) ?_ _ _ hl n
  intro z y' hy hI hT n
  refine s_X10_take_b33 hG hy ⟨hI, fun x9 ex => ?_⟩
  have ex2 := hT x9 ex
  subst ex2
  intro n
  exact s_X10_take_j65 hG hf hK
theorem s_X10_take_e {G : Gl} (hG : G.1.stackTraces = false) {C : Cx} {n : Nat} {μ : Mem} {p1 : Int32} {r : Mem} (hf : f_X10_take μ p1 = some r) (hK : FinR G C F_X10_take none none r) : V G C F_X10_take 0 [some (.ref (G.2.1 + 262)), some (.int p1), none] [] (pic G μ) n 0 0 := by
  unfold f_X10_take at hf
  refine V_aload_n d_X10_take_0 rfl rfl ?_
  refine V_aload_n d_X10_take_1 rfl rfl ?_
  refine B_get k_262 fl_RX10_19 d_X10_take_2 g_10_3 ?_
  have hJj1 : ∀ j1 : Int32, j1 = (if (μ 262 3) = 0 then (p1 : Int32) else ((μ 262 4) &&& p1)) → V G C F_X10_take 18 [some (.ref (G.2.1 + 262)), some (.int p1), none] [.int j1, .ref (G.2.1 + 262)] (pic G μ) n 0 0 := by
    intro j1 ej1
    subst ej1
    refine B_putI k_262 fl_RX10_22 pt_10_4 (Nat.le_of_ble_eq_true rfl) p_10_4 d_X10_take_18 ?_
    refine V_aload_n d_X10_take_21 rfl rfl ?_
    refine V_dup d_X10_take_22 rfl ?_
    refine B_get k_262 fl_RX10_19 d_X10_take_23 g_10_3 ?_
    refine V_iconst (v := 1) d_X10_take_26 ic_1 ?_
    refine V_iadd d_X10_take_27 ?_
    refine B_putI k_262 fl_RX10_19 pt_10_3 (Nat.le_of_ble_eq_true rfl) p_10_3 d_X10_take_28 ?_
    refine V_iconst (v := 0) d_X10_take_31 ic_0 ?_
    refine V_istore_n (ls' := [_, _, _]) d_X10_take_32 rfl rfl rfl ?_
    refine V_less (ls' := [some _, some _, some _]) ⟨rfl, rfl, rfl, trivial⟩ ?_
    exact s_X10_take_l33 hG hf hK
  refine V_if_ne (tgt := 12) d_X10_take_5 (by decide) (fun c5 => ?_) (fun c5 => ?_)
  · refine V_aload_n d_X10_take_12 rfl rfl ?_
    refine B_get k_262 fl_RX10_22 d_X10_take_13 g_10_4 ?_
    refine V_iload_n d_X10_take_16 rfl rfl ?_
    refine V_iand d_X10_take_17 ?_
    refine V_less (ls' := [some _, some _, none]) ⟨rfl, rfl, trivial⟩ ?_
    exact hJj1 ((μ 262 4) &&& p1) (by rw [if_neg c5])
  · refine V_iload_n d_X10_take_8 rfl rfl ?_
    refine V_goto (tgt := 18) d_X10_take_9 (by decide) ?_
    refine V_less (ls' := [some _, some _, none]) ⟨rfl, rfl, trivial⟩ ?_
    exact hJj1 p1 (by rw [if_pos c5])
theorem s_X10_take {G : Gl} (hG : G.1.stackTraces = false) {μ : Mem} {p1 : Int32} {r : Mem} (hf : f_X10_take μ p1 = some r) : Rt G yX10_take F_X10_take none [.ref (G.2.1 + 262), .int p1] μ none r := fun n => Sd.of hG ⟨by decide +kernel, rfl, rfl⟩ rfl (Nat.le_of_ble_eq_true rfl) rfl (fun C hK => s_X10_take_e hG hf hK)
theorem d_X10_seek_0 : decode cX10_seek 0 = .ok (.aload_n 0, 1) := by decide +kernel
theorem d_X10_seek_1 : decode cX10_seek 1 = .ok (.iload_n 2, 1) := by decide +kernel
theorem d_X10_seek_2 : decode cX10_seek 2 = .ok (.putfield 15, 3) := by decide +kernel
theorem d_X10_seek_5 : decode cX10_seek 5 = .ok (.aload_n 0, 1) := by decide +kernel
theorem d_X10_seek_6 : decode cX10_seek 6 = .ok (.iconst 0, 1) := by decide +kernel
theorem d_X10_seek_7 : decode cX10_seek 7 = .ok (.putfield 19, 3) := by decide +kernel
theorem d_X10_seek_10 : decode cX10_seek 10 = .ok (.aload_n 0, 1) := by decide +kernel
theorem d_X10_seek_11 : decode cX10_seek 11 = .ok (.iconst 0, 1) := by decide +kernel
theorem d_X10_seek_12 : decode cX10_seek 12 = .ok (.putfield 22, 3) := by decide +kernel
theorem d_X10_seek_15 : decode cX10_seek 15 = .ok (.iconst 0, 1) := by decide +kernel
theorem d_X10_seek_16 : decode cX10_seek 16 = .ok (.istore_n 3, 1) := by decide +kernel
theorem d_X10_seek_17 : decode cX10_seek 17 = .ok (.iload_n 3, 1) := by decide +kernel
theorem d_X10_seek_18 : decode cX10_seek 18 = .ok (.aload_n 0, 1) := by decide +kernel
theorem d_X10_seek_19 : decode cX10_seek 19 = .ok (.getfield 15, 3) := by decide +kernel
theorem d_X10_seek_22 : decode cX10_seek 22 = .ok (.if_icmp .ge 16, 3) := by decide +kernel
theorem d_X10_seek_25 : decode cX10_seek 25 = .ok (.aload_n 0, 1) := by decide +kernel
theorem d_X10_seek_26 : decode cX10_seek 26 = .ok (.getfield 9, 3) := by decide +kernel
theorem d_X10_seek_29 : decode cX10_seek 29 = .ok (.iload_n 3, 1) := by decide +kernel
theorem d_X10_seek_30 : decode cX10_seek 30 = .ok (.iconst 0, 1) := by decide +kernel
theorem d_X10_seek_31 : decode cX10_seek 31 = .ok (.iastore, 1) := by decide +kernel
theorem d_X10_seek_32 : decode cX10_seek 32 = .ok (.iinc 3 1, 3) := by decide +kernel
theorem d_X10_seek_35 : decode cX10_seek 35 = .ok (.goto (-18), 3) := by decide +kernel
theorem d_X10_seek_38 : decode cX10_seek 38 = .ok (.iconst 0, 1) := by decide +kernel
theorem d_X10_seek_39 : decode cX10_seek 39 = .ok (.istore_n 3, 1) := by decide +kernel
theorem d_X10_seek_40 : decode cX10_seek 40 = .ok (.iload_n 3, 1) := by decide +kernel
theorem d_X10_seek_41 : decode cX10_seek 41 = .ok (.iconst 1, 1) := by decide +kernel
theorem d_X10_seek_42 : decode cX10_seek 42 = .ok (.aload_n 0, 1) := by decide +kernel
theorem d_X10_seek_43 : decode cX10_seek 43 = .ok (.getfield 15, 3) := by decide +kernel
theorem d_X10_seek_46 : decode cX10_seek 46 = .ok (.ishl, 1) := by decide +kernel
theorem d_X10_seek_47 : decode cX10_seek 47 = .ok (.if_icmp .ge 23, 3) := by decide +kernel
theorem d_X10_seek_50 : decode cX10_seek 50 = .ok (.aload_n 0, 1) := by decide +kernel
theorem d_X10_seek_51 : decode cX10_seek 51 = .ok (.iload_n 3, 1) := by decide +kernel
theorem d_X10_seek_52 : decode cX10_seek 52 = .ok (.iload_n 1, 1) := by decide +kernel
theorem d_X10_seek_53 : decode cX10_seek 53 = .ok (.invokevirtual 34, 3) := by decide +kernel
theorem d_X10_seek_56 : decode cX10_seek 56 = .ok (.ifCond .eq 8, 3) := by decide +kernel
theorem d_X10_seek_59 : decode cX10_seek 59 = .ok (.aload_n 0, 1) := by decide +kernel
theorem d_X10_seek_60 : decode cX10_seek 60 = .ok (.iload_n 3, 1) := by decide +kernel
theorem d_X10_seek_61 : decode cX10_seek 61 = .ok (.invokevirtual 38, 3) := by decide +kernel
theorem d_X10_seek_64 : decode cX10_seek 64 = .ok (.iinc 3 1, 3) := by decide +kernel
theorem d_X10_seek_67 : decode cX10_seek 67 = .ok (.goto (-27), 3) := by decide +kernel
theorem d_X10_seek_70 : decode cX10_seek 70 = .ok (.return_, 1) := by decide +kernel
theorem s_X10_seek_b17 {G : Gl} (hG : G.1.stackTraces = false) {C : Cx} {n : Nat} {μ : Mem} {l1 : Int32} {l3 : Int32} {y : ((Int32 × Mem) ⊕ Mem)} (hf : f_X10_seek_b17 μ l1 l3 = some y) (hK : (∀ z', y = .inl z' → ∀ n, V G C F_X10_seek 17 [some (.ref (G.2.1 + 262)), some (.int l1), none, some (.int z'.1)] [] (pic G z'.2) n 0 0) ∧ (∀ x', y = .inr x' → ∀ n, V G C F_X10_seek 38 [some (.ref (G.2.1 + 262)), some (.int l1), none, none] [] (pic G x') n 0 0)) : V G C F_X10_seek 17 [some (.ref (G.2.1 + 262)), some (.int l1), none, some (.int l3)] [] (pic G μ) n 0 0 := by
  unfold f_X10_seek_b17 at hf
  refine V_iload_n d_X10_seek_17 rfl rfl ?_
  refine V_aload_n d_X10_seek_18 rfl rfl ?_
  refine B_get k_262 fl_RX10_15 d_X10_seek_19 g_10_2 ?_
  refine V_icmp_ge (tgt := 38) d_X10_seek_22 (by decide) (fun c22 => ?_) (fun c22 => ?_)
  · replace hf := iteT c22 hf
    refine V_less (ls' := [some _, some _, none, none]) ⟨rfl, rfl, trivial⟩ ?_
    cases hf
    exact hK.2 _ rfl _
  · replace hf := iteF c22 hf
    refine V_aload_n d_X10_seek_25 rfl rfl ?_
    refine B_get k_262 fl_RX10_9 d_X10_seek_26 g_10_1 ?_
    refine V_iload_n d_X10_seek_29 rfl rfl ?_
    refine V_iconst (v := 0) d_X10_seek_30 ic_0 ?_
    obtain ⟨μ1, hμ1, hf⟩ := ob hf
    refine B_iast k_263 hμ1 d_X10_seek_31 ?_
    refine V_iinc (v := (l3 + 1)) (ls' := [_, _, _, _]) d_X10_seek_32 rfl (by rw [ic_1]) rfl ?_
    refine V_goto (tgt := 17) d_X10_seek_35 (by decide) ?_
    refine V_less (ls' := [some _, some _, none, some _]) ⟨rfl, rfl, rfl, trivial⟩ ?_
    cases hf
    exact hK.1 _ rfl _
theorem s_X10_seek_j64_40 {G : Gl} (hG : G.1.stackTraces = false) {C : Cx} {n : Nat} {μ : Mem} {l1 : Int32} {l3 : Int32} {y : ((Int32 × Mem) ⊕ Mem)} (hf : f_X10_seek_j64_40 μ l1 l3 = some y) (hK : (∀ z', y = .inl z' → ∀ n, V G C F_X10_seek 40 [some (.ref (G.2.1 + 262)), some (.int l1), none, some (.int z'.1)] [] (pic G z'.2) n 0 0) ∧ (∀ x', y = .inr x' → ∀ n, V G C F_X10_seek 70 [none, none, none, none] [] (pic G x') n 0 0)) : V G C F_X10_seek 64 [some (.ref (G.2.1 + 262)), some (.int l1), none, some (.int l3)] [] (pic G μ) n 0 0 := by
  unfold f_X10_seek_j64_40 at hf
  refine V_iinc (v := (l3 + 1)) (ls' := [_, _, _, _]) d_X10_seek_64 rfl (by rw [ic_1]) rfl ?_
  refine V_goto (tgt := 40) d_X10_seek_67 (by decide) ?_
  refine V_less (ls' := [some _, some _, none, some _]) ⟨rfl, rfl, rfl, trivial⟩ ?_
  cases hf
  exact hK.1 _ rfl _
theorem s_X10_seek_b40 {G : Gl} (hG : G.1.stackTraces = false) {C : Cx} {n : Nat} {μ : Mem} {l1 : Int32} {l3 : Int32} {y : ((Int32 × Mem) ⊕ Mem)} (hf : f_X10_seek_b40 μ l1 l3 = some y) (hK : (∀ z', y = .inl z' → ∀ n, V G C F_X10_seek 40 [some (.ref (G.2.1 + 262)), some (.int l1), none, some (.int z'.1)] [] (pic G z'.2) n 0 0) ∧ (∀ x', y = .inr x' → ∀ n, V G C F_X10_seek 70 [none, none, none, none] [] (pic G x') n 0 0)) : V G C F_X10_seek 40 [some (.ref (G.2.1 + 262)), some (.int l1), none, some (.int l3)] [] (pic G μ) n 0 0 := by
  unfold f_X10_seek_b40 at hf
  refine V_iload_n d_X10_seek_40 rfl rfl ?_
  refine V_iconst (v := 1) d_X10_seek_41 ic_1 ?_
  refine V_aload_n d_X10_seek_42 rfl rfl ?_
  refine B_get k_262 fl_RX10_15 d_X10_seek_43 g_10_2 ?_
  refine V_ishl d_X10_seek_46 ?_
  refine V_icmp_ge (tgt := 70) d_X10_seek_47 (by decide) (fun c47 => ?_) (fun c47 => ?_)
  · replace hf := iteT c47 hf
    refine V_less (ls' := [none, none, none, none]) trivial ?_
    cases hf
    exact hK.2 _ rfl _
  · replace hf := iteF c47 hf
    refine V_aload_n d_X10_seek_50 rfl rfl ?_
    refine V_iload_n d_X10_seek_51 rfl rfl ?_
    refine V_iload_n d_X10_seek_52 rfl rfl ?_
    obtain ⟨t1, ht1, hf⟩ := ob hf
    refine B_callV1 (s_X10_fits hG ht1) k_262 clX10 m_X10_fits kv_RX10_34 d_X10_seek_53 rfl (Nat.le_of_ble_eq_true rfl) ⟨rfl, rfl, Nat.le_of_ble_eq_true rfl, Nat.le_of_ble_eq_true rfl, Nat.le_of_ble_eq_true rfl⟩ (fun n => ?_)
    refine V_if_eq (tgt := 64) d_X10_seek_56 (by decide) (fun c56 => ?_) (fun c56 => ?_)
    · replace hf := iteF (b2i_nt (b2i_eq0 c56)) hf
      refine V_less (ls' := [some _, some _, none, some _]) ⟨rfl, rfl, rfl, trivial⟩ ?_
      exact s_X10_seek_j64_40 hG hf hK
    · replace hf := iteT (b2i_ne0 c56) hf
      refine V_aload_n d_X10_seek_59 rfl rfl ?_
      refine V_iload_n d_X10_seek_60 rfl rfl ?_
      obtain ⟨q2, hq2, hf⟩ := ob hf
      refine B_callV0 (s_X10_take hG hq2) k_262 clX10 m_X10_take kv_RX10_38 d_X10_seek_61 rfl (Nat.le_of_ble_eq_true rfl) ⟨rfl, rfl, Nat.le_of_ble_eq_true rfl, Nat.le_of_ble_eq_true rfl, Nat.le_of_ble_eq_true rfl⟩ (fun n => ?_)
      refine V_less (ls' := [some _, some _, none, some _]) ⟨rfl, rfl, rfl, trivial⟩ ?_
      exact s_X10_seek_j64_40 hG hf hK
theorem s_X10_seek_j70 {G : Gl} (hG : G.1.stackTraces = false) {C : Cx} {n : Nat} {μ : Mem}  {r : Mem} (hf : f_X10_seek_j70 μ = some r) (hK : FinR G C F_X10_seek none none r) : V G C F_X10_seek 70 [none, none, none, none] [] (pic G μ) n 0 0 := by
  unfold f_X10_seek_j70 at hf
  cases hf
  exact R_v hK d_X10_seek_70 (Nat.le_of_ble_eq_true rfl) (Nat.le_of_ble_eq_true rfl)
theorem s_X10_seek_l40 {G : Gl} (hG : G.1.stackTraces = false) {C : Cx} {n : Nat} {μ : Mem} {l1 : Int32} {l3 : Int32} {r : Mem} (hf : f_X10_seek_l40 μ l1 l3 = some r) (hK : FinR G C F_X10_seek none none r) : V G C F_X10_seek 40 [some (.ref (G.2.1 + 262)), some (.int l1), none, some (.int l3)] [] (pic G μ) n 0 0 := by
  unfold f_X10_seek_l40 at hf
  obtain ⟨t, hl, hf⟩ := ob hf
  refine loopV (P := fun z => ∀ n, V G C F_X10_seek 40 [some (.ref (G.2.1 + 262)), some (.int l1), none, some (.int z.1)] [] (pic G z.2) n 0 0) (t := t) ?_ _ _ hl n
  intro z y' hy hI hT n
  refine s_X10_seek_b40 hG hy ⟨hI, fun x9 ex => ?_⟩
  have ex2 := hT x9 ex
  subst ex2
  intro n
  exact s_X10_seek_j70 hG hf hK
theorem s_X10_seek_j38 {G : Gl} (hG : G.1.stackTraces = false) {C : Cx} {n : Nat} {μ : Mem} {l1 : Int32} {r : Mem} (hf : f_X10_seek_j38 μ l1 = some r) (hK : FinR G C F_X10_seek none none r) : V G C F_X10_seek 38 [some (.ref (G.2.1 + 262)), some (.int l1), none, none] [] (pic G μ) n 0 0 := by
  unfold f_X10_seek_j38 at hf
  refine V_iconst (v := 0) d_X10_seek_38 ic_0 ?_
  refine V_istore_n (ls' := [_, _, _, _]) d_X10_seek_39 rfl rfl rfl ?_
  refine V_less (ls' := [some _, some _, none, some _]) ⟨rfl, rfl, rfl, trivial⟩ ?_
  exact s_X10_seek_l40 hG hf hK
theorem s_X10_seek_l17 {G : Gl} (hG : G.1.stackTraces = false) {C : Cx} {n : Nat} {μ : Mem} {l1 : Int32} {l3 : Int32} {r : Mem} (hf : f_X10_seek_l17 μ l1 l3 = some r) (hK : FinR G C F_X10_seek none none r) : V G C F_X10_seek 17 [some (.ref (G.2.1 + 262)), some (.int l1), none, some (.int l3)] [] (pic G μ) n 0 0 := by
  unfold f_X10_seek_l17 at hf
  obtain ⟨t, hl, hf⟩ := ob hf
  refine loopV (P := fun z => ∀ n, V G C F_X10_seek 17 [some (.ref (G.2.1 + 262)), some (.int l1), none, some (.int z.1)] [] (pic G z.2) n 0 0) (t := t) ?_ _ _ hl n
  intro z y' hy hI hT n
  refine s_X10_seek_b17 hG hy ⟨hI, fun x9 ex => ?_⟩
  have ex2 := hT x9 ex
  subst ex2
  intro n
  exact s_X10_seek_j38 hG hf hK
theorem s_X10_seek_e {G : Gl} (hG : G.1.stackTraces = false) {C : Cx} {n : Nat} {μ : Mem} {p1 : Int32} {p2 : Int32} {r : Mem} (hf : f_X10_seek μ p1 p2 = some r) (hK : FinR G C F_X10_seek none none r) : V G C F_X10_seek 0 [some (.ref (G.2.1 + 262)), some (.int p1), some (.int p2), none] [] (pic G μ) n 0 0 := by
  unfold f_X10_seek at hf
  refine V_aload_n d_X10_seek_0 rfl rfl ?_
  refine V_iload_n d_X10_seek_1 rfl rfl ?_
  refine B_putI k_262 fl_RX10_15 pt_10_2 (Nat.le_of_ble_eq_true rfl) p_10_2 d_X10_seek_2 ?_
  refine V_aload_n d_X10_seek_5 rfl rfl ?_
  refine V_iconst (v := 0) d_X10_seek_6 ic_0 ?_
  refine B_putI k_262 fl_RX10_19 pt_10_3 (Nat.le_of_ble_eq_true rfl) p_10_3 d_X10_seek_7 ?_
  refine V_aload_n d_X10_seek_10 rfl rfl ?_
  refine V_iconst (v := 0) d_X10_seek_11 ic_0 ?_
  refine B_putI k_262 fl_RX10_22 pt_10_4 (Nat.le_of_ble_eq_true rfl) p_10_4 d_X10_seek_12 ?_
  refine V_iconst (v := 0) d_X10_seek_15 ic_0 ?_
  refine V_istore_n (ls' := [_, _, _, _]) d_X10_seek_16 rfl rfl rfl ?_
  refine V_less (ls' := [some _, some _, none, some _]) ⟨rfl, rfl, rfl, trivial⟩ ?_
  exact s_X10_seek_l17 hG hf hK
theorem s_X10_seek {G : Gl} (hG : G.1.stackTraces = false) {μ : Mem} {p1 : Int32} {p2 : Int32} {r : Mem} (hf : f_X10_seek μ p1 p2 = some r) : Rt G yX10_seek F_X10_seek none [.ref (G.2.1 + 262), .int p1, .int p2] μ none r := fun n => Sd.of hG ⟨by decide +kernel, rfl, rfl⟩ rfl (Nat.le_of_ble_eq_true rfl) rfl (fun C hK => s_X10_seek_e hG hf hK)
