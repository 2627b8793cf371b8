theorem d_X11_ahead_0 : decode cX11_ahead 0 = .ok (.aload_n 0, 1) := by decide +kernel
theorem d_X11_ahead_1 : decode cX11_ahead 1 = .ok (.iload_n 1, 1) := by decide +kernel
theorem d_X11_ahead_2 : decode cX11_ahead 2 = .ok (.invokevirtual 149, 3) := by decide +kernel
theorem d_X11_ahead_5 : decode cX11_ahead 5 = .ok (.aload_n 0, 1) := by decide +kernel
theorem d_X11_ahead_6 : decode cX11_ahead 6 = .ok (.iload_n 2, 1) := by decide +kernel
theorem d_X11_ahead_7 : decode cX11_ahead 7 = .ok (.invokevirtual 323, 3) := by decide +kernel
theorem d_X11_ahead_10 : decode cX11_ahead 10 = .ok (.aload_n 0, 1) := by decide +kernel
theorem d_X11_ahead_11 : decode cX11_ahead 11 = .ok (.getfield 23, 3) := by decide +kernel
theorem d_X11_ahead_14 : decode cX11_ahead 14 = .ok (.aload_n 0, 1) := by decide +kernel
theorem d_X11_ahead_15 : decode cX11_ahead 15 = .ok (.getfield 19, 3) := by decide +kernel
theorem d_X11_ahead_18 : decode cX11_ahead 18 = .ok (.invokevirtual 102, 3) := by decide +kernel
theorem d_X11_ahead_21 : decode cX11_ahead 21 = .ok (.aload_n 0, 1) := by decide +kernel
theorem d_X11_ahead_22 : decode cX11_ahead 22 = .ok (.getfield 23, 3) := by decide +kernel
theorem d_X11_ahead_25 : decode cX11_ahead 25 = .ok (.iload_n 2, 1) := by decide +kernel
theorem d_X11_ahead_26 : decode cX11_ahead 26 = .ok (.aload_n 0, 1) := by decide +kernel
theorem d_X11_ahead_27 : decode cX11_ahead 27 = .ok (.getfield 32, 3) := by decide +kernel
theorem d_X11_ahead_30 : decode cX11_ahead 30 = .ok (.iconst 0, 1) := by decide +kernel
theorem d_X11_ahead_31 : decode cX11_ahead 31 = .ok (.invokevirtual 287, 3) := by decide +kernel
theorem d_X11_ahead_34 : decode cX11_ahead 34 = .ok (.pop, 1) := by decide +kernel
theorem d_X11_ahead_35 : decode cX11_ahead 35 = .ok (.iload_n 3, 1) := by decide +kernel
theorem d_X11_ahead_36 : decode cX11_ahead 36 = .ok (.ifCond .eq 15, 3) := by decide +kernel
theorem d_X11_ahead_39 : decode cX11_ahead 39 = .ok (.aload_n 0, 1) := by decide +kernel
theorem d_X11_ahead_40 : decode cX11_ahead 40 = .ok (.getfield 23, 3) := by decide +kernel
theorem d_X11_ahead_43 : decode cX11_ahead 43 = .ok (.getfield 152, 3) := by decide +kernel
theorem d_X11_ahead_46 : decode cX11_ahead 46 = .ok (.iload_n 1, 1) := by decide +kernel
theorem d_X11_ahead_47 : decode cX11_ahead 47 = .ok (.iaload, 1) := by decide +kernel
theorem d_X11_ahead_48 : decode cX11_ahead 48 = .ok (.goto 12, 3) := by decide +kernel
theorem d_X11_ahead_51 : decode cX11_ahead 51 = .ok (.aload_n 0, 1) := by decide +kernel
theorem d_X11_ahead_52 : decode cX11_ahead 52 = .ok (.getfield 23, 3) := by decide +kernel
theorem d_X11_ahead_55 : decode cX11_ahead 55 = .ok (.getfield 159, 3) := by decide +kernel
theorem d_X11_ahead_58 : decode cX11_ahead 58 = .ok (.iload_n 1, 1) := by decide +kernel
theorem d_X11_ahead_59 : decode cX11_ahead 59 = .ok (.iaload, 1) := by decide +kernel
theorem d_X11_ahead_60 : decode cX11_ahead 60 = .ok (.ireturn, 1) := by decide +kernel
theorem s_X11_ahead_j60 {G : Gl} (hG : G.1.stackTraces = false) {C : Cx} {n : Nat} {μ : Mem} {k0 : Int32} {r : ((Nat × Mem) ⊕ (Int32 × Mem))} (hf : f_X11_ahead_j60 μ k0 = some r) (hK : FinX G C F_X11_ahead (some .int) (Sum.map id (fun q => (some (.int q.1), q.2)) r)) : V G C F_X11_ahead 60 [none, none, none, none] [.int k0] (pic G μ) n 2 12 := by
  unfold f_X11_ahead_j60 at hf
  cases hf
  exact R_iX hK d_X11_ahead_60 (Nat.le_of_ble_eq_true rfl) (Nat.le_of_ble_eq_true rfl)
theorem s_X11_ahead_e {G : Gl} (hG : G.1.stackTraces = false) {C : Cx} {n : Nat} {μ : Mem} {p1 : Int32} {p2 : Int32} {p3 : Bool} {r : ((Nat × Mem) ⊕ (Int32 × Mem))} (hf : f_X11_ahead μ p1 p2 p3 = some r) (hK : FinX G C F_X11_ahead (some .int) (Sum.map id (fun q => (some (.int q.1), q.2)) r)) : V G C F_X11_ahead 0 [some (.ref (G.2.1 + 0)), some (.int p1), some (.int p2), some (.int (b2i p3))] [] (pic G μ) n 0 0 := by
  unfold f_X11_ahead at hf
  refine V_aload_n d_X11_ahead_0 rfl rfl ?_
  refine V_iload_n d_X11_ahead_1 rfl rfl ?_
  obtain ⟨q1, hq1, hf⟩ := ob hf
  cases q1 with
  | inl e9 =>
    obtain ⟨k9, μ9⟩ := e9
    refine B_callVXt (kc' := 1) (ks' := 6) (s_X11_needPerson hG hq1) k_0 clX11 m_X11_needPerson kv_RX11_149 d_X11_ahead_2 rfl (Nat.le_of_ble_eq_true rfl) ⟨rfl, rfl, Nat.le_of_ble_eq_true rfl, Nat.le_of_ble_eq_true rfl, Nat.le_of_ble_eq_true rfl⟩ (fun n => ?_)
    cases hf
    exact X_out hK rfl (Nat.le_of_ble_eq_true rfl) (Nat.le_of_ble_eq_true rfl)
  | inr v2 =>
    replace hf := elimR hf
    refine B_callVX0 (kc' := 1) (ks' := 6) (s_X11_needPerson hG hq1) k_0 clX11 m_X11_needPerson kv_RX11_149 d_X11_ahead_2 rfl (Nat.le_of_ble_eq_true rfl) ⟨rfl, rfl, Nat.le_of_ble_eq_true rfl, Nat.le_of_ble_eq_true rfl, Nat.le_of_ble_eq_true rfl⟩ (fun n => ?_)
    refine V_aload_n d_X11_ahead_5 rfl rfl ?_
    refine V_iload_n d_X11_ahead_6 rfl rfl ?_
    obtain ⟨q3, hq3, hf⟩ := ob hf
    cases q3 with
    | inl e9 =>
      obtain ⟨k9, μ9⟩ := e9
      refine B_callVXt (kc' := 2) (ks' := 12) (s_X11_needAhead hG hq3) k_0 clX11 m_X11_needAhead kv_RX11_323 d_X11_ahead_7 rfl (Nat.le_of_ble_eq_true rfl) ⟨rfl, rfl, Nat.le_of_ble_eq_true rfl, Nat.le_of_ble_eq_true rfl, Nat.le_of_ble_eq_true rfl⟩ (fun n => ?_)
      cases hf
      exact X_out hK rfl (Nat.le_of_ble_eq_true rfl) (Nat.le_of_ble_eq_true rfl)
    | inr v4 =>
      replace hf := elimR hf
      refine B_callVX0 (kc' := 2) (ks' := 12) (s_X11_needAhead hG hq3) k_0 clX11 m_X11_needAhead kv_RX11_323 d_X11_ahead_7 rfl (Nat.le_of_ble_eq_true rfl) ⟨rfl, rfl, Nat.le_of_ble_eq_true rfl, Nat.le_of_ble_eq_true rfl, Nat.le_of_ble_eq_true rfl⟩ (fun n => ?_)
      refine V_aload_n d_X11_ahead_10 rfl rfl ?_
      refine B_get k_0 fl_RX11_23 d_X11_ahead_11 g_11_2 ?_
      refine V_aload_n d_X11_ahead_14 rfl rfl ?_
      refine B_get k_0 fl_RX11_19 d_X11_ahead_15 g_11_1 ?_
      obtain ⟨q5, hq5, hf⟩ := ob hf
      refine B_callV0 (s_X2_copyFrom hG L_18 L_3 hq5) k_18 clX2 m_X2_copyFrom kv_RX11_102 d_X11_ahead_18 rfl (Nat.le_of_ble_eq_true rfl) ⟨rfl, rfl, Nat.le_of_ble_eq_true rfl, Nat.le_of_ble_eq_true rfl, Nat.le_of_ble_eq_true rfl⟩ (fun n => ?_)
      refine V_aload_n d_X11_ahead_21 rfl rfl ?_
      refine B_get k_0 fl_RX11_23 d_X11_ahead_22 g_11_2 ?_
      refine V_iload_n d_X11_ahead_25 rfl rfl ?_
      refine V_aload_n d_X11_ahead_26 rfl rfl ?_
      refine B_get k_0 fl_RX11_32 d_X11_ahead_27 g_11_4 ?_
      refine V_iconst (v := 0) d_X11_ahead_30 ic_0 ?_
      obtain ⟨q6, hq6, hf⟩ := ob hf
      refine B_callV1 (s_X2_liveOn hG L_18 W_48 hq6) k_18 clX2 m_X2_liveOn kv_RX11_287 d_X11_ahead_31 rfl (Nat.le_of_ble_eq_true rfl) ⟨rfl, rfl, Nat.le_of_ble_eq_true rfl, Nat.le_of_ble_eq_true rfl, Nat.le_of_ble_eq_true rfl⟩ (fun n => ?_)
      refine V_pop d_X11_ahead_34 rfl ?_
      refine V_iload_n d_X11_ahead_35 rfl rfl ?_
      refine V_if_eq (tgt := 51) d_X11_ahead_36 (by decide) (fun c36 => ?_) (fun c36 => ?_)
      · replace hf := iteF (b2i_nt (b2i_eq0 c36)) hf
        refine V_aload_n d_X11_ahead_51 rfl rfl ?_
        refine B_get k_0 fl_RX11_23 d_X11_ahead_52 g_11_2 ?_
        refine B_get k_18 fl_RX11_159 d_X11_ahead_55 g_2_8 ?_
        refine V_iload_n d_X11_ahead_58 rfl rfl ?_
        obtain ⟨t7, ht7, hf⟩ := ob hf
        refine B_iald k_21 ht7 d_X11_ahead_59 ?_
        refine V_less (ls' := [none, none, none, none]) trivial ?_
        exact s_X11_ahead_j60 hG hf hK
      · replace hf := iteT (b2i_ne0 c36) hf
        refine V_aload_n d_X11_ahead_39 rfl rfl ?_
        refine B_get k_0 fl_RX11_23 d_X11_ahead_40 g_11_2 ?_
        refine B_get k_18 fl_RX11_152 d_X11_ahead_43 g_2_6 ?_
        refine V_iload_n d_X11_ahead_46 rfl rfl ?_
        obtain ⟨t8, ht8, hf⟩ := ob hf
        refine B_iald k_19 ht8 d_X11_ahead_47 ?_
        refine V_goto (tgt := 60) d_X11_ahead_48 (by decide) ?_
        refine V_less (ls' := [none, none, none, none]) trivial ?_
        exact s_X11_ahead_j60 hG hf hK
theorem s_X11_ahead {G : Gl} (hG : G.1.stackTraces = false) {μ : Mem} {p1 : Int32} {p2 : Int32} {p3 : Bool} {r : ((Nat × Mem) ⊕ (Int32 × Mem))} (hf : f_X11_ahead μ p1 p2 p3 = some r) : Rx G yX11_ahead F_X11_ahead (.code yX11_ahead F_X11_ahead.2.1 F_X11_ahead.2.2.1 (some .int)) [.ref (G.2.1 + 0), .int p1, .int p2, .int (b2i p3)] μ (Sum.map id (fun q => (some (.int q.1), q.2)) r) := fun n => Sd.of hG ⟨by decide +kernel, rfl, rfl⟩ rfl (Nat.le_of_ble_eq_true rfl) rfl (fun C hK => s_X11_ahead_e hG hf hK)
theorem d_X11_rings_0 : decode cX11_rings 0 = .ok (.aload_n 0, 1) := by decide +kernel
theorem d_X11_rings_1 : decode cX11_rings 1 = .ok (.getfield 70, 3) := by decide +kernel
theorem d_X11_rings_4 : decode cX11_rings 4 = .ok (.aload_n 0, 1) := by decide +kernel
theorem d_X11_rings_5 : decode cX11_rings 5 = .ok (.getfield 19, 3) := by decide +kernel
theorem d_X11_rings_8 : decode cX11_rings 8 = .ok (.invokevirtual 326, 3) := by decide +kernel
theorem d_X11_rings_11 : decode cX11_rings 11 = .ok (.aload_n 0, 1) := by decide +kernel
theorem d_X11_rings_12 : decode cX11_rings 12 = .ok (.getfield 70, 3) := by decide +kernel
theorem d_X11_rings_15 : decode cX11_rings 15 = .ok (.getfield 329, 3) := by decide +kernel
theorem d_X11_rings_18 : decode cX11_rings 18 = .ok (.ireturn, 1) := by decide +kernel
theorem s_X11_rings_e {G : Gl} (hG : G.1.stackTraces = false) {C : Cx} {n : Nat} {μ : Mem}  {r : (Int32 × Mem)} (hf : f_X11_rings μ = some r) (hK : FinR G C F_X11_rings (some .int) (some (.int r.1)) r.2) : V G C F_X11_rings 0 [some (.ref (G.2.1 + 0))] [] (pic G μ) n 0 0 := by
  unfold f_X11_rings at hf
  refine V_aload_n d_X11_rings_0 rfl rfl ?_
  refine B_get k_0 fl_RX11_70 d_X11_rings_1 g_11_10 ?_
  refine V_aload_n d_X11_rings_4 rfl rfl ?_
  refine B_get k_0 fl_RX11_19 d_X11_rings_5 g_11_1 ?_
  obtain ⟨q1, hq1, hf⟩ := ob hf
  refine B_callV0 (s_X7_seek hG L_3 hq1) k_256 clX7 m_X7_seek kv_RX11_326 d_X11_rings_8 rfl (Nat.le_of_ble_eq_true rfl) ⟨rfl, rfl, Nat.le_of_ble_eq_true rfl, Nat.le_of_ble_eq_true rfl, Nat.le_of_ble_eq_true rfl⟩ (fun n => ?_)
  refine V_aload_n d_X11_rings_11 rfl rfl ?_
  refine B_get k_0 fl_RX11_70 d_X11_rings_12 g_11_10 ?_
  refine B_get k_256 fl_RX11_329 d_X11_rings_15 g_7_2 ?_
  cases hf
  exact R_i hK d_X11_rings_18 (Nat.le_of_ble_eq_true rfl) (Nat.le_of_ble_eq_true rfl)
theorem s_X11_rings {G : Gl} (hG : G.1.stackTraces = false) {μ : Mem} {r : (Int32 × Mem)} (hf : f_X11_rings μ = some r) : Rt G yX11_rings F_X11_rings (some .int) [.ref (G.2.1 + 0)] μ (some (.int r.1)) r.2 := fun n => Sd.of hG ⟨by decide +kernel, rfl, rfl⟩ rfl (Nat.le_of_ble_eq_true rfl) rfl (fun C hK => s_X11_rings_e hG hf hK)
theorem d_X11_untie_0 : decode cX11_untie 0 = .ok (.aload_n 0, 1) := by decide +kernel
theorem d_X11_untie_1 : decode cX11_untie 1 = .ok (.getfield 70, 3) := by decide +kernel
theorem d_X11_untie_4 : decode cX11_untie 4 = .ok (.aload_n 0, 1) := by decide +kernel
theorem d_X11_untie_5 : decode cX11_untie 5 = .ok (.getfield 19, 3) := by decide +kernel
theorem d_X11_untie_8 : decode cX11_untie 8 = .ok (.invokevirtual 326, 3) := by decide +kernel
theorem d_X11_untie_11 : decode cX11_untie 11 = .ok (.iload_n 1, 1) := by decide +kernel
theorem d_X11_untie_12 : decode cX11_untie 12 = .ok (.ifCond .eq 16, 3) := by decide +kernel
theorem d_X11_untie_15 : decode cX11_untie 15 = .ok (.aload_n 0, 1) := by decide +kernel
theorem d_X11_untie_16 : decode cX11_untie 16 = .ok (.getfield 70, 3) := by decide +kernel
theorem d_X11_untie_19 : decode cX11_untie 19 = .ok (.getfield 332, 3) := by decide +kernel
theorem d_X11_untie_22 : decode cX11_untie 22 = .ok (.invokestatic 335, 3) := by decide +kernel
theorem d_X11_untie_25 : decode cX11_untie 25 = .ok (.goto 10, 3) := by decide +kernel
theorem d_X11_untie_28 : decode cX11_untie 28 = .ok (.aload_n 0, 1) := by decide +kernel
theorem d_X11_untie_29 : decode cX11_untie 29 = .ok (.getfield 70, 3) := by decide +kernel
theorem d_X11_untie_32 : decode cX11_untie 32 = .ok (.getfield 332, 3) := by decide +kernel
theorem d_X11_untie_35 : decode cX11_untie 35 = .ok (.ireturn, 1) := by decide +kernel
theorem s_X11_untie_j35 {G : Gl} (hG : G.1.stackTraces = false) {C : Cx} {n : Nat} {μ : Mem} {k0 : Int32} {r : (Int32 × Mem)} (hf : f_X11_untie_j35 μ k0 = some r) (hK : FinR G C F_X11_untie (some .int) (some (.int r.1)) r.2) : V G C F_X11_untie 35 [none, none] [.int k0] (pic G μ) n 0 0 := by
  unfold f_X11_untie_j35 at hf
  cases hf
  exact R_i hK d_X11_untie_35 (Nat.le_of_ble_eq_true rfl) (Nat.le_of_ble_eq_true rfl)
theorem s_X11_untie_e {G : Gl} (hG : G.1.stackTraces = false) {C : Cx} {n : Nat} {μ : Mem} {p1 : Bool} {r : (Int32 × Mem)} (hf : f_X11_untie μ p1 = some r) (hK : FinR G C F_X11_untie (some .int) (some (.int r.1)) r.2) : V G C F_X11_untie 0 [some (.ref (G.2.1 + 0)), some (.int (b2i p1))] [] (pic G μ) n 0 0 := by
  unfold f_X11_untie at hf
  refine V_aload_n d_X11_untie_0 rfl rfl ?_
  refine B_get k_0 fl_RX11_70 d_X11_untie_1 g_11_10 ?_
  refine V_aload_n d_X11_untie_4 rfl rfl ?_
  refine B_get k_0 fl_RX11_19 d_X11_untie_5 g_11_1 ?_
  obtain ⟨q1, hq1, hf⟩ := ob hf
  refine B_callV0 (s_X7_seek hG L_3 hq1) k_256 clX7 m_X7_seek kv_RX11_326 d_X11_untie_8 rfl (Nat.le_of_ble_eq_true rfl) ⟨rfl, rfl, Nat.le_of_ble_eq_true rfl, Nat.le_of_ble_eq_true rfl, Nat.le_of_ble_eq_true rfl⟩ (fun n => ?_)
  refine V_iload_n d_X11_untie_11 rfl rfl ?_
  refine V_if_eq (tgt := 28) d_X11_untie_12 (by decide) (fun c12 => ?_) (fun c12 => ?_)
  · replace hf := iteF (b2i_nt (b2i_eq0 c12)) hf
    refine V_aload_n d_X11_untie_28 rfl rfl ?_
    refine B_get k_0 fl_RX11_70 d_X11_untie_29 g_11_10 ?_
    refine B_get k_256 fl_RX11_332 d_X11_untie_32 g_7_3 ?_
    refine V_less (ls' := [none, none]) trivial ?_
    exact s_X11_untie_j35 hG hf hK
  · replace hf := iteT (b2i_ne0 c12) hf
    refine V_aload_n d_X11_untie_15 rfl rfl ?_
    refine B_get k_0 fl_RX11_70 d_X11_untie_16 g_11_10 ?_
    refine B_get k_256 fl_RX11_332 d_X11_untie_19 g_7_3 ?_
    obtain ⟨t2, ht2, hf⟩ := ob hf
    refine B_callS1 (s_J6_bitCount_0f7a4 hG ht2) m_J6_bitCount_0f7a4 ks_RX11_335 d_X11_untie_22 rfl (Nat.le_of_ble_eq_true rfl) ⟨rfl, rfl, Nat.le_of_ble_eq_true rfl, Nat.le_of_ble_eq_true rfl, Nat.le_of_ble_eq_true rfl⟩ (fun n => ?_)
    refine V_goto (tgt := 35) d_X11_untie_25 (by decide) ?_
    refine V_less (ls' := [none, none]) trivial ?_
    exact s_X11_untie_j35 hG hf hK
theorem s_X11_untie {G : Gl} (hG : G.1.stackTraces = false) {μ : Mem} {p1 : Bool} {r : (Int32 × Mem)} (hf : f_X11_untie μ p1 = some r) : Rt G yX11_untie F_X11_untie (some .int) [.ref (G.2.1 + 0), .int (b2i p1)] μ (some (.int r.1)) r.2 := fun n => Sd.of hG ⟨by decide +kernel, rfl, rfl⟩ rfl (Nat.le_of_ble_eq_true rfl) rfl (fun C hK => s_X11_untie_e hG hf hK)
theorem d_X11_owes_0 : decode cX11_owes 0 = .ok (.aload_n 0, 1) := by decide +kernel
theorem d_X11_owes_1 : decode cX11_owes 1 = .ok (.iload_n 1, 1) := by decide +kernel
theorem d_X11_owes_2 : decode cX11_owes 2 = .ok (.invokevirtual 149, 3) := by decide +kernel
theorem d_X11_owes_5 : decode cX11_owes 5 = .ok (.aload_n 0, 1) := by decide +kernel
theorem d_X11_owes_6 : decode cX11_owes 6 = .ok (.iload_n 2, 1) := by decide +kernel
theorem d_X11_owes_7 : decode cX11_owes 7 = .ok (.invokevirtual 149, 3) := by decide +kernel
theorem d_X11_owes_10 : decode cX11_owes 10 = .ok (.iload_n 1, 1) := by decide +kernel
theorem d_X11_owes_11 : decode cX11_owes 11 = .ok (.iload_n 2, 1) := by decide +kernel
theorem d_X11_owes_12 : decode cX11_owes 12 = .ok (.if_icmp .ne 14, 3) := by decide +kernel
theorem d_X11_owes_15 : decode cX11_owes 15 = .ok (.new 113, 3) := by decide +kernel
theorem d_X11_owes_18 : decode cX11_owes 18 = .ok (.dup, 1) := by decide +kernel
theorem d_X11_owes_19 : decode cX11_owes 19 = .ok (.ldc_w 340, 3) := by decide +kernel
theorem d_X11_owes_22 : decode cX11_owes 22 = .ok (.invokespecial 117, 3) := by decide +kernel
theorem d_X11_owes_25 : decode cX11_owes 25 = .ok (.athrow, 1) := by decide +kernel
theorem d_X11_owes_26 : decode cX11_owes 26 = .ok (.aload_n 0, 1) := by decide +kernel
theorem d_X11_owes_27 : decode cX11_owes 27 = .ok (.getfield 19, 3) := by decide +kernel
theorem d_X11_owes_30 : decode cX11_owes 30 = .ok (.iload_n 1, 1) := by decide +kernel
theorem d_X11_owes_31 : decode cX11_owes 31 = .ok (.invokevirtual 342, 3) := by decide +kernel
theorem d_X11_owes_34 : decode cX11_owes 34 = .ok (.iload_n 2, 1) := by decide +kernel
theorem d_X11_owes_35 : decode cX11_owes 35 = .ok (.invokestatic 345, 3) := by decide +kernel
theorem d_X11_owes_38 : decode cX11_owes 38 = .ok (.ireturn, 1) := by decide +kernel
theorem s_X11_owes_e {G : Gl} (hG : G.1.stackTraces = false) {C : Cx} {n : Nat} {μ : Mem} {p1 : Int32} {p2 : Int32} {r : ((Nat × Mem) ⊕ (Bool × Mem))} (hf : f_X11_owes μ p1 p2 = some r) (hK : FinX G C F_X11_owes (some .boolean) (Sum.map id (fun q => (some (.int (b2i q.1)), q.2)) r)) : V G C F_X11_owes 0 [some (.ref (G.2.1 + 0)), some (.int p1), some (.int p2)] [] (pic G μ) n 0 0 := by
  unfold f_X11_owes at hf
  refine V_aload_n d_X11_owes_0 rfl rfl ?_
  refine V_iload_n d_X11_owes_1 rfl rfl ?_
  obtain ⟨q1, hq1, hf⟩ := ob hf
  cases q1 with
  | inl e9 =>
    obtain ⟨k9, μ9⟩ := e9
    refine B_callVXt (kc' := 1) (ks' := 6) (s_X11_needPerson hG hq1) k_0 clX11 m_X11_needPerson kv_RX11_149 d_X11_owes_2 rfl (Nat.le_of_ble_eq_true rfl) ⟨rfl, rfl, Nat.le_of_ble_eq_true rfl, Nat.le_of_ble_eq_true rfl, Nat.le_of_ble_eq_true rfl⟩ (fun n => ?_)
    cases hf
    exact X_out hK rfl (Nat.le_of_ble_eq_true rfl) (Nat.le_of_ble_eq_true rfl)
  | inr v2 =>
    replace hf := elimR hf
    refine B_callVX0 (kc' := 1) (ks' := 6) (s_X11_needPerson hG hq1) k_0 clX11 m_X11_needPerson kv_RX11_149 d_X11_owes_2 rfl (Nat.le_of_ble_eq_true rfl) ⟨rfl, rfl, Nat.le_of_ble_eq_true rfl, Nat.le_of_ble_eq_true rfl, Nat.le_of_ble_eq_true rfl⟩ (fun n => ?_)
    refine V_aload_n d_X11_owes_5 rfl rfl ?_
    refine V_iload_n d_X11_owes_6 rfl rfl ?_
    obtain ⟨q3, hq3, hf⟩ := ob hf
    cases q3 with
    | inl e9 =>
      obtain ⟨k9, μ9⟩ := e9
      refine B_callVXt (kc' := 2) (ks' := 12) (s_X11_needPerson hG hq3) k_0 clX11 m_X11_needPerson kv_RX11_149 d_X11_owes_7 rfl (Nat.le_of_ble_eq_true rfl) ⟨rfl, rfl, Nat.le_of_ble_eq_true rfl, Nat.le_of_ble_eq_true rfl, Nat.le_of_ble_eq_true rfl⟩ (fun n => ?_)
      cases hf
      exact X_out hK rfl (Nat.le_of_ble_eq_true rfl) (Nat.le_of_ble_eq_true rfl)
    | inr v4 =>
      replace hf := elimR hf
      refine B_callVX0 (kc' := 2) (ks' := 12) (s_X11_needPerson hG hq3) k_0 clX11 m_X11_needPerson kv_RX11_149 d_X11_owes_7 rfl (Nat.le_of_ble_eq_true rfl) ⟨rfl, rfl, Nat.le_of_ble_eq_true rfl, Nat.le_of_ble_eq_true rfl, Nat.le_of_ble_eq_true rfl⟩ (fun n => ?_)
      refine V_iload_n d_X11_owes_10 rfl rfl ?_
      refine V_iload_n d_X11_owes_11 rfl rfl ?_
      refine V_icmp_ne (tgt := 26) d_X11_owes_12 (by decide) (fun c12 => ?_) (fun c12 => ?_)
      · replace hf := iteF c12 hf
        refine V_aload_n d_X11_owes_26 rfl rfl ?_
        refine B_get k_0 fl_RX11_19 d_X11_owes_27 g_11_1 ?_
        refine V_iload_n d_X11_owes_30 rfl rfl ?_
        obtain ⟨t5, ht5, hf⟩ := ob hf
        refine B_callV1 (s_X2_creditorsOf hG L_3 ht5) k_3 clX2 m_X2_creditorsOf kv_RX11_342 d_X11_owes_31 rfl (Nat.le_of_ble_eq_true rfl) ⟨rfl, rfl, Nat.le_of_ble_eq_true rfl, Nat.le_of_ble_eq_true rfl, Nat.le_of_ble_eq_true rfl⟩ (fun n => ?_)
        refine V_iload_n d_X11_owes_34 rfl rfl ?_
        obtain ⟨t6, ht6, hf⟩ := ob hf
        refine B_callS1 (s_X11_hasBit hG ht6) m_X11_hasBit ks_RX11_345 d_X11_owes_35 rfl (Nat.le_of_ble_eq_true rfl) ⟨rfl, rfl, Nat.le_of_ble_eq_true rfl, Nat.le_of_ble_eq_true rfl, Nat.le_of_ble_eq_true rfl⟩ (fun n => ?_)
        cases hf
        exact R_zX hK d_X11_owes_38 (Nat.le_of_ble_eq_true rfl) (Nat.le_of_ble_eq_true rfl)
      · replace hf := iteT c12 hf
        cases hf
        exact B_throwW (k0 := 1) hK tk_RX11_113_340_117 rfl rfl d_X11_owes_15 d_X11_owes_18 d_X11_owes_19 d_X11_owes_22 d_X11_owes_25 (Nat.le_of_ble_eq_true rfl) (Nat.le_of_ble_eq_true rfl) (Nat.le_of_ble_eq_true rfl)
theorem s_X11_owes {G : Gl} (hG : G.1.stackTraces = false) {μ : Mem} {p1 : Int32} {p2 : Int32} {r : ((Nat × Mem) ⊕ (Bool × Mem))} (hf : f_X11_owes μ p1 p2 = some r) : Rx G yX11_owes F_X11_owes (.code yX11_owes F_X11_owes.2.1 F_X11_owes.2.2.1 (some .boolean)) [.ref (G.2.1 + 0), .int p1, .int p2] μ (Sum.map id (fun q => (some (.int (b2i q.1)), q.2)) r) := fun n => Sd.of hG ⟨by decide +kernel, rfl, rfl⟩ rfl (Nat.le_of_ble_eq_true rfl) rfl (fun C hK => s_X11_owes_e hG hf hK)
theorem d_X11_leads_0 : decode cX11_leads 0 = .ok (.aload_n 0, 1) := by decide +kernel
theorem d_X11_leads_1 : decode cX11_leads 1 = .ok (.iload_n 1, 1) := by decide +kernel
theorem d_X11_leads_2 : decode cX11_leads 2 = .ok (.invokevirtual 149, 3) := by decide +kernel
theorem d_X11_leads_5 : decode cX11_leads 5 = .ok (.aload_n 0, 1) := by decide +kernel
theorem d_X11_leads_6 : decode cX11_leads 6 = .ok (.getfield 19, 3) := by decide +kernel
theorem d_X11_leads_9 : decode cX11_leads 9 = .ok (.iload_n 1, 1) := by decide +kernel
theorem d_X11_leads_10 : decode cX11_leads 10 = .ok (.invokevirtual 342, 3) := by decide +kernel
theorem d_X11_leads_13 : decode cX11_leads 13 = .ok (.ireturn, 1) := by decide +kernel
theorem s_X11_leads_e {G : Gl} (hG : G.1.stackTraces = false) {C : Cx} {n : Nat} {μ : Mem} {p1 : Int32} {r : ((Nat × Mem) ⊕ (Int32 × Mem))} (hf : f_X11_leads μ p1 = some r) (hK : FinX G C F_X11_leads (some .int) (Sum.map id (fun q => (some (.int q.1), q.2)) r)) : V G C F_X11_leads 0 [some (.ref (G.2.1 + 0)), some (.int p1)] [] (pic G μ) n 0 0 := by
  unfold f_X11_leads at hf
  refine V_aload_n d_X11_leads_0 rfl rfl ?_
  refine V_iload_n d_X11_leads_1 rfl rfl ?_
  obtain ⟨q1, hq1, hf⟩ := ob hf
  cases q1 with
  | inl e9 =>
    obtain ⟨k9, μ9⟩ := e9
    refine B_callVXt (kc' := 1) (ks' := 6) (s_X11_needPerson hG hq1) k_0 clX11 m_X11_needPerson kv_RX11_149 d_X11_leads_2 rfl (Nat.le_of_ble_eq_true rfl) ⟨rfl, rfl, Nat.le_of_ble_eq_true rfl, Nat.le_of_ble_eq_true rfl, Nat.le_of_ble_eq_true rfl⟩ (fun n => ?_)
    cases hf
    exact X_out hK rfl (Nat.le_of_ble_eq_true rfl) (Nat.le_of_ble_eq_true rfl)
  | inr v2 =>
    replace hf := elimR hf
    refine B_callVX0 (kc' := 1) (ks' := 6) (s_X11_needPerson hG hq1) k_0 clX11 m_X11_needPerson kv_RX11_149 d_X11_leads_2 rfl (Nat.le_of_ble_eq_true rfl) ⟨rfl, rfl, Nat.le_of_ble_eq_true rfl, Nat.le_of_ble_eq_true rfl, Nat.le_of_ble_eq_true rfl⟩ (fun n => ?_)
    refine V_aload_n d_X11_leads_5 rfl rfl ?_
    refine B_get k_0 fl_RX11_19 d_X11_leads_6 g_11_1 ?_
    refine V_iload_n d_X11_leads_9 rfl rfl ?_
    obtain ⟨t3, ht3, hf⟩ := ob hf
    refine B_callV1 (s_X2_creditorsOf hG L_3 ht3) k_3 clX2 m_X2_creditorsOf kv_RX11_342 d_X11_leads_10 rfl (Nat.le_of_ble_eq_true rfl) ⟨rfl, rfl, Nat.le_of_ble_eq_true rfl, Nat.le_of_ble_eq_true rfl, Nat.le_of_ble_eq_true rfl⟩ (fun n => ?_)
    cases hf
    exact R_iX hK d_X11_leads_13 (Nat.le_of_ble_eq_true rfl) (Nat.le_of_ble_eq_true rfl)
theorem s_X11_leads {G : Gl} (hG : G.1.stackTraces = false) {μ : Mem} {p1 : Int32} {r : ((Nat × Mem) ⊕ (Int32 × Mem))} (hf : f_X11_leads μ p1 = some r) : Rx G yX11_leads F_X11_leads (.code yX11_leads F_X11_leads.2.1 F_X11_leads.2.2.1 (some .int)) [.ref (G.2.1 + 0), .int p1] μ (Sum.map id (fun q => (some (.int q.1), q.2)) r) := fun n => Sd.of hG ⟨by decide +kernel, rfl, rfl⟩ rfl (Nat.le_of_ble_eq_true rfl) rfl (fun C hK => s_X11_leads_e hG hf hK)
theorem d_X11_call_0 : decode cX11_call 0 = .ok (.aload_n 0, 1) := by decide +kernel
theorem d_X11_call_1 : decode cX11_call 1 = .ok (.iload_n 1, 1) := by decide +kernel
theorem d_X11_call_2 : decode cX11_call 2 = .ok (.invokevirtual 149, 3) := by decide +kernel
theorem d_X11_call_5 : decode cX11_call 5 = .ok (.iconst 0, 1) := by decide +kernel
theorem d_X11_call_6 : decode cX11_call 6 = .ok (.istore_n 3, 1) := by decide +kernel
theorem d_X11_call_7 : decode cX11_call 7 = .ok (.iconst 0, 1) := by decide +kernel
theorem d_X11_call_8 : decode cX11_call 8 = .ok (.istore 4, 2) := by decide +kernel
theorem d_X11_call_10 : decode cX11_call 10 = .ok (.iload 4, 2) := by decide +kernel
theorem d_X11_call_12 : decode cX11_call 12 = .ok (.aload_n 0, 1) := by decide +kernel
theorem d_X11_call_13 : decode cX11_call 13 = .ok (.getfield 19, 3) := by decide +kernel
theorem d_X11_call_16 : decode cX11_call 16 = .ok (.getfield 291, 3) := by decide +kernel
theorem d_X11_call_19 : decode cX11_call 19 = .ok (.if_icmp .ge 22, 3) := by decide +kernel
theorem d_X11_call_22 : decode cX11_call 22 = .ok (.iload_n 3, 1) := by decide +kernel
theorem d_X11_call_23 : decode cX11_call 23 = .ok (.aload_n 0, 1) := by decide +kernel
theorem d_X11_call_24 : decode cX11_call 24 = .ok (.getfield 19, 3) := by decide +kernel
theorem d_X11_call_27 : decode cX11_call 27 = .ok (.iload_n 1, 1) := by decide +kernel
theorem d_X11_call_28 : decode cX11_call 28 = .ok (.iload 4, 2) := by decide +kernel
theorem d_X11_call_30 : decode cX11_call 30 = .ok (.invokevirtual 349, 3) := by decide +kernel
theorem d_X11_call_33 : decode cX11_call 33 = .ok (.ior, 1) := by decide +kernel
theorem d_X11_call_34 : decode cX11_call 34 = .ok (.istore_n 3, 1) := by decide +kernel
theorem d_X11_call_35 : decode cX11_call 35 = .ok (.iinc 4 1, 3) := by decide +kernel
theorem d_X11_call_38 : decode cX11_call 38 = .ok (.goto (-28), 3) := by decide +kernel
theorem d_X11_call_41 : decode cX11_call 41 = .ok (.iload_n 2, 1) := by decide +kernel
theorem d_X11_call_42 : decode cX11_call 42 = .ok (.ifCond .eq 14, 3) := by decide +kernel
theorem d_X11_call_45 : decode cX11_call 45 = .ok (.aload_n 0, 1) := by decide +kernel
theorem d_X11_call_46 : decode cX11_call 46 = .ok (.getfield 19, 3) := by decide +kernel
theorem d_X11_call_49 : decode cX11_call 49 = .ok (.iload_n 3, 1) := by decide +kernel
theorem d_X11_call_50 : decode cX11_call 50 = .ok (.invokevirtual 352, 3) := by decide +kernel
theorem d_X11_call_53 : decode cX11_call 53 = .ok (.goto 4, 3) := by decide +kernel
theorem d_X11_call_56 : decode cX11_call 56 = .ok (.iload_n 3, 1) := by decide +kernel
theorem d_X11_call_57 : decode cX11_call 57 = .ok (.ireturn, 1) := by decide +kernel
theorem s_X11_call_b10 {G : Gl} (hG : G.1.stackTraces = false) {C : Cx} {n : Nat} {μ : Mem} {l1 : Int32} {l2 : Bool} {l3 : Int32} {l4 : Int32} {y : ((Int32 × Int32) ⊕ Int32)} (hf : f_X11_call_b10 μ l1 l2 l3 l4 = some y) (hK : (∀ z', y = .inl z' → ∀ n, V G C F_X11_call 10 [some (.ref (G.2.1 + 0)), some (.int l1), some (.int (b2i l2)), some (.int z'.1), some (.int z'.2)] [] (pic G μ) n 1 6) ∧ (∀ x', y = .inr x' → ∀ n, V G C F_X11_call 41 [some (.ref (G.2.1 + 0)), none, some (.int (b2i l2)), some (.int x'), none] [] (pic G μ) n 1 6)) : V G C F_X11_call 10 [some (.ref (G.2.1 + 0)), some (.int l1), some (.int (b2i l2)), some (.int l3), some (.int l4)] [] (pic G μ) n 1 6 := by
  unfold f_X11_call_b10 at hf
  refine V_iload d_X11_call_10 rfl ?_
  refine V_aload_n d_X11_call_12 rfl rfl ?_
  refine B_get k_0 fl_RX11_19 d_X11_call_13 g_11_1 ?_
  refine B_get k_3 fl_RX11_291 d_X11_call_16 g_2_0 ?_
  refine V_icmp_ge (tgt := 41) d_X11_call_19 (by decide) (fun c19 => ?_) (fun c19 => ?_)
  · replace hf := iteT c19 hf
    refine V_less (ls' := [some _, none, some _, some _, none]) ⟨rfl, rfl, rfl, trivial⟩ ?_
    cases hf
    exact hK.2 _ rfl _
  · replace hf := iteF c19 hf
    refine V_iload_n d_X11_call_22 rfl rfl ?_
    refine V_aload_n d_X11_call_23 rfl rfl ?_
    refine B_get k_0 fl_RX11_19 d_X11_call_24 g_11_1 ?_
    refine V_iload_n d_X11_call_27 rfl rfl ?_
    refine V_iload d_X11_call_28 rfl ?_
    obtain ⟨t1, ht1, hf⟩ := ob hf
    refine B_callV1 (s_X2_callable hG L_3 ht1) k_3 clX2 m_X2_callable kv_RX11_349 d_X11_call_30 rfl (Nat.le_of_ble_eq_true rfl) ⟨rfl, rfl, Nat.le_of_ble_eq_true rfl, Nat.le_of_ble_eq_true rfl, Nat.le_of_ble_eq_true rfl⟩ (fun n => ?_)
    refine V_ior d_X11_call_33 ?_
    refine V_istore_n (ls' := [_, _, _, _, _]) d_X11_call_34 rfl rfl rfl ?_
    refine V_iinc (v := (l4 + 1)) (ls' := [_, _, _, _, _]) d_X11_call_35 rfl (by rw [ic_1]) rfl ?_
    refine V_goto (tgt := 10) d_X11_call_38 (by decide) ?_
    refine V_less (ls' := [some _, some _, some _, some _, some _]) ⟨rfl, rfl, rfl, rfl, rfl, trivial⟩ ?_
    cases hf
    exact hK.1 _ rfl _
theorem s_X11_call_j57 {G : Gl} (hG : G.1.stackTraces = false) {C : Cx} {n : Nat} {μ : Mem} {k0 : Int32} {r : ((Nat × Mem) ⊕ (Int32 × Mem))} (hf : f_X11_call_j57 μ k0 = some r) (hK : FinX G C F_X11_call (some .int) (Sum.map id (fun q => (some (.int q.1), q.2)) r)) : V G C F_X11_call 57 [none, none, none, none, none] [.int k0] (pic G μ) n 1 6 := by
  unfold f_X11_call_j57 at hf
  cases hf
  exact R_iX hK d_X11_call_57 (Nat.le_of_ble_eq_true rfl) (Nat.le_of_ble_eq_true rfl)
theorem s_X11_call_j41 {G : Gl} (hG : G.1.stackTraces = false) {C : Cx} {n : Nat} {μ : Mem} {l2 : Bool} {l3 : Int32} {r : ((Nat × Mem) ⊕ (Int32 × Mem))} (hf : f_X11_call_j41 μ l2 l3 = some r) (hK : FinX G C F_X11_call (some .int) (Sum.map id (fun q => (some (.int q.1), q.2)) r)) : V G C F_X11_call 41 [some (.ref (G.2.1 + 0)), none, some (.int (b2i l2)), some (.int l3), none] [] (pic G μ) n 1 6 := by
  unfold f_X11_call_j41 at hf
  refine V_iload_n d_X11_call_41 rfl rfl ?_
  refine V_if_eq (tgt := 56) d_X11_call_42 (by decide) (fun c42 => ?_) (fun c42 => ?_)
  · replace hf := iteF (b2i_nt (b2i_eq0 c42)) hf
    refine V_iload_n d_X11_call_56 rfl rfl ?_
    refine V_less (ls' := [none, none, none, none, none]) trivial ?_
    exact s_X11_call_j57 hG hf hK
  · replace hf := iteT (b2i_ne0 c42) hf
    refine V_aload_n d_X11_call_45 rfl rfl ?_
    refine B_get k_0 fl_RX11_19 d_X11_call_46 g_11_1 ?_
    refine V_iload_n d_X11_call_49 rfl rfl ?_
    obtain ⟨t1, ht1, hf⟩ := ob hf
    refine B_callV1 (s_X2_amountOf hG L_3 ht1) k_3 clX2 m_X2_amountOf kv_RX11_352 d_X11_call_50 rfl (Nat.le_of_ble_eq_true rfl) ⟨rfl, rfl, Nat.le_of_ble_eq_true rfl, Nat.le_of_ble_eq_true rfl, Nat.le_of_ble_eq_true rfl⟩ (fun n => ?_)
    refine V_goto (tgt := 57) d_X11_call_53 (by decide) ?_
    refine V_less (ls' := [none, none, none, none, none]) trivial ?_
    exact s_X11_call_j57 hG hf hK
theorem s_X11_call_l10 {G : Gl} (hG : G.1.stackTraces = false) {C : Cx} {n : Nat} {μ : Mem} {l1 : Int32} {l2 : Bool} {l3 : Int32} {l4 : Int32} {r : ((Nat × Mem) ⊕ (Int32 × Mem))} (hf : f_X11_call_l10 μ l1 l2 l3 l4 = some r) (hK : FinX G C F_X11_call (some .int) (Sum.map id (fun q => (some (.int q.1), q.2)) r)) : V G C F_X11_call 10 [some (.ref (G.2.1 + 0)), some (.int l1), some (.int (b2i l2)), some (.int l3), some (.int l4)] [] (pic G μ) n 1 6 := by
  unfold f_X11_call_l10 at hf
  obtain ⟨t, hl, hf⟩ := ob hf
  refine loopV (P := fun z => ∀ n, V G C F_X11_call 10 [some (.ref (G.2.1 + 0)), some (.int l1), some (.int (b2i l2)), some (.int z.1), some (.int z.2)] [] (pic G μ) n 1 6) (t := t) ?_ _ _ hl n
  intro z y' hy hI hT n
  refine s_X11_call_b10 hG hy ⟨hI, fun x9 ex => ?_⟩
  have ex2 := hT x9 ex
  subst ex2
  intro n
  exact s_X11_call_j41 hG hf hK
theorem s_X11_call_e {G : Gl} (hG : G.1.stackTraces = false) {C : Cx} {n : Nat} {μ : Mem} {p1 : Int32} {p2 : Bool} {r : ((Nat × Mem) ⊕ (Int32 × Mem))} (hf : f_X11_call μ p1 p2 = some r) (hK : FinX G C F_X11_call (some .int) (Sum.map id (fun q => (some (.int q.1), q.2)) r)) : V G C F_X11_call 0 [some (.ref (G.2.1 + 0)), some (.int p1), some (.int (b2i p2)), none, none] [] (pic G μ) n 0 0 := by
  unfold f_X11_call at hf
  refine V_aload_n d_X11_call_0 rfl rfl ?_
  refine V_iload_n d_X11_call_1 rfl rfl ?_
  obtain ⟨q1, hq1, hf⟩ := ob hf
  cases q1 with
  | inl e9 =>
    obtain ⟨k9, μ9⟩ := e9
    refine B_callVXt (kc' := 1) (ks' := 6) (s_X11_needPerson hG hq1) k_0 clX11 m_X11_needPerson kv_RX11_149 d_X11_call_2 rfl (Nat.le_of_ble_eq_true rfl) ⟨rfl, rfl, Nat.le_of_ble_eq_true rfl, Nat.le_of_ble_eq_true rfl, Nat.le_of_ble_eq_true rfl⟩ (fun n => ?_)
    cases hf
    exact X_out hK rfl (Nat.le_of_ble_eq_true rfl) (Nat.le_of_ble_eq_true rfl)
  | inr v2 =>
    replace hf := elimR hf
    refine B_callVX0 (kc' := 1) (ks' := 6) (s_X11_needPerson hG hq1) k_0 clX11 m_X11_needPerson kv_RX11_149 d_X11_call_2 rfl (Nat.le_of_ble_eq_true rfl) ⟨rfl, rfl, Nat.le_of_ble_eq_true rfl, Nat.le_of_ble_eq_true rfl, Nat.le_of_ble_eq_true rfl⟩ (fun n => ?_)
    refine V_iconst (v := 0) d_X11_call_5 ic_0 ?_
    refine V_istore_n (ls' := [_, _, _, _, _]) d_X11_call_6 rfl rfl rfl ?_
    refine V_iconst (v := 0) d_X11_call_7 ic_0 ?_
    refine V_istore (ls' := [_, _, _, _, _]) d_X11_call_8 rfl rfl ?_
    refine V_less (ls' := [some _, some _, some _, some _, some _]) ⟨rfl, rfl, rfl, rfl, rfl, trivial⟩ ?_
    exact s_X11_call_l10 hG hf hK
theorem s_X11_call {G : Gl} (hG : G.1.stackTraces = false) {μ : Mem} {p1 : Int32} {p2 : Bool} {r : ((Nat × Mem) ⊕ (Int32 × Mem))} (hf : f_X11_call μ p1 p2 = some r) : Rx G yX11_call F_X11_call (.code yX11_call F_X11_call.2.1 F_X11_call.2.2.1 (some .int)) [.ref (G.2.1 + 0), .int p1, .int (b2i p2)] μ (Sum.map id (fun q => (some (.int q.1), q.2)) r) := fun n => Sd.of hG ⟨by decide +kernel, rfl, rfl⟩ rfl (Nat.le_of_ble_eq_true rfl) rfl (fun C hK => s_X11_call_e hG hf hK)
theorem d_X11_breaks_0 : decode cX11_breaks 0 = .ok (.aload_n 0, 1) := by decide +kernel
theorem d_X11_breaks_1 : decode cX11_breaks 1 = .ok (.iload_n 1, 1) := by decide +kernel
theorem d_X11_breaks_2 : decode cX11_breaks 2 = .ok (.invokevirtual 323, 3) := by decide +kernel
theorem d_X11_breaks_5 : decode cX11_breaks 5 = .ok (.aload_n 0, 1) := by decide +kernel
theorem d_X11_breaks_6 : decode cX11_breaks 6 = .ok (.getfield 23, 3) := by decide +kernel
theorem d_X11_breaks_9 : decode cX11_breaks 9 = .ok (.aload_n 0, 1) := by decide +kernel
theorem d_X11_breaks_10 : decode cX11_breaks 10 = .ok (.getfield 19, 3) := by decide +kernel
theorem d_X11_breaks_13 : decode cX11_breaks 13 = .ok (.invokevirtual 102, 3) := by decide +kernel
theorem d_X11_breaks_16 : decode cX11_breaks 16 = .ok (.aload_n 0, 1) := by decide +kernel
theorem d_X11_breaks_17 : decode cX11_breaks 17 = .ok (.getfield 23, 3) := by decide +kernel
theorem d_X11_breaks_20 : decode cX11_breaks 20 = .ok (.iload_n 1, 1) := by decide +kernel
theorem d_X11_breaks_21 : decode cX11_breaks 21 = .ok (.aload_n 0, 1) := by decide +kernel
theorem d_X11_breaks_22 : decode cX11_breaks 22 = .ok (.getfield 32, 3) := by decide +kernel
theorem d_X11_breaks_25 : decode cX11_breaks 25 = .ok (.iconst 0, 1) := by decide +kernel
theorem d_X11_breaks_26 : decode cX11_breaks 26 = .ok (.invokevirtual 287, 3) := by decide +kernel
theorem d_X11_breaks_29 : decode cX11_breaks 29 = .ok (.pop, 1) := by decide +kernel
theorem d_X11_breaks_30 : decode cX11_breaks 30 = .ok (.aload_n 0, 1) := by decide +kernel
theorem d_X11_breaks_31 : decode cX11_breaks 31 = .ok (.getfield 23, 3) := by decide +kernel
theorem d_X11_breaks_34 : decode cX11_breaks 34 = .ok (.iconst 2, 1) := by decide +kernel
theorem d_X11_breaks_35 : decode cX11_breaks 35 = .ok (.invokevirtual 355, 3) := by decide +kernel
theorem d_X11_breaks_38 : decode cX11_breaks 38 = .ok (.aload_n 0, 1) := by decide +kernel
theorem d_X11_breaks_39 : decode cX11_breaks 39 = .ok (.getfield 19, 3) := by decide +kernel
theorem d_X11_breaks_42 : decode cX11_breaks 42 = .ok (.iconst 2, 1) := by decide +kernel
theorem d_X11_breaks_43 : decode cX11_breaks 43 = .ok (.invokevirtual 355, 3) := by decide +kernel
theorem d_X11_breaks_46 : decode cX11_breaks 46 = .ok (.iconst (-1), 1) := by decide +kernel
theorem d_X11_breaks_47 : decode cX11_breaks 47 = .ok (.ixor, 1) := by decide +kernel
theorem d_X11_breaks_48 : decode cX11_breaks 48 = .ok (.iand, 1) := by decide +kernel
theorem d_X11_breaks_49 : decode cX11_breaks 49 = .ok (.ireturn, 1) := by decide +kernel
theorem s_X11_breaks_e {G : Gl} (hG : G.1.stackTraces = false) {C : Cx} {n : Nat} {μ : Mem} {p1 : Int32} {r : ((Nat × Mem) ⊕ (Int32 × Mem))} (hf : f_X11_breaks μ p1 = some r) (hK : FinX G C F_X11_breaks (some .int) (Sum.map id (fun q => (some (.int q.1), q.2)) r)) : V G C F_X11_breaks 0 [some (.ref (G.2.1 + 0)), some (.int p1)] [] (pic G μ) n 0 0 := by
  unfold f_X11_breaks at hf
  refine V_aload_n d_X11_breaks_0 rfl rfl ?_
  refine V_iload_n d_X11_breaks_1 rfl rfl ?_
  obtain ⟨q1, hq1, hf⟩ := ob hf
  cases q1 with
  | inl e9 =>
    obtain ⟨k9, μ9⟩ := e9
    refine B_callVXt (kc' := 1) (ks' := 6) (s_X11_needAhead hG hq1) k_0 clX11 m_X11_needAhead kv_RX11_323 d_X11_breaks_2 rfl (Nat.le_of_ble_eq_true rfl) ⟨rfl, rfl, Nat.le_of_ble_eq_true rfl, Nat.le_of_ble_eq_true rfl, Nat.le_of_ble_eq_true rfl⟩ (fun n => ?_)
    cases hf
    exact X_out hK rfl (Nat.le_of_ble_eq_true rfl) (Nat.le_of_ble_eq_true rfl)
  | inr v2 =>
    replace hf := elimR hf
    refine B_callVX0 (kc' := 1) (ks' := 6) (s_X11_needAhead hG hq1) k_0 clX11 m_X11_needAhead kv_RX11_323 d_X11_breaks_2 rfl (Nat.le_of_ble_eq_true rfl) ⟨rfl, rfl, Nat.le_of_ble_eq_true rfl, Nat.le_of_ble_eq_true rfl, Nat.le_of_ble_eq_true rfl⟩ (fun n => ?_)
    refine V_aload_n d_X11_breaks_5 rfl rfl ?_
    refine B_get k_0 fl_RX11_23 d_X11_breaks_6 g_11_2 ?_
    refine V_aload_n d_X11_breaks_9 rfl rfl ?_
    refine B_get k_0 fl_RX11_19 d_X11_breaks_10 g_11_1 ?_
    obtain ⟨q3, hq3, hf⟩ := ob hf
    refine B_callV0 (s_X2_copyFrom hG L_18 L_3 hq3) k_18 clX2 m_X2_copyFrom kv_RX11_102 d_X11_breaks_13 rfl (Nat.le_of_ble_eq_true rfl) ⟨rfl, rfl, Nat.le_of_ble_eq_true rfl, Nat.le_of_ble_eq_true rfl, Nat.le_of_ble_eq_true rfl⟩ (fun n => ?_)
    refine V_aload_n d_X11_breaks_16 rfl rfl ?_
    refine B_get k_0 fl_RX11_23 d_X11_breaks_17 g_11_2 ?_
    refine V_iload_n d_X11_breaks_20 rfl rfl ?_
    refine V_aload_n d_X11_breaks_21 rfl rfl ?_
    refine B_get k_0 fl_RX11_32 d_X11_breaks_22 g_11_4 ?_
    refine V_iconst (v := 0) d_X11_breaks_25 ic_0 ?_
    obtain ⟨q4, hq4, hf⟩ := ob hf
    refine B_callV1 (s_X2_liveOn hG L_18 W_48 hq4) k_18 clX2 m_X2_liveOn kv_RX11_287 d_X11_breaks_26 rfl (Nat.le_of_ble_eq_true rfl) ⟨rfl, rfl, Nat.le_of_ble_eq_true rfl, Nat.le_of_ble_eq_true rfl, Nat.le_of_ble_eq_true rfl⟩ (fun n => ?_)
    refine V_pop d_X11_breaks_29 rfl ?_
    refine V_aload_n d_X11_breaks_30 rfl rfl ?_
    refine B_get k_0 fl_RX11_23 d_X11_breaks_31 g_11_2 ?_
    refine V_iconst (v := 2) d_X11_breaks_34 ic_2 ?_
    obtain ⟨t5, ht5, hf⟩ := ob hf
    refine B_callV1 (s_X2_lacesThatAre hG L_18 ht5) k_18 clX2 m_X2_lacesThatAre kv_RX11_355 d_X11_breaks_35 rfl (Nat.le_of_ble_eq_true rfl) ⟨rfl, rfl, Nat.le_of_ble_eq_true rfl, Nat.le_of_ble_eq_true rfl, Nat.le_of_ble_eq_true rfl⟩ (fun n => ?_)
    refine V_aload_n d_X11_breaks_38 rfl rfl ?_
    refine B_get k_0 fl_RX11_19 d_X11_breaks_39 g_11_1 ?_
    refine V_iconst (v := 2) d_X11_breaks_42 ic_2 ?_
    obtain ⟨t6, ht6, hf⟩ := ob hf
    refine B_callV1 (s_X2_lacesThatAre hG L_3 ht6) k_3 clX2 m_X2_lacesThatAre kv_RX11_355 d_X11_breaks_43 rfl (Nat.le_of_ble_eq_true rfl) ⟨rfl, rfl, Nat.le_of_ble_eq_true rfl, Nat.le_of_ble_eq_true rfl, Nat.le_of_ble_eq_true rfl⟩ (fun n => ?_)
    refine V_iconst (v := (-1)) d_X11_breaks_46 ic_m1 ?_
    refine V_ixor d_X11_breaks_47 ?_
    refine V_iand d_X11_breaks_48 ?_
    cases hf
    exact R_iX hK d_X11_breaks_49 (Nat.le_of_ble_eq_true rfl) (Nat.le_of_ble_eq_true rfl)
theorem s_X11_breaks {G : Gl} (hG : G.1.stackTraces = false) {μ : Mem} {p1 : Int32} {r : ((Nat × Mem) ⊕ (Int32 × Mem))} (hf : f_X11_breaks μ p1 = some r) : Rx G yX11_breaks F_X11_breaks (.code yX11_breaks F_X11_breaks.2.1 F_X11_breaks.2.2.1 (some .int)) [.ref (G.2.1 + 0), .int p1] μ (Sum.map id (fun q => (some (.int q.1), q.2)) r) := fun n => Sd.of hG ⟨by decide +kernel, rfl, rfl⟩ rfl (Nat.le_of_ble_eq_true rfl) rfl (fun C hK => s_X11_breaks_e hG hf hK)
theorem d_X11_isSpared_0 : decode cX11_isSpared 0 = .ok (.aload_n 0, 1) := by decide +kernel
theorem d_X11_isSpared_1 : decode cX11_isSpared 1 = .ok (.getfield 23, 3) := by decide +kernel
theorem d_X11_isSpared_4 : decode cX11_isSpared 4 = .ok (.aload_n 0, 1) := by decide +kernel
theorem d_X11_isSpared_5 : decode cX11_isSpared 5 = .ok (.getfield 19, 3) := by decide +kernel
theorem d_X11_isSpared_8 : decode cX11_isSpared 8 = .ok (.invokevirtual 102, 3) := by decide +kernel
theorem d_X11_isSpared_11 : decode cX11_isSpared 11 = .ok (.aload_n 0, 1) := by decide +kernel
theorem d_X11_isSpared_12 : decode cX11_isSpared 12 = .ok (.getfield 23, 3) := by decide +kernel
theorem d_X11_isSpared_15 : decode cX11_isSpared 15 = .ok (.getfield 204, 3) := by decide +kernel
theorem d_X11_isSpared_18 : decode cX11_isSpared 18 = .ok (.iload_n 1, 1) := by decide +kernel
theorem d_X11_isSpared_19 : decode cX11_isSpared 19 = .ok (.sipush 9999, 3) := by decide +kernel
theorem d_X11_isSpared_22 : decode cX11_isSpared 22 = .ok (.aload_n 0, 1) := by decide +kernel
theorem d_X11_isSpared_23 : decode cX11_isSpared 23 = .ok (.getfield 19, 3) := by decide +kernel
theorem d_X11_isSpared_26 : decode cX11_isSpared 26 = .ok (.getfield 204, 3) := by decide +kernel
theorem d_X11_isSpared_29 : decode cX11_isSpared 29 = .ok (.iload_n 1, 1) := by decide +kernel
theorem d_X11_isSpared_30 : decode cX11_isSpared 30 = .ok (.iaload, 1) := by decide +kernel
theorem d_X11_isSpared_31 : decode cX11_isSpared 31 = .ok (.iload_n 2, 1) := by decide +kernel
theorem d_X11_isSpared_32 : decode cX11_isSpared 32 = .ok (.iadd, 1) := by decide +kernel
theorem d_X11_isSpared_33 : decode cX11_isSpared 33 = .ok (.invokestatic 387, 3) := by decide +kernel
theorem d_X11_isSpared_36 : decode cX11_isSpared 36 = .ok (.iastore, 1) := by decide +kernel
theorem d_X11_isSpared_37 : decode cX11_isSpared 37 = .ok (.iconst 0, 1) := by decide +kernel
theorem d_X11_isSpared_38 : decode cX11_isSpared 38 = .ok (.istore_n 3, 1) := by decide +kernel
theorem d_X11_isSpared_39 : decode cX11_isSpared 39 = .ok (.iload_n 3, 1) := by decide +kernel
theorem d_X11_isSpared_40 : decode cX11_isSpared 40 = .ok (.bipush 60, 2) := by decide +kernel
theorem d_X11_isSpared_42 : decode cX11_isSpared 42 = .ok (.if_icmp .ge 34, 3) := by decide +kernel
theorem d_X11_isSpared_45 : decode cX11_isSpared 45 = .ok (.aload_n 0, 1) := by decide +kernel
theorem d_X11_isSpared_46 : decode cX11_isSpared 46 = .ok (.getfield 23, 3) := by decide +kernel
theorem d_X11_isSpared_49 : decode cX11_isSpared 49 = .ok (.iload_n 1, 1) := by decide +kernel
theorem d_X11_isSpared_50 : decode cX11_isSpared 50 = .ok (.invokevirtual 227, 3) := by decide +kernel
theorem d_X11_isSpared_53 : decode cX11_isSpared 53 = .ok (.ifCond .eq 23, 3) := by decide +kernel
theorem d_X11_isSpared_56 : decode cX11_isSpared 56 = .ok (.aload_n 0, 1) := by decide +kernel
theorem d_X11_isSpared_57 : decode cX11_isSpared 57 = .ok (.getfield 23, 3) := by decide +kernel
theorem d_X11_isSpared_60 : decode cX11_isSpared 60 = .ok (.iconst 1, 1) := by decide +kernel
theorem d_X11_isSpared_61 : decode cX11_isSpared 61 = .ok (.aload_n 0, 1) := by decide +kernel
theorem d_X11_isSpared_62 : decode cX11_isSpared 62 = .ok (.getfield 32, 3) := by decide +kernel
theorem d_X11_isSpared_65 : decode cX11_isSpared 65 = .ok (.iconst 0, 1) := by decide +kernel
theorem d_X11_isSpared_66 : decode cX11_isSpared 66 = .ok (.invokevirtual 287, 3) := by decide +kernel
theorem d_X11_isSpared_69 : decode cX11_isSpared 69 = .ok (.pop, 1) := by decide +kernel
theorem d_X11_isSpared_70 : decode cX11_isSpared 70 = .ok (.iinc 3 1, 3) := by decide +kernel
theorem d_X11_isSpared_73 : decode cX11_isSpared 73 = .ok (.goto (-34), 3) := by decide +kernel
theorem d_X11_isSpared_76 : decode cX11_isSpared 76 = .ok (.aload_n 0, 1) := by decide +kernel
theorem d_X11_isSpared_77 : decode cX11_isSpared 77 = .ok (.getfield 23, 3) := by decide +kernel
theorem d_X11_isSpared_80 : decode cX11_isSpared 80 = .ok (.getfield 192, 3) := by decide +kernel
theorem d_X11_isSpared_83 : decode cX11_isSpared 83 = .ok (.iload_n 1, 1) := by decide +kernel
theorem d_X11_isSpared_84 : decode cX11_isSpared 84 = .ok (.iaload, 1) := by decide +kernel
theorem d_X11_isSpared_85 : decode cX11_isSpared 85 = .ok (.iconst 2, 1) := by decide +kernel
theorem d_X11_isSpared_86 : decode cX11_isSpared 86 = .ok (.if_icmp .eq 7, 3) := by decide +kernel
theorem d_X11_isSpared_89 : decode cX11_isSpared 89 = .ok (.iconst 1, 1) := by decide +kernel
theorem d_X11_isSpared_90 : decode cX11_isSpared 90 = .ok (.goto 4, 3) := by decide +kernel
theorem d_X11_isSpared_93 : decode cX11_isSpared 93 = .ok (.iconst 0, 1) := by decide +kernel
theorem d_X11_isSpared_94 : decode cX11_isSpared 94 = .ok (.ireturn, 1) := by decide +kernel
theorem s_X11_isSpared_b39 {G : Gl} (hG : G.1.stackTraces = false) {C : Cx} {n : Nat} {μ : Mem} {l1 : Int32} {l3 : Int32} {y : ((Int32 × Mem) ⊕ Mem)} (hf : f_X11_isSpared_b39 μ l1 l3 = some y) (hK : (∀ z', y = .inl z' → ∀ n, V G C F_X11_isSpared 39 [some (.ref (G.2.1 + 0)), some (.int l1), none, some (.int z'.1)] [] (pic G z'.2) n 0 0) ∧ (∀ x', y = .inr x' → ∀ n, V G C F_X11_isSpared 76 [some (.ref (G.2.1 + 0)), some (.int l1), none, none] [] (pic G x') n 0 0)) : V G C F_X11_isSpared 39 [some (.ref (G.2.1 + 0)), some (.int l1), none, some (.int l3)] [] (pic G μ) n 0 0 := by
  unfold f_X11_isSpared_b39 at hf
  refine V_iload_n d_X11_isSpared_39 rfl rfl ?_
  refine V_bipush (v := 60) d_X11_isSpared_40 bp_60 ?_
  refine V_icmp_ge (tgt := 76) d_X11_isSpared_42 (by decide) (fun c42 => ?_) (fun c42 => ?_)
  · replace hf := iteT c42 hf
    refine V_less (ls' := [some _, some _, none, none]) ⟨rfl, rfl, trivial⟩ ?_
    cases hf
    exact hK.2 _ rfl _
  · replace hf := iteF c42 hf
    refine V_aload_n d_X11_isSpared_45 rfl rfl ?_
    refine B_get k_0 fl_RX11_23 d_X11_isSpared_46 g_11_2 ?_
    refine V_iload_n d_X11_isSpared_49 rfl rfl ?_
    obtain ⟨t1, ht1, hf⟩ := ob hf
    refine B_callV1 (s_X2_isPledged hG L_18 ht1) k_18 clX2 m_X2_isPledged kv_RX11_227 d_X11_isSpared_50 rfl (Nat.le_of_ble_eq_true rfl) ⟨rfl, rfl, Nat.le_of_ble_eq_true rfl, Nat.le_of_ble_eq_true rfl, Nat.le_of_ble_eq_true rfl⟩ (fun n => ?_)
    refine V_if_eq (tgt := 76) d_X11_isSpared_53 (by decide) (fun c53 => ?_) (fun c53 => ?_)
    · replace hf := iteF (b2i_nt (b2i_eq0 c53)) hf
      refine V_less (ls' := [some _, some _, none, none]) ⟨rfl, rfl, trivial⟩ ?_
      cases hf
      exact hK.2 _ rfl _
    · replace hf := iteT (b2i_ne0 c53) hf
      refine V_aload_n d_X11_isSpared_56 rfl rfl ?_
      refine B_get k_0 fl_RX11_23 d_X11_isSpared_57 g_11_2 ?_
      refine V_iconst (v := 1) d_X11_isSpared_60 ic_1 ?_
      refine V_aload_n d_X11_isSpared_61 rfl rfl ?_
      refine B_get k_0 fl_RX11_32 d_X11_isSpared_62 g_11_4 ?_
      refine V_iconst (v := 0) d_X11_isSpared_65 ic_0 ?_
      obtain ⟨q2, hq2, hf⟩ := ob hf
      refine B_callV1 (s_X2_liveOn hG L_18 W_48 hq2) k_18 clX2 m_X2_liveOn kv_RX11_287 d_X11_isSpared_66 rfl (Nat.le_of_ble_eq_true rfl) ⟨rfl, rfl, Nat.le_of_ble_eq_true rfl, Nat.le_of_ble_eq_true rfl, Nat.le_of_ble_eq_true rfl⟩ (fun n => ?_)
      refine V_pop d_X11_isSpared_69 rfl ?_
      refine V_iinc (v := (l3 + 1)) (ls' := [_, _, _, _]) d_X11_isSpared_70 rfl (by rw [ic_1]) rfl ?_
      refine V_goto (tgt := 39) d_X11_isSpared_73 (by decide) ?_
      refine V_less (ls' := [some _, some _, none, some _]) ⟨rfl, rfl, rfl, trivial⟩ ?_
      cases hf
      exact hK.1 _ rfl _
theorem s_X11_isSpared_j76 {G : Gl} (hG : G.1.stackTraces = false) {C : Cx} {n : Nat} {μ : Mem} {l1 : Int32} {r : (Bool × Mem)} (hf : f_X11_isSpared_j76 μ l1 = some r) (hK : FinR G C F_X11_isSpared (some .boolean) (some (.int (b2i r.1))) r.2) : V G C F_X11_isSpared 76 [some (.ref (G.2.1 + 0)), some (.int l1), none, none] [] (pic G μ) n 0 0 := by
  unfold f_X11_isSpared_j76 at hf
  refine V_aload_n d_X11_isSpared_76 rfl rfl ?_
  refine B_get k_0 fl_RX11_23 d_X11_isSpared_77 g_11_2 ?_
  refine B_get k_18 fl_RX11_192 d_X11_isSpared_80 g_2_11 ?_
  refine V_iload_n d_X11_isSpared_83 rfl rfl ?_
  obtain ⟨t1, ht1, hf⟩ := ob hf
  refine B_iald k_24 ht1 d_X11_isSpared_84 ?_
  refine V_iconst (v := 2) d_X11_isSpared_85 ic_2 ?_
  have hJj2 : ∀ j2 : Bool, j2 = (if t1 = 2 then (false : Bool) else true) → V G C F_X11_isSpared 94 [none, none, none, none] [.int (b2i j2)] (pic G μ) n 0 0 := by
    intro j2 ej2
    subst ej2
    cases hf
    exact R_z hK d_X11_isSpared_94 (Nat.le_of_ble_eq_true rfl) (Nat.le_of_ble_eq_true rfl)
  refine V_icmp_eq (tgt := 93) d_X11_isSpared_86 (by decide) (fun c86 => ?_) (fun c86 => ?_)
  · refine V_iconst (v := 0) d_X11_isSpared_93 ic_0 ?_
    refine V_less (ls' := [none, none, none, none]) trivial ?_
    exact hJj2 false (by rw [if_pos c86])
  · refine V_iconst (v := 1) d_X11_isSpared_89 ic_1 ?_
    refine V_goto (tgt := 94) d_X11_isSpared_90 (by decide) ?_
    refine V_less (ls' := [none, none, none, none]) trivial ?_
    exact hJj2 true (by rw [if_neg c86])
theorem s_X11_isSpared_l39 {G : Gl} (hG : G.1.stackTraces = false) {C : Cx} {n : Nat} {μ : Mem} {l1 : Int32} {l3 : Int32} {r : (Bool × Mem)} (hf : f_X11_isSpared_l39 μ l1 l3 = some r) (hK : FinR G C F_X11_isSpared (some .boolean) (some (.int (b2i r.1))) r.2) : V G C F_X11_isSpared 39 [some (.ref (G.2.1 + 0)), some (.int l1), none, some (.int l3)] [] (pic G μ) n 0 0 := by
  unfold f_X11_isSpared_l39 at hf
  obtain ⟨t, hl, hf⟩ := ob hf
  refine loopV (P := fun z => ∀ n, V G C F_X11_isSpared 39 [some (.ref (G.2.1 + 0)), some (.int l1), none, some (.int z.1)] [] (pic G z.2) n 0 0) (t := t) ?_ _ _ hl n
  intro z y' hy hI hT n
  refine s_X11_isSpared_b39 hG hy ⟨hI, fun x9 ex => ?_⟩
  have ex2 := hT x9 ex
  subst ex2
  intro n
  exact s_X11_isSpared_j76 hG hf hK
theorem s_X11_isSpared_e {G : Gl} (hG : G.1.stackTraces = false) {C : Cx} {n : Nat} {μ : Mem} {p1 : Int32} {p2 : Int32} {r : (Bool × Mem)} (hf : f_X11_isSpared μ p1 p2 = some r) (hK : FinR G C F_X11_isSpared (some .boolean) (some (.int (b2i r.1))) r.2) : V G C F_X11_isSpared 0 [some (.ref (G.2.1 + 0)), some (.int p1), some (.int p2), none] [] (pic G μ) n 0 0 := by
  unfold f_X11_isSpared at hf
  refine V_aload_n d_X11_isSpared_0 rfl rfl ?_
  refine B_get k_0 fl_RX11_23 d_X11_isSpared_1 g_11_2 ?_
  refine V_aload_n d_X11_isSpared_4 rfl rfl ?_
  refine B_get k_0 fl_RX11_19 d_X11_isSpared_5 g_11_1 ?_
  obtain ⟨q1, hq1, hf⟩ := ob hf
  refine B_callV0 (s_X2_copyFrom hG L_18 L_3 hq1) k_18 clX2 m_X2_copyFrom kv_RX11_102 d_X11_isSpared_8 rfl (Nat.le_of_ble_eq_true rfl) ⟨rfl, rfl, Nat.le_of_ble_eq_true rfl, Nat.le_of_ble_eq_true rfl, Nat.le_of_ble_eq_true rfl⟩ (fun n => ?_)
  refine V_aload_n d_X11_isSpared_11 rfl rfl ?_
  refine B_get k_0 fl_RX11_23 d_X11_isSpared_12 g_11_2 ?_
  refine B_get k_18 fl_RX11_204 d_X11_isSpared_15 g_2_15 ?_
  refine V_iload_n d_X11_isSpared_18 rfl rfl ?_
  refine V_sipush (v := 9999) d_X11_isSpared_19 sp_9999 ?_
  refine V_aload_n d_X11_isSpared_22 rfl rfl ?_
  refine B_get k_0 fl_RX11_19 d_X11_isSpared_23 g_11_1 ?_
  refine B_get k_3 fl_RX11_204 d_X11_isSpared_26 g_2_15 ?_
  refine V_iload_n d_X11_isSpared_29 rfl rfl ?_
  obtain ⟨t2, ht2, hf⟩ := ob hf
  refine B_iald k_13 ht2 d_X11_isSpared_30 ?_
  refine V_iload_n d_X11_isSpared_31 rfl rfl ?_
  refine V_iadd d_X11_isSpared_32 ?_
  obtain ⟨t3, ht3, hf⟩ := ob hf
  refine B_callS1 (s_J9_min_7cf53 hG ht3) m_J9_min_7cf53 ks_RX11_387 d_X11_isSpared_33 rfl (Nat.le_of_ble_eq_true rfl) ⟨rfl, rfl, Nat.le_of_ble_eq_true rfl, Nat.le_of_ble_eq_true rfl, Nat.le_of_ble_eq_true rfl⟩ (fun n => ?_)
  obtain ⟨μ4, hμ4, hf⟩ := ob hf
  refine B_iast k_28 hμ4 d_X11_isSpared_36 ?_
  refine V_iconst (v := 0) d_X11_isSpared_37 ic_0 ?_
  refine V_istore_n (ls' := [_, _, _, _]) d_X11_isSpared_38 rfl rfl rfl ?_
  refine V_less (ls' := [some _, some _, none, some _]) ⟨rfl, rfl, rfl, trivial⟩ ?_
  exact s_X11_isSpared_l39 hG hf hK
theorem s_X11_isSpared {G : Gl} (hG : G.1.stackTraces = false) {μ : Mem} {p1 : Int32} {p2 : Int32} {r : (Bool × Mem)} (hf : f_X11_isSpared μ p1 p2 = some r) : Rt G yX11_isSpared F_X11_isSpared (some .boolean) [.ref (G.2.1 + 0), .int p1, .int p2] μ (some (.int (b2i r.1))) r.2 := fun n => Sd.of hG ⟨by decide +kernel, rfl, rfl⟩ rfl (Nat.le_of_ble_eq_true rfl) rfl (fun C hK => s_X11_isSpared_e hG hf hK)
theorem d_X11_mercy_0 : decode cX11_mercy 0 = .ok (.aload_n 0, 1) := by decide +kernel
theorem d_X11_mercy_1 : decode cX11_mercy 1 = .ok (.iload_n 1, 1) := by decide +kernel
theorem d_X11_mercy_2 : decode cX11_mercy 2 = .ok (.invokevirtual 189, 3) := by decide +kernel
theorem d_X11_mercy_5 : decode cX11_mercy 5 = .ok (.aload_n 0, 1) := by decide +kernel
theorem d_X11_mercy_6 : decode cX11_mercy 6 = .ok (.getfield 19, 3) := by decide +kernel
theorem d_X11_mercy_9 : decode cX11_mercy 9 = .ok (.iload_n 1, 1) := by decide +kernel
theorem d_X11_mercy_10 : decode cX11_mercy 10 = .ok (.invokevirtual 227, 3) := by decide +kernel
theorem d_X11_mercy_13 : decode cX11_mercy 13 = .ok (.ifCond .ne 5, 3) := by decide +kernel
theorem d_X11_mercy_16 : decode cX11_mercy 16 = .ok (.iconst (-1), 1) := by decide +kernel
theorem d_X11_mercy_17 : decode cX11_mercy 17 = .ok (.ireturn, 1) := by decide +kernel
theorem d_X11_mercy_18 : decode cX11_mercy 18 = .ok (.iconst 0, 1) := by decide +kernel
theorem d_X11_mercy_19 : decode cX11_mercy 19 = .ok (.istore_n 2, 1) := by decide +kernel
theorem d_X11_mercy_20 : decode cX11_mercy 20 = .ok (.iload_n 2, 1) := by decide +kernel
theorem d_X11_mercy_21 : decode cX11_mercy 21 = .ok (.bipush 30, 2) := by decide +kernel
theorem d_X11_mercy_23 : decode cX11_mercy 23 = .ok (.if_icmp .gt 20, 3) := by decide +kernel
theorem d_X11_mercy_26 : decode cX11_mercy 26 = .ok (.aload_n 0, 1) := by decide +kernel
theorem d_X11_mercy_27 : decode cX11_mercy 27 = .ok (.iload_n 1, 1) := by decide +kernel
theorem d_X11_mercy_28 : decode cX11_mercy 28 = .ok (.iload_n 2, 1) := by decide +kernel
theorem d_X11_mercy_29 : decode cX11_mercy 29 = .ok (.invokevirtual 358, 3) := by decide +kernel
theorem d_X11_mercy_32 : decode cX11_mercy 32 = .ok (.ifCond .eq 5, 3) := by decide +kernel
theorem d_X11_mercy_35 : decode cX11_mercy 35 = .ok (.iload_n 2, 1) := by decide +kernel
theorem d_X11_mercy_36 : decode cX11_mercy 36 = .ok (.ireturn, 1) := by decide +kernel
theorem d_X11_mercy_37 : decode cX11_mercy 37 = .ok (.iinc 2 1, 3) := by decide +kernel
theorem d_X11_mercy_40 : decode cX11_mercy 40 = .ok (.goto (-20), 3) := by decide +kernel
theorem d_X11_mercy_43 : decode cX11_mercy 43 = .ok (.iconst (-1), 1) := by decide +kernel
theorem d_X11_mercy_44 : decode cX11_mercy 44 = .ok (.ireturn, 1) := by decide +kernel
theorem s_X11_mercy_b20 {G : Gl} (hG : G.1.stackTraces = false) {C : Cx} {n : Nat} {μ : Mem} {l1 : Int32} {l2 : Int32} {y : ((Int32 × Mem) ⊕ (Mem ⊕ ((Nat × Mem) ⊕ (Int32 × Mem))))} (hf : f_X11_mercy_b20 μ l1 l2 = some y) (hK : (∀ z', y = .inl z' → ∀ n, V G C F_X11_mercy 20 [some (.ref (G.2.1 + 0)), some (.int l1), some (.int z'.1)] [] (pic G z'.2) n 1 6) ∧ (∀ x', y = .inr x' → ((∀ x'', x' = .inl x'' → ∀ n, V G C F_X11_mercy 43 [none, none, none] [] (pic G x'') n 1 6) ∧ (∀ x''', x' = .inr x''' → FinX G C F_X11_mercy (some .int) (Sum.map id (fun q => (some (.int q.1), q.2)) x'''))))) : V G C F_X11_mercy 20 [some (.ref (G.2.1 + 0)), some (.int l1), some (.int l2)] [] (pic G μ) n 1 6 := by
  unfold f_X11_mercy_b20 at hf
  refine V_iload_n d_X11_mercy_20 rfl rfl ?_
  refine V_bipush (v := 30) d_X11_mercy_21 bp_30 ?_
  refine V_icmp_gt (tgt := 43) d_X11_mercy_23 (by decide) (fun c23 => ?_) (fun c23 => ?_)
  · replace hf := iteT c23 hf
    refine V_less (ls' := [none, none, none]) trivial ?_
    cases hf
    exact (hK.2 _ rfl).1 _ rfl _
  · replace hf := iteF c23 hf
    refine V_aload_n d_X11_mercy_26 rfl rfl ?_
    refine V_iload_n d_X11_mercy_27 rfl rfl ?_
    refine V_iload_n d_X11_mercy_28 rfl rfl ?_
    obtain ⟨q1, hq1, hf⟩ := ob hf
    refine B_callV1 (s_X11_isSpared hG hq1) k_0 clX11 m_X11_isSpared kv_RX11_358 d_X11_mercy_29 rfl (Nat.le_of_ble_eq_true rfl) ⟨rfl, rfl, Nat.le_of_ble_eq_true rfl, Nat.le_of_ble_eq_true rfl, Nat.le_of_ble_eq_true rfl⟩ (fun n => ?_)
    refine V_if_eq (tgt := 37) d_X11_mercy_32 (by decide) (fun c32 => ?_) (fun c32 => ?_)
    · replace hf := iteF (b2i_nt (b2i_eq0 c32)) hf
      refine V_iinc (v := (l2 + 1)) (ls' := [_, _, _]) d_X11_mercy_37 rfl (by rw [ic_1]) rfl ?_
      refine V_goto (tgt := 20) d_X11_mercy_40 (by decide) ?_
      refine V_less (ls' := [some _, some _, some _]) ⟨rfl, rfl, rfl, trivial⟩ ?_
      cases hf
      exact hK.1 _ rfl _
    · replace hf := iteT (b2i_ne0 c32) hf
      refine V_iload_n d_X11_mercy_35 rfl rfl ?_
      cases hf
      exact R_iX ((hK.2 _ rfl).2 _ rfl) d_X11_mercy_36 (Nat.le_of_ble_eq_true rfl) (Nat.le_of_ble_eq_true rfl)
theorem s_X11_mercy_j43 {G : Gl} (hG : G.1.stackTraces = false) {C : Cx} {n : Nat} {μ : Mem}  {r : ((Nat × Mem) ⊕ (Int32 × Mem))} (hf : f_X11_mercy_j43 μ = some r) (hK : FinX G C F_X11_mercy (some .int) (Sum.map id (fun q => (some (.int q.1), q.2)) r)) : V G C F_X11_mercy 43 [none, none, none] [] (pic G μ) n 1 6 := by
  unfold f_X11_mercy_j43 at hf
  refine V_iconst (v := (-1)) d_X11_mercy_43 ic_m1 ?_
  cases hf
  exact R_iX hK d_X11_mercy_44 (Nat.le_of_ble_eq_true rfl) (Nat.le_of_ble_eq_true rfl)
theorem s_X11_mercy_l20 {G : Gl} (hG : G.1.stackTraces = false) {C : Cx} {n : Nat} {μ : Mem} {l1 : Int32} {l2 : Int32} {r : ((Nat × Mem) ⊕ (Int32 × Mem))} (hf : f_X11_mercy_l20 μ l1 l2 = some r) (hK : FinX G C F_X11_mercy (some .int) (Sum.map id (fun q => (some (.int q.1), q.2)) r)) : V G C F_X11_mercy 20 [some (.ref (G.2.1 + 0)), some (.int l1), some (.int l2)] [] (pic G μ) n 1 6 := by
  unfold f_X11_mercy_l20 at hf
  obtain ⟨t, hl, hf⟩ := ob hf
  refine loopV (P := fun z => ∀ n, V G C F_X11_mercy 20 [some (.ref (G.2.1 + 0)), some (.int l1), some (.int z.1)] [] (pic G z.2) n 1 6) (t := t) ?_ _ _ hl n
  intro z y' hy hI hT n
  refine s_X11_mercy_b20 hG hy ⟨hI, fun x9 ex => ?_⟩
  have ex2 := hT x9 ex
  subst ex2
  refine ⟨fun e he => ?_, fun x2 hx => ?_⟩
  · subst he
    intro n
    exact s_X11_mercy_j43 hG hf hK
  · subst hx
    cases hf
    exact hK
theorem s_X11_mercy_e {G : Gl} (hG : G.1.stackTraces = false) {C : Cx} {n : Nat} {μ : Mem} {p1 : Int32} {r : ((Nat × Mem) ⊕ (Int32 × Mem))} (hf : f_X11_mercy μ p1 = some r) (hK : FinX G C F_X11_mercy (some .int) (Sum.map id (fun q => (some (.int q.1), q.2)) r)) : V G C F_X11_mercy 0 [some (.ref (G.2.1 + 0)), some (.int p1), none] [] (pic G μ) n 0 0 := by
  unfold f_X11_mercy at hf
  refine V_aload_n d_X11_mercy_0 rfl rfl ?_
  refine V_iload_n d_X11_mercy_1 rfl rfl ?_
  obtain ⟨q1, hq1, hf⟩ := ob hf
  cases q1 with
  | inl e9 =>
    obtain ⟨k9, μ9⟩ := e9
    refine B_callVXt (kc' := 1) (ks' := 6) (s_X11_needLace hG hq1) k_0 clX11 m_X11_needLace kv_RX11_189 d_X11_mercy_2 rfl (Nat.le_of_ble_eq_true rfl) ⟨rfl, rfl, Nat.le_of_ble_eq_true rfl, Nat.le_of_ble_eq_true rfl, Nat.le_of_ble_eq_true rfl⟩ (fun n => ?_)
    cases hf
    exact X_out hK rfl (Nat.le_of_ble_eq_true rfl) (Nat.le_of_ble_eq_true rfl)
  | inr v2 =>
    replace hf := elimR hf
    refine B_callVX0 (kc' := 1) (ks' := 6) (s_X11_needLace hG hq1) k_0 clX11 m_X11_needLace kv_RX11_189 d_X11_mercy_2 rfl (Nat.le_of_ble_eq_true rfl) ⟨rfl, rfl, Nat.le_of_ble_eq_true rfl, Nat.le_of_ble_eq_true rfl, Nat.le_of_ble_eq_true rfl⟩ (fun n => ?_)
    refine V_aload_n d_X11_mercy_5 rfl rfl ?_
    refine B_get k_0 fl_RX11_19 d_X11_mercy_6 g_11_1 ?_
    refine V_iload_n d_X11_mercy_9 rfl rfl ?_
    obtain ⟨t3, ht3, hf⟩ := ob hf
    refine B_callV1 (s_X2_isPledged hG L_3 ht3) k_3 clX2 m_X2_isPledged kv_RX11_227 d_X11_mercy_10 rfl (Nat.le_of_ble_eq_true rfl) ⟨rfl, rfl, Nat.le_of_ble_eq_true rfl, Nat.le_of_ble_eq_true rfl, Nat.le_of_ble_eq_true rfl⟩ (fun n => ?_)
    refine V_if_ne (tgt := 18) d_X11_mercy_13 (by decide) (fun c13 => ?_) (fun c13 => ?_)
    · replace hf := iteT (b2i_ne0 c13) hf
      refine V_iconst (v := 0) d_X11_mercy_18 ic_0 ?_
      refine V_istore_n (ls' := [_, _, _]) d_X11_mercy_19 rfl rfl rfl ?_
      refine V_less (ls' := [some _, some _, some _]) ⟨rfl, rfl, rfl, trivial⟩ ?_
      exact s_X11_mercy_l20 hG hf hK
    · replace hf := iteF (b2i_nt (b2i_eq0 c13)) hf
      refine V_iconst (v := (-1)) d_X11_mercy_16 ic_m1 ?_
      cases hf
      exact R_iX hK d_X11_mercy_17 (Nat.le_of_ble_eq_true rfl) (Nat.le_of_ble_eq_true rfl)
theorem s_X11_mercy {G : Gl} (hG : G.1.stackTraces = false) {μ : Mem} {p1 : Int32} {r : ((Nat × Mem) ⊕ (Int32 × Mem))} (hf : f_X11_mercy μ p1 = some r) : Rx G yX11_mercy F_X11_mercy (.code yX11_mercy F_X11_mercy.2.1 F_X11_mercy.2.2.1 (some .int)) [.ref (G.2.1 + 0), .int p1] μ (Sum.map id (fun q => (some (.int q.1), q.2)) r) := fun n => Sd.of hG ⟨by decide +kernel, rfl, rfl⟩ rfl (Nat.le_of_ble_eq_true rfl) rfl (fun C hK => s_X11_mercy_e hG hf hK)
theorem d_X11_hangs_0 : decode cX11_hangs 0 = .ok (.aload_n 0, 1) := by decide +kernel
theorem d_X11_hangs_1 : decode cX11_hangs 1 = .ok (.iload_n 1, 1) := by decide +kernel
theorem d_X11_hangs_2 : decode cX11_hangs 2 = .ok (.invokevirtual 149, 3) := by decide +kernel
theorem d_X11_hangs_5 : decode cX11_hangs 5 = .ok (.aload_n 0, 1) := by decide +kernel
theorem d_X11_hangs_6 : decode cX11_hangs 6 = .ok (.getfield 19, 3) := by decide +kernel
theorem d_X11_hangs_9 : decode cX11_hangs 9 = .ok (.iload_n 1, 1) := by decide +kernel
theorem d_X11_hangs_10 : decode cX11_hangs 10 = .ok (.invokevirtual 361, 3) := by decide +kernel
theorem d_X11_hangs_13 : decode cX11_hangs 13 = .ok (.ireturn, 1) := by decide +kernel
theorem s_X11_hangs_e {G : Gl} (hG : G.1.stackTraces = false) {C : Cx} {n : Nat} {μ : Mem} {p1 : Int32} {r : ((Nat × Mem) ⊕ (Int32 × Mem))} (hf : f_X11_hangs μ p1 = some r) (hK : FinX G C F_X11_hangs (some .int) (Sum.map id (fun q => (some (.int q.1), q.2)) r)) : V G C F_X11_hangs 0 [some (.ref (G.2.1 + 0)), some (.int p1)] [] (pic G μ) n 0 0 := by
  unfold f_X11_hangs at hf
  refine V_aload_n d_X11_hangs_0 rfl rfl ?_
  refine V_iload_n d_X11_hangs_1 rfl rfl ?_
  obtain ⟨q1, hq1, hf⟩ := ob hf
  cases q1 with
  | inl e9 =>
    obtain ⟨k9, μ9⟩ := e9
    refine B_callVXt (kc' := 1) (ks' := 6) (s_X11_needPerson hG hq1) k_0 clX11 m_X11_needPerson kv_RX11_149 d_X11_hangs_2 rfl (Nat.le_of_ble_eq_true rfl) ⟨rfl, rfl, Nat.le_of_ble_eq_true rfl, Nat.le_of_ble_eq_true rfl, Nat.le_of_ble_eq_true rfl⟩ (fun n => ?_)
    cases hf
    exact X_out hK rfl (Nat.le_of_ble_eq_true rfl) (Nat.le_of_ble_eq_true rfl)
  | inr v2 =>
    replace hf := elimR hf
    refine B_callVX0 (kc' := 1) (ks' := 6) (s_X11_needPerson hG hq1) k_0 clX11 m_X11_needPerson kv_RX11_149 d_X11_hangs_2 rfl (Nat.le_of_ble_eq_true rfl) ⟨rfl, rfl, Nat.le_of_ble_eq_true rfl, Nat.le_of_ble_eq_true rfl, Nat.le_of_ble_eq_true rfl⟩ (fun n => ?_)
    refine V_aload_n d_X11_hangs_5 rfl rfl ?_
    refine B_get k_0 fl_RX11_19 d_X11_hangs_6 g_11_1 ?_
    refine V_iload_n d_X11_hangs_9 rfl rfl ?_
    obtain ⟨t3, ht3, hf⟩ := ob hf
    refine B_callV1 (s_X2_hangingOn hG L_3 ht3) k_3 clX2 m_X2_hangingOn kv_RX11_361 d_X11_hangs_10 rfl (Nat.le_of_ble_eq_true rfl) ⟨rfl, rfl, Nat.le_of_ble_eq_true rfl, Nat.le_of_ble_eq_true rfl, Nat.le_of_ble_eq_true rfl⟩ (fun n => ?_)
    cases hf
    exact R_iX hK d_X11_hangs_13 (Nat.le_of_ble_eq_true rfl) (Nat.le_of_ble_eq_true rfl)
theorem s_X11_hangs {G : Gl} (hG : G.1.stackTraces = false) {μ : Mem} {p1 : Int32} {r : ((Nat × Mem) ⊕ (Int32 × Mem))} (hf : f_X11_hangs μ p1 = some r) : Rx G yX11_hangs F_X11_hangs (.code yX11_hangs F_X11_hangs.2.1 F_X11_hangs.2.2.1 (some .int)) [.ref (G.2.1 + 0), .int p1] μ (Sum.map id (fun q => (some (.int q.1), q.2)) r) := fun n => Sd.of hG ⟨by decide +kernel, rfl, rfl⟩ rfl (Nat.le_of_ble_eq_true rfl) rfl (fun C hK => s_X11_hangs_e hG hf hK)
theorem d_X11_trust_0 : decode cX11_trust 0 = .ok (.iconst (-1), 1) := by decide +kernel
theorem d_X11_trust_1 : decode cX11_trust 1 = .ok (.istore_n 1, 1) := by decide +kernel
theorem d_X11_trust_2 : decode cX11_trust 2 = .ok (.iconst 0, 1) := by decide +kernel
theorem d_X11_trust_3 : decode cX11_trust 3 = .ok (.istore_n 2, 1) := by decide +kernel
theorem d_X11_trust_4 : decode cX11_trust 4 = .ok (.iconst 0, 1) := by decide +kernel
theorem d_X11_trust_5 : decode cX11_trust 5 = .ok (.istore_n 3, 1) := by decide +kernel
theorem d_X11_trust_6 : decode cX11_trust 6 = .ok (.iload_n 3, 1) := by decide +kernel
theorem d_X11_trust_7 : decode cX11_trust 7 = .ok (.aload_n 0, 1) := by decide +kernel
theorem d_X11_trust_8 : decode cX11_trust 8 = .ok (.getfield 19, 3) := by decide +kernel
theorem d_X11_trust_11 : decode cX11_trust 11 = .ok (.getfield 291, 3) := by decide +kernel
theorem d_X11_trust_14 : decode cX11_trust 14 = .ok (.if_icmp .ge 37, 3) := by decide +kernel
theorem d_X11_trust_17 : decode cX11_trust 17 = .ok (.aload_n 0, 1) := by decide +kernel
theorem d_X11_trust_18 : decode cX11_trust 18 = .ok (.getfield 19, 3) := by decide +kernel
theorem d_X11_trust_21 : decode cX11_trust 21 = .ok (.aload_n 0, 1) := by decide +kernel
theorem d_X11_trust_22 : decode cX11_trust 22 = .ok (.getfield 19, 3) := by decide +kernel
theorem d_X11_trust_25 : decode cX11_trust 25 = .ok (.iload_n 3, 1) := by decide +kernel
theorem d_X11_trust_26 : decode cX11_trust 26 = .ok (.invokevirtual 361, 3) := by decide +kernel
theorem d_X11_trust_29 : decode cX11_trust 29 = .ok (.invokevirtual 352, 3) := by decide +kernel
theorem d_X11_trust_32 : decode cX11_trust 32 = .ok (.istore 4, 2) := by decide +kernel
theorem d_X11_trust_34 : decode cX11_trust 34 = .ok (.iload 4, 2) := by decide +kernel
theorem d_X11_trust_36 : decode cX11_trust 36 = .ok (.iload_n 2, 1) := by decide +kernel
theorem d_X11_trust_37 : decode cX11_trust 37 = .ok (.if_icmp .le 8, 3) := by decide +kernel
theorem d_X11_trust_40 : decode cX11_trust 40 = .ok (.iload 4, 2) := by decide +kernel
theorem d_X11_trust_42 : decode cX11_trust 42 = .ok (.istore_n 2, 1) := by decide +kernel
theorem d_X11_trust_43 : decode cX11_trust 43 = .ok (.iload_n 3, 1) := by decide +kernel
theorem d_X11_trust_44 : decode cX11_trust 44 = .ok (.istore_n 1, 1) := by decide +kernel
theorem d_X11_trust_45 : decode cX11_trust 45 = .ok (.iinc 3 1, 3) := by decide +kernel
theorem d_X11_trust_48 : decode cX11_trust 48 = .ok (.goto (-42), 3) := by decide +kernel
theorem d_X11_trust_51 : decode cX11_trust 51 = .ok (.iload_n 1, 1) := by decide +kernel
theorem d_X11_trust_52 : decode cX11_trust 52 = .ok (.ireturn, 1) := by decide +kernel
theorem s_X11_trust_j45_6 {G : Gl} (hG : G.1.stackTraces = false) {C : Cx} {n : Nat} {μ : Mem} {l1 : Int32} {l2 : Int32} {l3 : Int32} {y : ((Int32 × Int32 × Int32) ⊕ Int32)} (hf : f_X11_trust_j45_6 μ l1 l2 l3 = some y) (hK : (∀ z', y = .inl z' → ∀ n, V G C F_X11_trust 6 [some (.ref (G.2.1 + 0)), some (.int z'.1), some (.int z'.2.1), some (.int z'.2.2), none] [] (pic G μ) n 0 0) ∧ (∀ x', y = .inr x' → ∀ n, V G C F_X11_trust 51 [none, some (.int x'), none, none, none] [] (pic G μ) n 0 0)) : V G C F_X11_trust 45 [some (.ref (G.2.1 + 0)), some (.int l1), some (.int l2), some (.int l3), none] [] (pic G μ) n 0 0 := by
  unfold f_X11_trust_j45_6 at hf
  refine V_iinc (v := (l3 + 1)) (ls' := [_, _, _, _, _]) d_X11_trust_45 rfl (by rw [ic_1]) rfl ?_
  refine V_goto (tgt := 6) d_X11_trust_48 (by decide) ?_
  refine V_less (ls' := [some _, some _, some _, some _, none]) ⟨rfl, rfl, rfl, rfl, trivial⟩ ?_
  cases hf
  exact hK.1 _ rfl _
theorem s_X11_trust_b6 {G : Gl} (hG : G.1.stackTraces = false) {C : Cx} {n : Nat} {μ : Mem} {l1 : Int32} {l2 : Int32} {l3 : Int32} {y : ((Int32 × Int32 × Int32) ⊕ Int32)} (hf : f_X11_trust_b6 μ l1 l2 l3 = some y) (hK : (∀ z', y = .inl z' → ∀ n, V G C F_X11_trust 6 [some (.ref (G.2.1 + 0)), some (.int z'.1), some (.int z'.2.1), some (.int z'.2.2), none] [] (pic G μ) n 0 0) ∧ (∀ x', y = .inr x' → ∀ n, V G C F_X11_trust 51 [none, some (.int x'), none, none, none] [] (pic G μ) n 0 0)) : V G C F_X11_trust 6 [some (.ref (G.2.1 + 0)), some (.int l1), some (.int l2), some (.int l3), none] [] (pic G μ) n 0 0 := by
  unfold f_X11_trust_b6 at hf
  refine V_iload_n d_X11_trust_6 rfl rfl ?_
  refine V_aload_n d_X11_trust_7 rfl rfl ?_
  refine B_get k_0 fl_RX11_19 d_X11_trust_8 g_11_1 ?_
  refine B_get k_3 fl_RX11_291 d_X11_trust_11 g_2_0 ?_
  refine V_icmp_ge (tgt := 51) d_X11_trust_14 (by decide) (fun c14 => ?_) (fun c14 => ?_)
  · replace hf := iteT c14 hf
    refine V_less (ls' := [none, some _, none, none, none]) ⟨rfl, trivial⟩ ?_
    cases hf
    exact hK.2 _ rfl _
  · replace hf := iteF c14 hf
    refine V_aload_n d_X11_trust_17 rfl rfl ?_
    refine B_get k_0 fl_RX11_19 d_X11_trust_18 g_11_1 ?_
    refine V_aload_n d_X11_trust_21 rfl rfl ?_
    refine B_get k_0 fl_RX11_19 d_X11_trust_22 g_11_1 ?_
    refine V_iload_n d_X11_trust_25 rfl rfl ?_
    obtain ⟨t1, ht1, hf⟩ := ob hf
    refine B_callV1 (s_X2_hangingOn hG L_3 ht1) k_3 clX2 m_X2_hangingOn kv_RX11_361 d_X11_trust_26 rfl (Nat.le_of_ble_eq_true rfl) ⟨rfl, rfl, Nat.le_of_ble_eq_true rfl, Nat.le_of_ble_eq_true rfl, Nat.le_of_ble_eq_true rfl⟩ (fun n => ?_)
    obtain ⟨t2, ht2, hf⟩ := ob hf
    refine B_callV1 (s_X2_amountOf hG L_3 ht2) k_3 clX2 m_X2_amountOf kv_RX11_352 d_X11_trust_29 rfl (Nat.le_of_ble_eq_true rfl) ⟨rfl, rfl, Nat.le_of_ble_eq_true rfl, Nat.le_of_ble_eq_true rfl, Nat.le_of_ble_eq_true rfl⟩ (fun n => ?_)
    refine V_istore (ls' := [_, _, _, _, _]) d_X11_trust_32 rfl rfl ?_
    refine V_iload d_X11_trust_34 rfl ?_
    refine V_iload_n d_X11_trust_36 rfl rfl ?_
    refine V_icmp_le (tgt := 45) d_X11_trust_37 (by decide) (fun c37 => ?_) (fun c37 => ?_)
    · replace hf := iteT c37 hf
      refine V_less (ls' := [some _, some _, some _, some _, none]) ⟨rfl, rfl, rfl, rfl, trivial⟩ ?_
      exact s_X11_trust_j45_6 hG hf hK
    · replace hf := iteF c37 hf
      refine V_iload d_X11_trust_40 rfl ?_
      refine V_istore_n (ls' := [_, _, _, _, _]) d_X11_trust_42 rfl rfl rfl ?_
      refine V_iload_n d_X11_trust_43 rfl rfl ?_
      refine V_istore_n (ls' := [_, _, _, _, _]) d_X11_trust_44 rfl rfl rfl ?_
      refine V_less (ls' := [some _, some _, some _, some _, none]) ⟨rfl, rfl, rfl, rfl, trivial⟩ ?_
      exact s_X11_trust_j45_6 hG hf hK
theorem s_X11_trust_j51 {G : Gl} (hG : G.1.stackTraces = false) {C : Cx} {n : Nat} {μ : Mem} {l1 : Int32} {r : Int32} (hf : f_X11_trust_j51 μ l1 = some r) (hK : FinR G C F_X11_trust (some .int) (some (.int r)) μ) : V G C F_X11_trust 51 [none, some (.int l1), none, none, none] [] (pic G μ) n 0 0 := by
  unfold f_X11_trust_j51 at hf
  refine V_iload_n d_X11_trust_51 rfl rfl ?_
  cases hf
  exact R_i hK d_X11_trust_52 (Nat.le_of_ble_eq_true rfl) (Nat.le_of_ble_eq_true rfl)
theorem s_X11_trust_l6 {G : Gl} (hG : G.1.stackTraces = false) {C : Cx} {n : Nat} {μ : Mem} {l1 : Int32} {l2 : Int32} {l3 : Int32} {r : Int32} (hf : f_X11_trust_l6 μ l1 l2 l3 = some r) (hK : FinR G C F_X11_trust (some .int) (some (.int r)) μ) : V G C F_X11_trust 6 [some (.ref (G.2.1 + 0)), some (.int l1), some (.int l2), some (.int l3), none] [] (pic G μ) n 0 0 := by
  unfold f_X11_trust_l6 at hf
  obtain ⟨t, hl, hf⟩ := ob hf
  refine loopV (P := fun z => ∀ n, V G C F_X11_trust 6 [some (.ref (G.2.1 + 0)), some (.int z.1), some (.int z.2.1), some (.int z.2.2), none] [] (pic G μ) n 0 0) (t := t) ?_ _ _ hl n
  intro z y' hy hI hT n
  refine s_X11_trust_b6 hG hy ⟨hI, fun x9 ex => ?_⟩
  have ex2 := hT x9 ex
  subst ex2
  intro n
  exact s_X11_trust_j51 hG hf hK
theorem s_X11_trust_e {G : Gl} (hG : G.1.stackTraces = false) {C : Cx} {n : Nat} {μ : Mem}  {r : Int32} (hf : f_X11_trust μ = some r) (hK : FinR G C F_X11_trust (some .int) (some (.int r)) μ) : V G C F_X11_trust 0 [some (.ref (G.2.1 + 0)), none, none, none, none] [] (pic G μ) n 0 0 := by
  unfold f_X11_trust at hf
  refine V_iconst (v := (-1)) d_X11_trust_0 ic_m1 ?_
  refine V_istore_n (ls' := [_, _, _, _, _]) d_X11_trust_1 rfl rfl rfl ?_
  refine V_iconst (v := 0) d_X11_trust_2 ic_0 ?_
  refine V_istore_n (ls' := [_, _, _, _, _]) d_X11_trust_3 rfl rfl rfl ?_
  refine V_iconst (v := 0) d_X11_trust_4 ic_0 ?_
  refine V_istore_n (ls' := [_, _, _, _, _]) d_X11_trust_5 rfl rfl rfl ?_
  refine V_less (ls' := [some _, some _, some _, some _, none]) ⟨rfl, rfl, rfl, rfl, trivial⟩ ?_
  exact s_X11_trust_l6 hG hf hK
theorem s_X11_trust {G : Gl} (hG : G.1.stackTraces = false) {μ : Mem} {r : Int32} (hf : f_X11_trust μ = some r) : Rt G yX11_trust F_X11_trust (some .int) [.ref (G.2.1 + 0)] μ (some (.int r)) μ := fun n => Sd.of hG ⟨by decide +kernel, rfl, rfl⟩ rfl (Nat.le_of_ble_eq_true rfl) rfl (fun C hK => s_X11_trust_e hG hf hK)
theorem d_X11_needed_0 : decode cX11_needed 0 = .ok (.iconst 1, 1) := by decide +kernel
theorem d_X11_needed_1 : decode cX11_needed 1 = .ok (.aload_n 0, 1) := by decide +kernel
theorem d_X11_needed_2 : decode cX11_needed 2 = .ok (.getfield 19, 3) := by decide +kernel
theorem d_X11_needed_5 : decode cX11_needed 5 = .ok (.getfield 291, 3) := by decide +kernel
theorem d_X11_needed_8 : decode cX11_needed 8 = .ok (.ishl, 1) := by decide +kernel
theorem d_X11_needed_9 : decode cX11_needed 9 = .ok (.iconst 1, 1) := by decide +kernel
theorem d_X11_needed_10 : decode cX11_needed 10 = .ok (.isub, 1) := by decide +kernel
theorem d_X11_needed_11 : decode cX11_needed 11 = .ok (.istore_n 1, 1) := by decide +kernel
theorem d_X11_needed_12 : decode cX11_needed 12 = .ok (.iload_n 1, 1) := by decide +kernel
theorem d_X11_needed_13 : decode cX11_needed 13 = .ok (.istore_n 2, 1) := by decide +kernel
theorem d_X11_needed_14 : decode cX11_needed 14 = .ok (.iload_n 2, 1) := by decide +kernel
theorem d_X11_needed_15 : decode cX11_needed 15 = .ok (.ifCond .lt 33, 3) := by decide +kernel
theorem d_X11_needed_18 : decode cX11_needed 18 = .ok (.iload_n 2, 1) := by decide +kernel
theorem d_X11_needed_19 : decode cX11_needed 19 = .ok (.invokestatic 335, 3) := by decide +kernel
theorem d_X11_needed_22 : decode cX11_needed 22 = .ok (.iload_n 1, 1) := by decide +kernel
theorem d_X11_needed_23 : decode cX11_needed 23 = .ok (.invokestatic 335, 3) := by decide +kernel
theorem d_X11_needed_26 : decode cX11_needed 26 = .ok (.if_icmp .gt 16, 3) := by decide +kernel
theorem d_X11_needed_29 : decode cX11_needed 29 = .ok (.aload_n 0, 1) := by decide +kernel
theorem d_X11_needed_30 : decode cX11_needed 30 = .ok (.getfield 19, 3) := by decide +kernel
theorem d_X11_needed_33 : decode cX11_needed 33 = .ok (.iload_n 2, 1) := by decide +kernel
theorem d_X11_needed_34 : decode cX11_needed 34 = .ok (.invokevirtual 364, 3) := by decide +kernel
theorem d_X11_needed_37 : decode cX11_needed 37 = .ok (.ifCond .eq 5, 3) := by decide +kernel
theorem d_X11_needed_40 : decode cX11_needed 40 = .ok (.iload_n 2, 1) := by decide +kernel
theorem d_X11_needed_41 : decode cX11_needed 41 = .ok (.istore_n 1, 1) := by decide +kernel
theorem d_X11_needed_42 : decode cX11_needed 42 = .ok (.iinc 2 (-1), 3) := by decide +kernel
theorem d_X11_needed_45 : decode cX11_needed 45 = .ok (.goto (-31), 3) := by decide +kernel
theorem d_X11_needed_48 : decode cX11_needed 48 = .ok (.iload_n 1, 1) := by decide +kernel
theorem d_X11_needed_49 : decode cX11_needed 49 = .ok (.ireturn, 1) := by decide +kernel
theorem s_X11_needed_j42_14 {G : Gl} (hG : G.1.stackTraces = false) {C : Cx} {n : Nat} {μ : Mem} {l1 : Int32} {l2 : Int32} {y : ((Int32 × Int32) ⊕ Int32)} (hf : f_X11_needed_j42_14 μ l1 l2 = some y) (hK : (∀ z', y = .inl z' → ∀ n, V G C F_X11_needed 14 [some (.ref (G.2.1 + 0)), some (.int z'.1), some (.int z'.2)] [] (pic G μ) n 0 0) ∧ (∀ x', y = .inr x' → ∀ n, V G C F_X11_needed 48 [none, some (.int x'), none] [] (pic G μ) n 0 0)) : V G C F_X11_needed 42 [some (.ref (G.2.1 + 0)), some (.int l1), some (.int l2)] [] (pic G μ) n 0 0 := by
  unfold f_X11_needed_j42_14 at hf
  refine V_iinc (v := (l2 + (-1))) (ls' := [_, _, _]) d_X11_needed_42 rfl (by rw [ic_m1]) rfl ?_
  refine V_goto (tgt := 14) d_X11_needed_45 (by decide) ?_
  refine V_less (ls' := [some _, some _, some _]) ⟨rfl, rfl, rfl, trivial⟩ ?_
  cases hf
  exact hK.1 _ rfl _
theorem s_X11_needed_b14 {G : Gl} (hG : G.1.stackTraces = false) {C : Cx} {n : Nat} {μ : Mem} {l1 : Int32} {l2 : Int32} {y : ((Int32 × Int32) ⊕ Int32)} (hf : f_X11_needed_b14 μ l1 l2 = some y) (hK : (∀ z', y = .inl z' → ∀ n, V G C F_X11_needed 14 [some (.ref (G.2.1 + 0)), some (.int z'.1), some (.int z'.2)] [] (pic G μ) n 0 0) ∧ (∀ x', y = .inr x' → ∀ n, V G C F_X11_needed 48 [none, some (.int x'), none] [] (pic G μ) n 0 0)) : V G C F_X11_needed 14 [some (.ref (G.2.1 + 0)), some (.int l1), some (.int l2)] [] (pic G μ) n 0 0 := by
  unfold f_X11_needed_b14 at hf
  refine V_iload_n d_X11_needed_14 rfl rfl ?_
  refine V_if_lt (tgt := 48) d_X11_needed_15 (by decide) (fun c15 => ?_) (fun c15 => ?_)
  · replace hf := iteT c15 hf
    refine V_less (ls' := [none, some _, none]) ⟨rfl, trivial⟩ ?_
    cases hf
    exact hK.2 _ rfl _
  · replace hf := iteF c15 hf
    refine V_iload_n d_X11_needed_18 rfl rfl ?_
    obtain ⟨t1, ht1, hf⟩ := ob hf
    refine B_callS1 (s_J6_bitCount_0f7a4 hG ht1) m_J6_bitCount_0f7a4 ks_RX11_335 d_X11_needed_19 rfl (Nat.le_of_ble_eq_true rfl) ⟨rfl, rfl, Nat.le_of_ble_eq_true rfl, Nat.le_of_ble_eq_true rfl, Nat.le_of_ble_eq_true rfl⟩ (fun n => ?_)
    refine V_iload_n d_X11_needed_22 rfl rfl ?_
    obtain ⟨t2, ht2, hf⟩ := ob hf
    refine B_callS1 (s_J6_bitCount_0f7a4 hG ht2) m_J6_bitCount_0f7a4 ks_RX11_335 d_X11_needed_23 rfl (Nat.le_of_ble_eq_true rfl) ⟨rfl, rfl, Nat.le_of_ble_eq_true rfl, Nat.le_of_ble_eq_true rfl, Nat.le_of_ble_eq_true rfl⟩ (fun n => ?_)
    refine V_icmp_gt (tgt := 42) d_X11_needed_26 (by decide) (fun c26 => ?_) (fun c26 => ?_)
    · replace hf := iteT c26 hf
      refine V_less (ls' := [some _, some _, some _]) ⟨rfl, rfl, rfl, trivial⟩ ?_
      exact s_X11_needed_j42_14 hG hf hK
    · replace hf := iteF c26 hf
      refine V_aload_n d_X11_needed_29 rfl rfl ?_
      refine B_get k_0 fl_RX11_19 d_X11_needed_30 g_11_1 ?_
      refine V_iload_n d_X11_needed_33 rfl rfl ?_
      obtain ⟨t3, ht3, hf⟩ := ob hf
      refine B_callV1 (s_X2_isInEachPledge hG L_3 ht3) k_3 clX2 m_X2_isInEachPledge kv_RX11_364 d_X11_needed_34 rfl (Nat.le_of_ble_eq_true rfl) ⟨rfl, rfl, Nat.le_of_ble_eq_true rfl, Nat.le_of_ble_eq_true rfl, Nat.le_of_ble_eq_true rfl⟩ (fun n => ?_)
      have hJj4 : ∀ j4 : Int32, j4 = (if t3 = true then (l2 : Int32) else l1) → V G C F_X11_needed 42 [some (.ref (G.2.1 + 0)), some (.int j4), some (.int l2)] [] (pic G μ) n 0 0 := by
        intro j4 ej4
        subst ej4
        refine V_iinc (v := (l2 + (-1))) (ls' := [_, _, _]) d_X11_needed_42 rfl (by rw [ic_m1]) rfl ?_
        refine V_goto (tgt := 14) d_X11_needed_45 (by decide) ?_
        refine V_less (ls' := [some _, some _, some _]) ⟨rfl, rfl, rfl, trivial⟩ ?_
        cases hf
        exact hK.1 _ rfl _
      refine V_if_eq (tgt := 42) d_X11_needed_37 (by decide) (fun c37 => ?_) (fun c37 => ?_)
      · refine V_less (ls' := [some _, some _, some _]) ⟨rfl, rfl, rfl, trivial⟩ ?_
        exact hJj4 l1 (by rw [if_neg (b2i_nt (b2i_eq0 c37))])
      · refine V_iload_n d_X11_needed_40 rfl rfl ?_
        refine V_istore_n (ls' := [_, _, _]) d_X11_needed_41 rfl rfl rfl ?_
        refine V_less (ls' := [some _, some _, some _]) ⟨rfl, rfl, rfl, trivial⟩ ?_
        exact hJj4 l2 (by rw [if_pos (b2i_ne0 c37)])
theorem s_X11_needed_j48 {G : Gl} (hG : G.1.stackTraces = false) {C : Cx} {n : Nat} {μ : Mem} {l1 : Int32} {r : Int32} (hf : f_X11_needed_j48 μ l1 = some r) (hK : FinR G C F_X11_needed (some .int) (some (.int r)) μ) : V G C F_X11_needed 48 [none, some (.int l1), none] [] (pic G μ) n 0 0 := by
  unfold f_X11_needed_j48 at hf
  refine V_iload_n d_X11_needed_48 rfl rfl ?_
  cases hf
  exact R_i hK d_X11_needed_49 (Nat.le_of_ble_eq_true rfl) (Nat.le_of_ble_eq_true rfl)
theorem s_X11_needed_l14 {G : Gl} (hG : G.1.stackTraces = false) {C : Cx} {n : Nat} {μ : Mem} {l1 : Int32} {l2 : Int32} {r : Int32} (hf : f_X11_needed_l14 μ l1 l2 = some r) (hK : FinR G C F_X11_needed (some .int) (some (.int r)) μ) : V G C F_X11_needed 14 [some (.ref (G.2.1 + 0)), some (.int l1), some (.int l2)] [] (pic G μ) n 0 0 := by
  unfold f_X11_needed_l14 at hf
  obtain ⟨t, hl, hf⟩ := ob hf
  refine loopV (P := fun z => ∀ n, V G C F_X11_needed 14 [some (.ref (G.2.1 + 0)), some (.int z.1), some (.int z.2)] [] (pic G μ) n 0 0) (t := t) ?_ _ _ hl n
  intro z y' hy hI hT n
  refine s_X11_needed_b14 hG hy ⟨hI, fun x9 ex => ?_⟩
  have ex2 := hT x9 ex
  subst ex2
  intro n
  exact s_X11_needed_j48 hG hf hK
theorem s_X11_needed_e {G : Gl} (hG : G.1.stackTraces = false) {C : Cx} {n : Nat} {μ : Mem}  {r : Int32} (hf : f_X11_needed μ = some r) (hK : FinR G C F_X11_needed (some .int) (some (.int r)) μ) : V G C F_X11_needed 0 [some (.ref (G.2.1 + 0)), none, none] [] (pic G μ) n 0 0 := by
  unfold f_X11_needed at hf
  refine V_iconst (v := 1) d_X11_needed_0 ic_1 ?_
  refine V_aload_n d_X11_needed_1 rfl rfl ?_
  refine B_get k_0 fl_RX11_19 d_X11_needed_2 g_11_1 ?_
  refine B_get k_3 fl_RX11_291 d_X11_needed_5 g_2_0 ?_
  refine V_ishl d_X11_needed_8 ?_
  refine V_iconst (v := 1) d_X11_needed_9 ic_1 ?_
  refine V_isub d_X11_needed_10 ?_
  refine V_istore_n (ls' := [_, _, _]) d_X11_needed_11 rfl rfl rfl ?_
  refine V_iload_n d_X11_needed_12 rfl rfl ?_
  refine V_istore_n (ls' := [_, _, _]) d_X11_needed_13 rfl rfl rfl ?_
  refine V_less (ls' := [some _, some _, some _]) ⟨rfl, rfl, rfl, trivial⟩ ?_
  exact s_X11_needed_l14 hG hf hK
theorem s_X11_needed {G : Gl} (hG : G.1.stackTraces = false) {μ : Mem} {r : Int32} (hf : f_X11_needed μ = some r) : Rt G yX11_needed F_X11_needed (some .int) [.ref (G.2.1 + 0)] μ (some (.int r)) μ := fun n => Sd.of hG ⟨by decide +kernel, rfl, rfl⟩ rfl (Nat.le_of_ble_eq_true rfl) rfl (fun C hK => s_X11_needed_e hG hf hK)
theorem d_X11_needWearers_0 : decode cX11_needWearers 0 = .ok (.aload_n 0, 1) := by decide +kernel
theorem d_X11_needWearers_1 : decode cX11_needWearers 1 = .ok (.getfield 86, 3) := by decide +kernel
theorem d_X11_needWearers_4 : decode cX11_needWearers 4 = .ok (.iload_n 1, 1) := by decide +kernel
theorem d_X11_needWearers_5 : decode cX11_needWearers 5 = .ok (.aload_n 0, 1) := by decide +kernel
theorem d_X11_needWearers_6 : decode cX11_needWearers 6 = .ok (.getfield 19, 3) := by decide +kernel
theorem d_X11_needWearers_9 : decode cX11_needWearers 9 = .ok (.getfield 291, 3) := by decide +kernel
theorem d_X11_needWearers_12 : decode cX11_needWearers 12 = .ok (.invokevirtual 443, 3) := by decide +kernel
theorem d_X11_needWearers_15 : decode cX11_needWearers 15 = .ok (.ifCond .ne 14, 3) := by decide +kernel
theorem d_X11_needWearers_18 : decode cX11_needWearers 18 = .ok (.new 113, 3) := by decide +kernel
theorem d_X11_needWearers_21 : decode cX11_needWearers 21 = .ok (.dup, 1) := by decide +kernel
theorem d_X11_needWearers_22 : decode cX11_needWearers 22 = .ok (.ldc_w 446, 3) := by decide +kernel
theorem d_X11_needWearers_25 : decode cX11_needWearers 25 = .ok (.invokespecial 117, 3) := by decide +kernel
theorem d_X11_needWearers_28 : decode cX11_needWearers 28 = .ok (.athrow, 1) := by decide +kernel
theorem d_X11_needWearers_29 : decode cX11_needWearers 29 = .ok (.aload_n 0, 1) := by decide +kernel
theorem d_X11_needWearers_30 : decode cX11_needWearers 30 = .ok (.getfield 86, 3) := by decide +kernel
theorem d_X11_needWearers_33 : decode cX11_needWearers 33 = .ok (.iload_n 1, 1) := by decide +kernel
theorem d_X11_needWearers_34 : decode cX11_needWearers 34 = .ok (.aload_n 0, 1) := by decide +kernel
theorem d_X11_needWearers_35 : decode cX11_needWearers 35 = .ok (.getfield 19, 3) := by decide +kernel
theorem d_X11_needWearers_38 : decode cX11_needWearers 38 = .ok (.getfield 291, 3) := by decide +kernel
theorem d_X11_needWearers_41 : decode cX11_needWearers 41 = .ok (.invokevirtual 448, 3) := by decide +kernel
theorem d_X11_needWearers_44 : decode cX11_needWearers 44 = .ok (.return_, 1) := by decide +kernel
theorem s_X11_needWearers_e {G : Gl} (hG : G.1.stackTraces = false) {C : Cx} {n : Nat} {μ : Mem} {p1 : Int32} {r : ((Nat × Mem) ⊕ Mem)} (hf : f_X11_needWearers μ p1 = some r) (hK : FinX G C F_X11_needWearers none (Sum.map id (fun q => (none, q)) r)) : V G C F_X11_needWearers 0 [some (.ref (G.2.1 + 0)), some (.int p1)] [] (pic G μ) n 0 0 := by
  unfold f_X11_needWearers at hf
  refine V_aload_n d_X11_needWearers_0 rfl rfl ?_
  refine B_get k_0 fl_RX11_86 d_X11_needWearers_1 g_11_12 ?_
  refine V_iload_n d_X11_needWearers_4 rfl rfl ?_
  refine V_aload_n d_X11_needWearers_5 rfl rfl ?_
  refine B_get k_0 fl_RX11_19 d_X11_needWearers_6 g_11_1 ?_
  refine B_get k_3 fl_RX11_291 d_X11_needWearers_9 g_2_0 ?_
  obtain ⟨t1, ht1, hf⟩ := ob hf
  refine B_callV1 (s_X10_areTold hG ht1) k_262 clX10 m_X10_areTold kv_RX11_443 d_X11_needWearers_12 rfl (Nat.le_of_ble_eq_true rfl) ⟨rfl, rfl, Nat.le_of_ble_eq_true rfl, Nat.le_of_ble_eq_true rfl, Nat.le_of_ble_eq_true rfl⟩ (fun n => ?_)
  refine V_if_ne (tgt := 29) d_X11_needWearers_15 (by decide) (fun c15 => ?_) (fun c15 => ?_)
  · replace hf := iteT (b2i_ne0 c15) hf
    refine V_aload_n d_X11_needWearers_29 rfl rfl ?_
    refine B_get k_0 fl_RX11_86 d_X11_needWearers_30 g_11_12 ?_
    refine V_iload_n d_X11_needWearers_33 rfl rfl ?_
    refine V_aload_n d_X11_needWearers_34 rfl rfl ?_
    refine B_get k_0 fl_RX11_19 d_X11_needWearers_35 g_11_1 ?_
    refine B_get k_3 fl_RX11_291 d_X11_needWearers_38 g_2_0 ?_
    obtain ⟨q2, hq2, hf⟩ := ob hf
    refine B_callV0 (s_X10_seek hG hq2) k_262 clX10 m_X10_seek kv_RX11_448 d_X11_needWearers_41 rfl (Nat.le_of_ble_eq_true rfl) ⟨rfl, rfl, Nat.le_of_ble_eq_true rfl, Nat.le_of_ble_eq_true rfl, Nat.le_of_ble_eq_true rfl⟩ (fun n => ?_)
    cases hf
    exact R_vX hK d_X11_needWearers_44 (Nat.le_of_ble_eq_true rfl) (Nat.le_of_ble_eq_true rfl)
  · replace hf := iteF (b2i_nt (b2i_eq0 c15)) hf
    cases hf
    exact B_throwW (k0 := 1) hK tk_RX11_113_446_117 rfl rfl d_X11_needWearers_18 d_X11_needWearers_21 d_X11_needWearers_22 d_X11_needWearers_25 d_X11_needWearers_28 (Nat.le_of_ble_eq_true rfl) (Nat.le_of_ble_eq_true rfl) (Nat.le_of_ble_eq_true rfl)
theorem s_X11_needWearers {G : Gl} (hG : G.1.stackTraces = false) {μ : Mem} {p1 : Int32} {r : ((Nat × Mem) ⊕ Mem)} (hf : f_X11_needWearers μ p1 = some r) : Rx G yX11_needWearers F_X11_needWearers (.code yX11_needWearers F_X11_needWearers.2.1 F_X11_needWearers.2.2.1 none) [.ref (G.2.1 + 0), .int p1] μ (Sum.map id (fun q => (none, q)) r) := fun n => Sd.of hG ⟨by decide +kernel, rfl, rfl⟩ rfl (Nat.le_of_ble_eq_true rfl) rfl (fun C hK => s_X11_needWearers_e hG hf hK)
theorem d_X11_wear_0 : decode cX11_wear 0 = .ok (.aload_n 0, 1) := by decide +kernel
theorem d_X11_wear_1 : decode cX11_wear 1 = .ok (.aload_n 0, 1) := by decide +kernel
theorem d_X11_wear_2 : decode cX11_wear 2 = .ok (.getfield 10, 3) := by decide +kernel
theorem d_X11_wear_5 : decode cX11_wear 5 = .ok (.invokevirtual 298, 3) := by decide +kernel
theorem d_X11_wear_8 : decode cX11_wear 8 = .ok (.invokevirtual 367, 3) := by decide +kernel
theorem d_X11_wear_11 : decode cX11_wear 11 = .ok (.iload_n 1, 1) := by decide +kernel
theorem d_X11_wear_12 : decode cX11_wear 12 = .ok (.ifCond .eq 13, 3) := by decide +kernel
theorem d_X11_wear_15 : decode cX11_wear 15 = .ok (.aload_n 0, 1) := by decide +kernel
theorem d_X11_wear_16 : decode cX11_wear 16 = .ok (.getfield 86, 3) := by decide +kernel
theorem d_X11_wear_19 : decode cX11_wear 19 = .ok (.getfield 370, 3) := by decide +kernel
theorem d_X11_wear_22 : decode cX11_wear 22 = .ok (.goto 10, 3) := by decide +kernel
theorem d_X11_wear_25 : decode cX11_wear 25 = .ok (.aload_n 0, 1) := by decide +kernel
theorem d_X11_wear_26 : decode cX11_wear 26 = .ok (.getfield 86, 3) := by decide +kernel
theorem d_X11_wear_29 : decode cX11_wear 29 = .ok (.getfield 373, 3) := by decide +kernel
theorem d_X11_wear_32 : decode cX11_wear 32 = .ok (.ireturn, 1) := by decide +kernel
theorem s_X11_wear_e {G : Gl} (hG : G.1.stackTraces = false) {C : Cx} {n : Nat} {μ : Mem} {p1 : Bool} {r : ((Nat × Mem) ⊕ (Int32 × Mem))} (hf : f_X11_wear μ p1 = some r) (hK : FinX G C F_X11_wear (some .int) (Sum.map id (fun q => (some (.int q.1), q.2)) r)) : V G C F_X11_wear 0 [some (.ref (G.2.1 + 0)), some (.int (b2i p1))] [] (pic G μ) n 0 0 := by
  unfold f_X11_wear at hf
  refine V_aload_n d_X11_wear_0 rfl rfl ?_
  refine V_aload_n d_X11_wear_1 rfl rfl ?_
  refine B_get k_0 fl_RX11_10 d_X11_wear_2 g_11_0 ?_
  obtain ⟨q1, hq1, hf⟩ := ob hf
  refine B_callV1 (s_X8_useUp hG hq1) k_1 clX8 m_X8_useUp kv_RX11_298 d_X11_wear_5 rfl (Nat.le_of_ble_eq_true rfl) ⟨rfl, rfl, Nat.le_of_ble_eq_true rfl, Nat.le_of_ble_eq_true rfl, Nat.le_of_ble_eq_true rfl⟩ (fun n => ?_)
  obtain ⟨q2, hq2, hf⟩ := ob hf
  cases q2 with
  | inl e9 =>
    obtain ⟨k9, μ9⟩ := e9
    refine B_callVXt (kc' := 1) (ks' := 6) (s_X11_needWearers hG hq2) k_0 clX11 m_X11_needWearers kv_RX11_367 d_X11_wear_8 rfl (Nat.le_of_ble_eq_true rfl) ⟨rfl, rfl, Nat.le_of_ble_eq_true rfl, Nat.le_of_ble_eq_true rfl, Nat.le_of_ble_eq_true rfl⟩ (fun n => ?_)
    cases hf
    exact X_out hK rfl (Nat.le_of_ble_eq_true rfl) (Nat.le_of_ble_eq_true rfl)
  | inr v3 =>
    replace hf := elimR hf
    refine B_callVX0 (kc' := 1) (ks' := 6) (s_X11_needWearers hG hq2) k_0 clX11 m_X11_needWearers kv_RX11_367 d_X11_wear_8 rfl (Nat.le_of_ble_eq_true rfl) ⟨rfl, rfl, Nat.le_of_ble_eq_true rfl, Nat.le_of_ble_eq_true rfl, Nat.le_of_ble_eq_true rfl⟩ (fun n => ?_)
    refine V_iload_n d_X11_wear_11 rfl rfl ?_
    have hJj4 : ∀ j4 : Int32, j4 = (if p1 = true then ((v3 262 4) : Int32) else (v3 262 3)) → V G C F_X11_wear 32 [none, none] [.int j4] (pic G v3) n 1 6 := by
      intro j4 ej4
      subst ej4
      cases hf
      exact R_iX hK d_X11_wear_32 (Nat.le_of_ble_eq_true rfl) (Nat.le_of_ble_eq_true rfl)
    refine V_if_eq (tgt := 25) d_X11_wear_12 (by decide) (fun c12 => ?_) (fun c12 => ?_)
    · refine V_aload_n d_X11_wear_25 rfl rfl ?_
      refine B_get k_0 fl_RX11_86 d_X11_wear_26 g_11_12 ?_
      refine B_get k_262 fl_RX11_373 d_X11_wear_29 g_10_3 ?_
      refine V_less (ls' := [none, none]) trivial ?_
      exact hJj4 (v3 262 3) (by rw [if_neg (b2i_nt (b2i_eq0 c12))])
    · refine V_aload_n d_X11_wear_15 rfl rfl ?_
      refine B_get k_0 fl_RX11_86 d_X11_wear_16 g_11_12 ?_
      refine B_get k_262 fl_RX11_370 d_X11_wear_19 g_10_4 ?_
      refine V_goto (tgt := 32) d_X11_wear_22 (by decide) ?_
      refine V_less (ls' := [none, none]) trivial ?_
      exact hJj4 (v3 262 4) (by rw [if_pos (b2i_ne0 c12)])
theorem s_X11_wear {G : Gl} (hG : G.1.stackTraces = false) {μ : Mem} {p1 : Bool} {r : ((Nat × Mem) ⊕ (Int32 × Mem))} (hf : f_X11_wear μ p1 = some r) : Rx G yX11_wear F_X11_wear (.code yX11_wear F_X11_wear.2.1 F_X11_wear.2.2.1 (some .int)) [.ref (G.2.1 + 0), .int (b2i p1)] μ (Sum.map id (fun q => (some (.int q.1), q.2)) r) := fun n => Sd.of hG ⟨by decide +kernel, rfl, rfl⟩ rfl (Nat.le_of_ble_eq_true rfl) rfl (fun C hK => s_X11_wear_e hG hf hK)
theorem d_X11_look_0 : decode cX11_look 0 = .ok (.aload_n 0, 1) := by decide +kernel
theorem d_X11_look_1 : decode cX11_look 1 = .ok (.aload_n 0, 1) := by decide +kernel
theorem d_X11_look_2 : decode cX11_look 2 = .ok (.getfield 10, 3) := by decide +kernel
theorem d_X11_look_5 : decode cX11_look 5 = .ok (.invokevirtual 298, 3) := by decide +kernel
theorem d_X11_look_8 : decode cX11_look 8 = .ok (.invokevirtual 367, 3) := by decide +kernel
theorem d_X11_look_11 : decode cX11_look 11 = .ok (.aload_n 0, 1) := by decide +kernel
theorem d_X11_look_12 : decode cX11_look 12 = .ok (.getfield 86, 3) := by decide +kernel
theorem d_X11_look_15 : decode cX11_look 15 = .ok (.invokevirtual 376, 3) := by decide +kernel
theorem d_X11_look_18 : decode cX11_look 18 = .ok (.ireturn, 1) := by decide +kernel
theorem s_X11_look_e {G : Gl} (hG : G.1.stackTraces = false) {C : Cx} {n : Nat} {μ : Mem}  {r : ((Nat × Mem) ⊕ (Int32 × Mem))} (hf : f_X11_look μ = some r) (hK : FinX G C F_X11_look (some .int) (Sum.map id (fun q => (some (.int q.1), q.2)) r)) : V G C F_X11_look 0 [some (.ref (G.2.1 + 0))] [] (pic G μ) n 0 0 := by
  unfold f_X11_look at hf
  refine V_aload_n d_X11_look_0 rfl rfl ?_
  refine V_aload_n d_X11_look_1 rfl rfl ?_
  refine B_get k_0 fl_RX11_10 d_X11_look_2 g_11_0 ?_
  obtain ⟨q1, hq1, hf⟩ := ob hf
  refine B_callV1 (s_X8_useUp hG hq1) k_1 clX8 m_X8_useUp kv_RX11_298 d_X11_look_5 rfl (Nat.le_of_ble_eq_true rfl) ⟨rfl, rfl, Nat.le_of_ble_eq_true rfl, Nat.le_of_ble_eq_true rfl, Nat.le_of_ble_eq_true rfl⟩ (fun n => ?_)
  obtain ⟨q2, hq2, hf⟩ := ob hf
  cases q2 with
  | inl e9 =>
    obtain ⟨k9, μ9⟩ := e9
    refine B_callVXt (kc' := 1) (ks' := 6) (s_X11_needWearers hG hq2) k_0 clX11 m_X11_needWearers kv_RX11_367 d_X11_look_8 rfl (Nat.le_of_ble_eq_true rfl) ⟨rfl, rfl, Nat.le_of_ble_eq_true rfl, Nat.le_of_ble_eq_true rfl, Nat.le_of_ble_eq_true rfl⟩ (fun n => ?_)
    cases hf
    exact X_out hK rfl (Nat.le_of_ble_eq_true rfl) (Nat.le_of_ble_eq_true rfl)
  | inr v3 =>
    replace hf := elimR hf
    refine B_callVX0 (kc' := 1) (ks' := 6) (s_X11_needWearers hG hq2) k_0 clX11 m_X11_needWearers kv_RX11_367 d_X11_look_8 rfl (Nat.le_of_ble_eq_true rfl) ⟨rfl, rfl, Nat.le_of_ble_eq_true rfl, Nat.le_of_ble_eq_true rfl, Nat.le_of_ble_eq_true rfl⟩ (fun n => ?_)
    refine V_aload_n d_X11_look_11 rfl rfl ?_
    refine B_get k_0 fl_RX11_86 d_X11_look_12 g_11_12 ?_
    obtain ⟨t4, ht4, hf⟩ := ob hf
    refine B_callV1 (s_X10_parting hG ht4) k_262 clX10 m_X10_parting kv_RX11_376 d_X11_look_15 rfl (Nat.le_of_ble_eq_true rfl) ⟨rfl, rfl, Nat.le_of_ble_eq_true rfl, Nat.le_of_ble_eq_true rfl, Nat.le_of_ble_eq_true rfl⟩ (fun n => ?_)
    cases hf
    exact R_iX hK d_X11_look_18 (Nat.le_of_ble_eq_true rfl) (Nat.le_of_ble_eq_true rfl)
theorem s_X11_look {G : Gl} (hG : G.1.stackTraces = false) {μ : Mem} {r : ((Nat × Mem) ⊕ (Int32 × Mem))} (hf : f_X11_look μ = some r) : Rx G yX11_look F_X11_look (.code yX11_look F_X11_look.2.1 F_X11_look.2.2.1 (some .int)) [.ref (G.2.1 + 0)] μ (Sum.map id (fun q => (some (.int q.1), q.2)) r) := fun n => Sd.of hG ⟨by decide +kernel, rfl, rfl⟩ rfl (Nat.le_of_ble_eq_true rfl) rfl (fun C hK => s_X11_look_e hG hf hK)
theorem d_X11_race_0 : decode cX11_race 0 = .ok (.aload_n 0, 1) := by decide +kernel
theorem d_X11_race_1 : decode cX11_race 1 = .ok (.iload_n 1, 1) := by decide +kernel
theorem d_X11_race_2 : decode cX11_race 2 = .ok (.invokevirtual 149, 3) := by decide +kernel
theorem d_X11_race_5 : decode cX11_race 5 = .ok (.aload_n 0, 1) := by decide +kernel
theorem d_X11_race_6 : decode cX11_race 6 = .ok (.getfield 19, 3) := by decide +kernel
theorem d_X11_race_9 : decode cX11_race 9 = .ok (.iload_n 1, 1) := by decide +kernel
theorem d_X11_race_10 : decode cX11_race 10 = .ok (.aload_n 0, 1) := by decide +kernel
theorem d_X11_race_11 : decode cX11_race 11 = .ok (.getfield 32, 3) := by decide +kernel
theorem d_X11_race_14 : decode cX11_race 14 = .ok (.invokevirtual 218, 3) := by decide +kernel
theorem d_X11_race_17 : decode cX11_race 17 = .ok (.istore_n 2, 1) := by decide +kernel
theorem d_X11_race_18 : decode cX11_race 18 = .ok (.iconst 0, 1) := by decide +kernel
theorem d_X11_race_19 : decode cX11_race 19 = .ok (.istore_n 3, 1) := by decide +kernel
theorem d_X11_race_20 : decode cX11_race 20 = .ok (.iconst 0, 1) := by decide +kernel
theorem d_X11_race_21 : decode cX11_race 21 = .ok (.istore 4, 2) := by decide +kernel
theorem d_X11_race_23 : decode cX11_race 23 = .ok (.iload 4, 2) := by decide +kernel
theorem d_X11_race_25 : decode cX11_race 25 = .ok (.aload_n 0, 1) := by decide +kernel
theorem d_X11_race_26 : decode cX11_race 26 = .ok (.getfield 19, 3) := by decide +kernel
theorem d_X11_race_29 : decode cX11_race 29 = .ok (.getfield 291, 3) := by decide +kernel
theorem d_X11_race_32 : decode cX11_race 32 = .ok (.if_icmp .ge 39, 3) := by decide +kernel
theorem d_X11_race_35 : decode cX11_race 35 = .ok (.iload 4, 2) := by decide +kernel
theorem d_X11_race_37 : decode cX11_race 37 = .ok (.iload_n 1, 1) := by decide +kernel
theorem d_X11_race_38 : decode cX11_race 38 = .ok (.if_icmp .eq 27, 3) := by decide +kernel
theorem d_X11_race_41 : decode cX11_race 41 = .ok (.aload_n 0, 1) := by decide +kernel
theorem d_X11_race_42 : decode cX11_race 42 = .ok (.getfield 19, 3) := by decide +kernel
theorem d_X11_race_45 : decode cX11_race 45 = .ok (.iload 4, 2) := by decide +kernel
theorem d_X11_race_47 : decode cX11_race 47 = .ok (.aload_n 0, 1) := by decide +kernel
theorem d_X11_race_48 : decode cX11_race 48 = .ok (.getfield 32, 3) := by decide +kernel
theorem d_X11_race_51 : decode cX11_race 51 = .ok (.invokevirtual 218, 3) := by decide +kernel
theorem d_X11_race_54 : decode cX11_race 54 = .ok (.iload_n 2, 1) := by decide +kernel
theorem d_X11_race_55 : decode cX11_race 55 = .ok (.if_icmp .ne 10, 3) := by decide +kernel
theorem d_X11_race_58 : decode cX11_race 58 = .ok (.iload_n 3, 1) := by decide +kernel
theorem d_X11_race_59 : decode cX11_race 59 = .ok (.iconst 1, 1) := by decide +kernel
theorem d_X11_race_60 : decode cX11_race 60 = .ok (.iload 4, 2) := by decide +kernel
theorem d_X11_race_62 : decode cX11_race 62 = .ok (.ishl, 1) := by decide +kernel
theorem d_X11_race_63 : decode cX11_race 63 = .ok (.ior, 1) := by decide +kernel
theorem d_X11_race_64 : decode cX11_race 64 = .ok (.istore_n 3, 1) := by decide +kernel
theorem d_X11_race_65 : decode cX11_race 65 = .ok (.iinc 4 1, 3) := by decide +kernel
theorem d_X11_race_68 : decode cX11_race 68 = .ok (.goto (-45), 3) := by decide +kernel
theorem d_X11_race_71 : decode cX11_race 71 = .ok (.iload_n 3, 1) := by decide +kernel
theorem d_X11_race_72 : decode cX11_race 72 = .ok (.ireturn, 1) := by decide +kernel
theorem s_X11_race_j65_23 {G : Gl} (hG : G.1.stackTraces = false) {C : Cx} {n : Nat} {μ : Mem} {l1 : Int32} {l2 : Int32} {l3 : Int32} {l4 : Int32} {y : ((Int32 × Int32 × Mem) ⊕ (Int32 × Mem))} (hf : f_X11_race_j65_23 μ l1 l2 l3 l4 = some y) (hK : (∀ z', y = .inl z' → ∀ n, V G C F_X11_race 23 [some (.ref (G.2.1 + 0)), some (.int l1), some (.int l2), some (.int z'.1), some (.int z'.2.1)] [] (pic G z'.2.2) n 1 6) ∧ (∀ x', y = .inr x' → ∀ n, V G C F_X11_race 71 [none, none, none, some (.int x'.1), none] [] (pic G x'.2) n 1 6)) : V G C F_X11_race 65 [some (.ref (G.2.1 + 0)), some (.int l1), some (.int l2), some (.int l3), some (.int l4)] [] (pic G μ) n 1 6 := by
  unfold f_X11_race_j65_23 at hf
  refine V_iinc (v := (l4 + 1)) (ls' := [_, _, _, _, _]) d_X11_race_65 rfl (by rw [ic_1]) rfl ?_
  refine V_goto (tgt := 23) d_X11_race_68 (by decide) ?_
  refine V_less (ls' := [some _, some _, some _, some _, some _]) ⟨rfl, rfl, rfl, rfl, rfl, trivial⟩ ?_
  cases hf
  exact hK.1 _ rfl _
theorem s_X11_race_b23 {G : Gl} (hG : G.1.stackTraces = false) {C : Cx} {n : Nat} {μ : Mem} {l1 : Int32} {l2 : Int32} {l3 : Int32} {l4 : Int32} {y : ((Int32 × Int32 × Mem) ⊕ (Int32 × Mem))} (hf : f_X11_race_b23 μ l1 l2 l3 l4 = some y) (hK : (∀ z', y = .inl z' → ∀ n, V G C F_X11_race 23 [some (.ref (G.2.1 + 0)), some (.int l1), some (.int l2), some (.int z'.1), some (.int z'.2.1)] [] (pic G z'.2.2) n 1 6) ∧ (∀ x', y = .inr x' → ∀ n, V G C F_X11_race 71 [none, none, none, some (.int x'.1), none] [] (pic G x'.2) n 1 6)) : V G C F_X11_race 23 [some (.ref (G.2.1 + 0)), some (.int l1), some (.int l2), some (.int l3), some (.int l4)] [] (pic G μ) n 1 6 := by
  unfold f_X11_race_b23 at hf
  refine V_iload d_X11_race_23 rfl ?_
  refine V_aload_n d_X11_race_25 rfl rfl ?_
  refine B_get k_0 fl_RX11_19 d_X11_race_26 g_11_1 ?_
  refine B_get k_3 fl_RX11_291 d_X11_race_29 g_2_0 ?_
  refine V_icmp_ge (tgt := 71) d_X11_race_32 (by decide) (fun c32 => ?_) (fun c32 => ?_)
  · replace hf := iteT c32 hf
    refine V_less (ls' := [none, none, none, some _, none]) ⟨rfl, trivial⟩ ?_
    cases hf
    exact hK.2 _ rfl _
  · replace hf := iteF c32 hf
    refine V_iload d_X11_race_35 rfl ?_
    refine V_iload_n d_X11_race_37 rfl rfl ?_
    refine V_icmp_eq (tgt := 65) d_X11_race_38 (by decide) (fun c38 => ?_) (fun c38 => ?_)
    · replace hf := iteT c38 hf
      refine V_less (ls' := [some _, some _, some _, some _, some _]) ⟨rfl, rfl, rfl, rfl, rfl, trivial⟩ ?_
      exact s_X11_race_j65_23 hG hf hK
    · replace hf := iteF c38 hf
      refine V_aload_n d_X11_race_41 rfl rfl ?_
      refine B_get k_0 fl_RX11_19 d_X11_race_42 g_11_1 ?_
      refine V_iload d_X11_race_45 rfl ?_
      refine V_aload_n d_X11_race_47 rfl rfl ?_
      refine B_get k_0 fl_RX11_32 d_X11_race_48 g_11_4 ?_
      obtain ⟨q1, hq1, hf⟩ := ob hf
      refine B_callV1 (s_X2_walkOf hG L_3 W_48 hq1) k_3 clX2 m_X2_walkOf kv_RX11_218 d_X11_race_51 rfl (Nat.le_of_ble_eq_true rfl) ⟨rfl, rfl, Nat.le_of_ble_eq_true rfl, Nat.le_of_ble_eq_true rfl, Nat.le_of_ble_eq_true rfl⟩ (fun n => ?_)
      refine V_iload_n d_X11_race_54 rfl rfl ?_
      have hJj2 : ∀ j2 : Int32, j2 = (if q1.1 = l2 then ((l3 ||| (1 <<< (l4 &&& 31))) : Int32) else l3) → V G C F_X11_race 65 [some (.ref (G.2.1 + 0)), some (.int l1), some (.int l2), some (.int j2), some (.int l4)] [] (pic G q1.2) n 1 6 := by
        intro j2 ej2
        subst ej2
        refine V_iinc (v := (l4 + 1)) (ls' := [_, _, _, _, _]) d_X11_race_65 rfl (by rw [ic_1]) rfl ?_
        refine V_goto (tgt := 23) d_X11_race_68 (by decide) ?_
        refine V_less (ls' := [some _, some _, some _, some _, some _]) ⟨rfl, rfl, rfl, rfl, rfl, trivial⟩ ?_
        cases hf
        exact hK.1 _ rfl _
      refine V_icmp_ne (tgt := 65) d_X11_race_55 (by decide) (fun c55 => ?_) (fun c55 => ?_)
      · refine V_less (ls' := [some _, some _, some _, some _, some _]) ⟨rfl, rfl, rfl, rfl, rfl, trivial⟩ ?_
        exact hJj2 l3 (by rw [if_neg c55])
      · refine V_iload_n d_X11_race_58 rfl rfl ?_
        refine V_iconst (v := 1) d_X11_race_59 ic_1 ?_
        refine V_iload d_X11_race_60 rfl ?_
        refine V_ishl d_X11_race_62 ?_
        refine V_ior d_X11_race_63 ?_
        refine V_istore_n (ls' := [_, _, _, _, _]) d_X11_race_64 rfl rfl rfl ?_
        refine V_less (ls' := [some _, some _, some _, some _, some _]) ⟨rfl, rfl, rfl, rfl, rfl, trivial⟩ ?_
        exact hJj2 (l3 ||| (1 <<< (l4 &&& 31))) (by rw [if_pos c55])
theorem s_X11_race_j71 {G : Gl} (hG : G.1.stackTraces = false) {C : Cx} {n : Nat} {μ : Mem} {l3 : Int32} {r : ((Nat × Mem) ⊕ (Int32 × Mem))} (hf : f_X11_race_j71 μ l3 = some r) (hK : FinX G C F_X11_race (some .int) (Sum.map id (fun q => (some (.int q.1), q.2)) r)) : V G C F_X11_race 71 [none, none, none, some (.int l3), none] [] (pic G μ) n 1 6 := by
  unfold f_X11_race_j71 at hf
  refine V_iload_n d_X11_race_71 rfl rfl ?_
  cases hf
  exact R_iX hK d_X11_race_72 (Nat.le_of_ble_eq_true rfl) (Nat.le_of_ble_eq_true rfl)
theorem s_X11_race_l23 {G : Gl} (hG : G.1.stackTraces = false) {C : Cx} {n : Nat} {μ : Mem} {l1 : Int32} {l2 : Int32} {l3 : Int32} {l4 : Int32} {r : ((Nat × Mem) ⊕ (Int32 × Mem))} (hf : f_X11_race_l23 μ l1 l2 l3 l4 = some r) (hK : FinX G C F_X11_race (some .int) (Sum.map id (fun q => (some (.int q.1), q.2)) r)) : V G C F_X11_race 23 [some (.ref (G.2.1 + 0)), some (.int l1), some (.int l2), some (.int l3), some (.int l4)] [] (pic G μ) n 1 6 := by
  unfold f_X11_race_l23 at hf
  obtain ⟨t, hl, hf⟩ := ob hf
  refine loopV (P := fun z => ∀ n, V G C F_X11_race 23 [some (.ref (G.2.1 + 0)), some (.int l1), some (.int l2), some (.int z.1), some (.int z.2.1)] [] (pic G z.2.2) n 1 6) (t := t) ?_ _ _ hl n
  intro z y' hy hI hT n
  refine s_X11_race_b23 hG hy ⟨hI, fun x9 ex => ?_⟩
  have ex2 := hT x9 ex
  subst ex2
  intro n
  exact s_X11_race_j71 hG hf hK
theorem s_X11_race_e {G : Gl} (hG : G.1.stackTraces = false) {C : Cx} {n : Nat} {μ : Mem} {p1 : Int32} {r : ((Nat × Mem) ⊕ (Int32 × Mem))} (hf : f_X11_race μ p1 = some r) (hK : FinX G C F_X11_race (some .int) (Sum.map id (fun q => (some (.int q.1), q.2)) r)) : V G C F_X11_race 0 [some (.ref (G.2.1 + 0)), some (.int p1), none, none, none] [] (pic G μ) n 0 0 := by
  unfold f_X11_race at hf
  refine V_aload_n d_X11_race_0 rfl rfl ?_
  refine V_iload_n d_X11_race_1 rfl rfl ?_
  obtain ⟨q1, hq1, hf⟩ := ob hf
  cases q1 with
  | inl e9 =>
    obtain ⟨k9, μ9⟩ := e9
    refine B_callVXt (kc' := 1) (ks' := 6) (s_X11_needPerson hG hq1) k_0 clX11 m_X11_needPerson kv_RX11_149 d_X11_race_2 rfl (Nat.le_of_ble_eq_true rfl) ⟨rfl, rfl, Nat.le_of_ble_eq_true rfl, Nat.le_of_ble_eq_true rfl, Nat.le_of_ble_eq_true rfl⟩ (fun n => ?_)
    cases hf
    exact X_out hK rfl (Nat.le_of_ble_eq_true rfl) (Nat.le_of_ble_eq_true rfl)
  | inr v2 =>
    replace hf := elimR hf
    refine B_callVX0 (kc' := 1) (ks' := 6) (s_X11_needPerson hG hq1) k_0 clX11 m_X11_needPerson kv_RX11_149 d_X11_race_2 rfl (Nat.le_of_ble_eq_true rfl) ⟨rfl, rfl, Nat.le_of_ble_eq_true rfl, Nat.le_of_ble_eq_true rfl, Nat.le_of_ble_eq_true rfl⟩ (fun n => ?_)
    refine V_aload_n d_X11_race_5 rfl rfl ?_
    refine B_get k_0 fl_RX11_19 d_X11_race_6 g_11_1 ?_
    refine V_iload_n d_X11_race_9 rfl rfl ?_
    refine V_aload_n d_X11_race_10 rfl rfl ?_
    refine B_get k_0 fl_RX11_32 d_X11_race_11 g_11_4 ?_
    obtain ⟨q3, hq3, hf⟩ := ob hf
    refine B_callV1 (s_X2_walkOf hG L_3 W_48 hq3) k_3 clX2 m_X2_walkOf kv_RX11_218 d_X11_race_14 rfl (Nat.le_of_ble_eq_true rfl) ⟨rfl, rfl, Nat.le_of_ble_eq_true rfl, Nat.le_of_ble_eq_true rfl, Nat.le_of_ble_eq_true rfl⟩ (fun n => ?_)
    refine V_istore_n (ls' := [_, _, _, _, _]) d_X11_race_17 rfl rfl rfl ?_
    refine V_iconst (v := 0) d_X11_race_18 ic_0 ?_
    refine V_istore_n (ls' := [_, _, _, _, _]) d_X11_race_19 rfl rfl rfl ?_
    refine V_iconst (v := 0) d_X11_race_20 ic_0 ?_
    refine V_istore (ls' := [_, _, _, _, _]) d_X11_race_21 rfl rfl ?_
    refine V_less (ls' := [some _, some _, some _, some _, some _]) ⟨rfl, rfl, rfl, rfl, rfl, trivial⟩ ?_
    exact s_X11_race_l23 hG hf hK
theorem s_X11_race {G : Gl} (hG : G.1.stackTraces = false) {μ : Mem} {p1 : Int32} {r : ((Nat × Mem) ⊕ (Int32 × Mem))} (hf : f_X11_race μ p1 = some r) : Rx G yX11_race F_X11_race (.code yX11_race F_X11_race.2.1 F_X11_race.2.2.1 (some .int)) [.ref (G.2.1 + 0), .int p1] μ (Sum.map id (fun q => (some (.int q.1), q.2)) r) := fun n => Sd.of hG ⟨by decide +kernel, rfl, rfl⟩ rfl (Nat.le_of_ble_eq_true rfl) rfl (fun C hK => s_X11_race_e hG hf hK)
theorem d_X11_pairs_0 : decode cX11_pairs 0 = .ok (.iconst 0, 1) := by decide +kernel
theorem d_X11_pairs_1 : decode cX11_pairs 1 = .ok (.istore_n 1, 1) := by decide +kernel
theorem d_X11_pairs_2 : decode cX11_pairs 2 = .ok (.iconst 0, 1) := by decide +kernel
theorem d_X11_pairs_3 : decode cX11_pairs 3 = .ok (.istore_n 2, 1) := by decide +kernel
theorem d_X11_pairs_4 : decode cX11_pairs 4 = .ok (.iconst 0, 1) := by decide +kernel
theorem d_X11_pairs_5 : decode cX11_pairs 5 = .ok (.istore_n 3, 1) := by decide +kernel
theorem d_X11_pairs_6 : decode cX11_pairs 6 = .ok (.iload_n 3, 1) := by decide +kernel
theorem d_X11_pairs_7 : decode cX11_pairs 7 = .ok (.aload_n 0, 1) := by decide +kernel
theorem d_X11_pairs_8 : decode cX11_pairs 8 = .ok (.getfield 19, 3) := by decide +kernel
theorem d_X11_pairs_11 : decode cX11_pairs 11 = .ok (.getfield 291, 3) := by decide +kernel
theorem d_X11_pairs_14 : decode cX11_pairs 14 = .ok (.if_icmp .ge 40, 3) := by decide +kernel
theorem d_X11_pairs_17 : decode cX11_pairs 17 = .ok (.iconst 1, 1) := by decide +kernel
theorem d_X11_pairs_18 : decode cX11_pairs 18 = .ok (.aload_n 0, 1) := by decide +kernel
theorem d_X11_pairs_19 : decode cX11_pairs 19 = .ok (.getfield 19, 3) := by decide +kernel
theorem d_X11_pairs_22 : decode cX11_pairs 22 = .ok (.iload_n 3, 1) := by decide +kernel
theorem d_X11_pairs_23 : decode cX11_pairs 23 = .ok (.aload_n 0, 1) := by decide +kernel
theorem d_X11_pairs_24 : decode cX11_pairs 24 = .ok (.getfield 32, 3) := by decide +kernel
theorem d_X11_pairs_27 : decode cX11_pairs 27 = .ok (.invokevirtual 218, 3) := by decide +kernel
theorem d_X11_pairs_30 : decode cX11_pairs 30 = .ok (.ishl, 1) := by decide +kernel
theorem d_X11_pairs_31 : decode cX11_pairs 31 = .ok (.istore 4, 2) := by decide +kernel
theorem d_X11_pairs_33 : decode cX11_pairs 33 = .ok (.iload_n 2, 1) := by decide +kernel
theorem d_X11_pairs_34 : decode cX11_pairs 34 = .ok (.iload 4, 2) := by decide +kernel
theorem d_X11_pairs_36 : decode cX11_pairs 36 = .ok (.iand, 1) := by decide +kernel
theorem d_X11_pairs_37 : decode cX11_pairs 37 = .ok (.ifCond .eq 6, 3) := by decide +kernel
theorem d_X11_pairs_40 : decode cX11_pairs 40 = .ok (.iinc 1 1, 3) := by decide +kernel
theorem d_X11_pairs_43 : decode cX11_pairs 43 = .ok (.iload_n 2, 1) := by decide +kernel
theorem d_X11_pairs_44 : decode cX11_pairs 44 = .ok (.iload 4, 2) := by decide +kernel
theorem d_X11_pairs_46 : decode cX11_pairs 46 = .ok (.ixor, 1) := by decide +kernel
theorem d_X11_pairs_47 : decode cX11_pairs 47 = .ok (.istore_n 2, 1) := by decide +kernel
theorem d_X11_pairs_48 : decode cX11_pairs 48 = .ok (.iinc 3 1, 3) := by decide +kernel
theorem d_X11_pairs_51 : decode cX11_pairs 51 = .ok (.goto (-45), 3) := by decide +kernel
theorem d_X11_pairs_54 : decode cX11_pairs 54 = .ok (.iload_n 1, 1) := by decide +kernel
theorem d_X11_pairs_55 : decode cX11_pairs 55 = .ok (.ireturn, 1) := by decide +kernel
theorem s_X11_pairs_b6 {G : Gl} (hG : G.1.stackTraces = false) {C : Cx} {n : Nat} {μ : Mem} {l1 : Int32} {l2 : Int32} {l3 : Int32} {y : ((Int32 × Int32 × Int32 × Mem) ⊕ (Int32 × Mem))} (hf : f_X11_pairs_b6 μ l1 l2 l3 = some y) (hK : (∀ z', y = .inl z' → ∀ n, V G C F_X11_pairs 6 [some (.ref (G.2.1 + 0)), some (.int z'.1), some (.int z'.2.1), some (.int z'.2.2.1), none] [] (pic G z'.2.2.2) n 0 0) ∧ (∀ x', y = .inr x' → ∀ n, V G C F_X11_pairs 54 [none, some (.int x'.1), none, none, none] [] (pic G x'.2) n 0 0)) : V G C F_X11_pairs 6 [some (.ref (G.2.1 + 0)), some (.int l1), some (.int l2), some (.int l3), none] [] (pic G μ) n 0 0 := by
  unfold f_X11_pairs_b6 at hf
  refine V_iload_n d_X11_pairs_6 rfl rfl ?_
  refine V_aload_n d_X11_pairs_7 rfl rfl ?_
  refine B_get k_0 fl_RX11_19 d_X11_pairs_8 g_11_1 ?_
  refine B_get k_3 fl_RX11_291 d_X11_pairs_11 g_2_0 ?_
  refine V_icmp_ge (tgt := 54) d_X11_pairs_14 (by decide) (fun c14 => ?_) (fun c14 => ?_)
  · replace hf := iteT c14 hf
    refine V_less (ls' := [none, some _, none, none, none]) ⟨rfl, trivial⟩ ?_
    cases hf
    exact hK.2 _ rfl _
  · replace hf := iteF c14 hf
    refine V_iconst (v := 1) d_X11_pairs_17 ic_1 ?_
    refine V_aload_n d_X11_pairs_18 rfl rfl ?_
    refine B_get k_0 fl_RX11_19 d_X11_pairs_19 g_11_1 ?_
    refine V_iload_n d_X11_pairs_22 rfl rfl ?_
    refine V_aload_n d_X11_pairs_23 rfl rfl ?_
    refine B_get k_0 fl_RX11_32 d_X11_pairs_24 g_11_4 ?_
    obtain ⟨q1, hq1, hf⟩ := ob hf
    refine B_callV1 (s_X2_walkOf hG L_3 W_48 hq1) k_3 clX2 m_X2_walkOf kv_RX11_218 d_X11_pairs_27 rfl (Nat.le_of_ble_eq_true rfl) ⟨rfl, rfl, Nat.le_of_ble_eq_true rfl, Nat.le_of_ble_eq_true rfl, Nat.le_of_ble_eq_true rfl⟩ (fun n => ?_)
    refine V_ishl d_X11_pairs_30 ?_
    refine V_istore (ls' := [_, _, _, _, _]) d_X11_pairs_31 rfl rfl ?_
    refine V_iload_n d_X11_pairs_33 rfl rfl ?_
    refine V_iload d_X11_pairs_34 rfl ?_
    refine V_iand d_X11_pairs_36 ?_
    have hJj2 : ∀ j2 : Int32, j2 = (if (l2 &&& (1 <<< (q1.1 &&& 31))) = 0 then (l1 : Int32) else (l1 + 1)) → V G C F_X11_pairs 43 [some (.ref (G.2.1 + 0)), some (.int j2), some (.int l2), some (.int l3), some (.int (1 <<< (q1.1 &&& 31)))] [] (pic G q1.2) n 0 0 := by
      intro j2 ej2
      subst ej2
      refine V_iload_n d_X11_pairs_43 rfl rfl ?_
      refine V_iload d_X11_pairs_44 rfl ?_
      refine V_ixor d_X11_pairs_46 ?_
      refine V_istore_n (ls' := [_, _, _, _, _]) d_X11_pairs_47 rfl rfl rfl ?_
      refine V_iinc (v := (l3 + 1)) (ls' := [_, _, _, _, _]) d_X11_pairs_48 rfl (by rw [ic_1]) rfl ?_
      refine V_goto (tgt := 6) d_X11_pairs_51 (by decide) ?_
      refine V_less (ls' := [some _, some _, some _, some _, none]) ⟨rfl, rfl, rfl, rfl, trivial⟩ ?_
      cases hf
      exact hK.1 _ rfl _
    refine V_if_eq (tgt := 43) d_X11_pairs_37 (by decide) (fun c37 => ?_) (fun c37 => ?_)
    · refine V_less (ls' := [some _, some _, some _, some _, some _]) ⟨rfl, rfl, rfl, rfl, rfl, trivial⟩ ?_
      exact hJj2 l1 (by rw [if_pos c37])
    · refine V_iinc (v := (l1 + 1)) (ls' := [_, _, _, _, _]) d_X11_pairs_40 rfl (by rw [ic_1]) rfl ?_
      refine V_less (ls' := [some _, some _, some _, some _, some _]) ⟨rfl, rfl, rfl, rfl, rfl, trivial⟩ ?_
      exact hJj2 (l1 + 1) (by rw [if_neg c37])
theorem s_X11_pairs_j54 {G : Gl} (hG : G.1.stackTraces = false) {C : Cx} {n : Nat} {μ : Mem} {l1 : Int32} {r : (Int32 × Mem)} (hf : f_X11_pairs_j54 μ l1 = some r) (hK : FinR G C F_X11_pairs (some .int) (some (.int r.1)) r.2) : V G C F_X11_pairs 54 [none, some (.int l1), none, none, none] [] (pic G μ) n 0 0 := by
  unfold f_X11_pairs_j54 at hf
  refine V_iload_n d_X11_pairs_54 rfl rfl ?_
  cases hf
  exact R_i hK d_X11_pairs_55 (Nat.le_of_ble_eq_true rfl) (Nat.le_of_ble_eq_true rfl)
theorem s_X11_pairs_l6 {G : Gl} (hG : G.1.stackTraces = false) {C : Cx} {n : Nat} {μ : Mem} {l1 : Int32} {l2 : Int32} {l3 : Int32} {r : (Int32 × Mem)} (hf : f_X11_pairs_l6 μ l1 l2 l3 = some r) (hK : FinR G C F_X11_pairs (some .int) (some (.int r.1)) r.2) : V G C F_X11_pairs 6 [some (.ref (G.2.1 + 0)), some (.int l1), some (.int l2), some (.int l3), none] [] (pic G μ) n 0 0 := by
  unfold f_X11_pairs_l6 at hf
  obtain ⟨t, hl, hf⟩ := ob hf
  refine loopV (P := fun z => ∀ n, V G C F_X11_pairs 6 [some (.ref (G.2.1 + 0)), some (.int z.1), some (.int z.2.1), some (.int z.2.2.1), none] [] (pic G z.2.2.2) n 0 0) (t := t) ?_ _ _ hl n
  intro z y' hy hI hT n
  refine s_X11_pairs_b6 hG hy ⟨hI, fun x9 ex => ?_⟩
  have ex2 := hT x9 ex
  subst ex2
  intro n
  exact s_X11_pairs_j54 hG hf hK
theorem s_X11_pairs_e {G : Gl} (hG : G.1.stackTraces = false) {C : Cx} {n : Nat} {μ : Mem}  {r : (Int32 × Mem)} (hf : f_X11_pairs μ = some r) (hK : FinR G C F_X11_pairs (some .int) (some (.int r.1)) r.2) : V G C F_X11_pairs 0 [some (.ref (G.2.1 + 0)), none, none, none, none] [] (pic G μ) n 0 0 := by
  unfold f_X11_pairs at hf
  refine V_iconst (v := 0) d_X11_pairs_0 ic_0 ?_
  refine V_istore_n (ls' := [_, _, _, _, _]) d_X11_pairs_1 rfl rfl rfl ?_
  refine V_iconst (v := 0) d_X11_pairs_2 ic_0 ?_
  refine V_istore_n (ls' := [_, _, _, _, _]) d_X11_pairs_3 rfl rfl rfl ?_
  refine V_iconst (v := 0) d_X11_pairs_4 ic_0 ?_
  refine V_istore_n (ls' := [_, _, _, _, _]) d_X11_pairs_5 rfl rfl rfl ?_
  refine V_less (ls' := [some _, some _, some _, some _, none]) ⟨rfl, rfl, rfl, rfl, trivial⟩ ?_
  exact s_X11_pairs_l6 hG hf hK
theorem s_X11_pairs {G : Gl} (hG : G.1.stackTraces = false) {μ : Mem} {r : (Int32 × Mem)} (hf : f_X11_pairs μ = some r) : Rt G yX11_pairs F_X11_pairs (some .int) [.ref (G.2.1 + 0)] μ (some (.int r.1)) r.2 := fun n => Sd.of hG ⟨by decide +kernel, rfl, rfl⟩ rfl (Nat.le_of_ble_eq_true rfl) rfl (fun C hK => s_X11_pairs_e hG hf hK)
theorem d_X11_lends_0 : decode cX11_lends 0 = .ok (.iload_n 1, 1) := by decide +kernel
theorem d_X11_lends_1 : decode cX11_lends 1 = .ok (.iconst 1, 1) := by decide +kernel
theorem d_X11_lends_2 : decode cX11_lends 2 = .ok (.sipush 999, 3) := by decide +kernel
theorem d_X11_lends_5 : decode cX11_lends 5 = .ok (.invokestatic 237, 3) := by decide +kernel
theorem d_X11_lends_8 : decode cX11_lends 8 = .ok (.ifCond .eq 14, 3) := by decide +kernel
theorem d_X11_lends_11 : decode cX11_lends 11 = .ok (.new 113, 3) := by decide +kernel
theorem d_X11_lends_14 : decode cX11_lends 14 = .ok (.dup, 1) := by decide +kernel
theorem d_X11_lends_15 : decode cX11_lends 15 = .ok (.ldc_w 379, 3) := by decide +kernel
theorem d_X11_lends_18 : decode cX11_lends 18 = .ok (.invokespecial 117, 3) := by decide +kernel
theorem d_X11_lends_21 : decode cX11_lends 21 = .ok (.athrow, 1) := by decide +kernel
theorem d_X11_lends_22 : decode cX11_lends 22 = .ok (.aload_n 0, 1) := by decide +kernel
theorem d_X11_lends_23 : decode cX11_lends 23 = .ok (.getfield 19, 3) := by decide +kernel
theorem d_X11_lends_26 : decode cX11_lends 26 = .ok (.iconst 0, 1) := by decide +kernel
theorem d_X11_lends_27 : decode cX11_lends 27 = .ok (.invokevirtual 355, 3) := by decide +kernel
theorem d_X11_lends_30 : decode cX11_lends 30 = .ok (.istore_n 2, 1) := by decide +kernel
theorem d_X11_lends_31 : decode cX11_lends 31 = .ok (.iconst 0, 1) := by decide +kernel
theorem d_X11_lends_32 : decode cX11_lends 32 = .ok (.istore_n 3, 1) := by decide +kernel
theorem d_X11_lends_33 : decode cX11_lends 33 = .ok (.iconst 0, 1) := by decide +kernel
theorem d_X11_lends_34 : decode cX11_lends 34 = .ok (.istore 4, 2) := by decide +kernel
theorem d_X11_lends_36 : decode cX11_lends 36 = .ok (.iload 4, 2) := by decide +kernel
theorem d_X11_lends_38 : decode cX11_lends 38 = .ok (.aload_n 0, 1) := by decide +kernel
theorem d_X11_lends_39 : decode cX11_lends 39 = .ok (.getfield 19, 3) := by decide +kernel
theorem d_X11_lends_42 : decode cX11_lends 42 = .ok (.getfield 291, 3) := by decide +kernel
theorem d_X11_lends_45 : decode cX11_lends 45 = .ok (.if_icmp .ge 42, 3) := by decide +kernel
theorem d_X11_lends_48 : decode cX11_lends 48 = .ok (.aload_n 0, 1) := by decide +kernel
theorem d_X11_lends_49 : decode cX11_lends 49 = .ok (.getfield 19, 3) := by decide +kernel
theorem d_X11_lends_52 : decode cX11_lends 52 = .ok (.getfield 152, 3) := by decide +kernel
theorem d_X11_lends_55 : decode cX11_lends 55 = .ok (.iload 4, 2) := by decide +kernel
theorem d_X11_lends_57 : decode cX11_lends 57 = .ok (.iaload, 1) := by decide +kernel
theorem d_X11_lends_58 : decode cX11_lends 58 = .ok (.iload_n 1, 1) := by decide +kernel
theorem d_X11_lends_59 : decode cX11_lends 59 = .ok (.if_icmp .lt 22, 3) := by decide +kernel
theorem d_X11_lends_62 : decode cX11_lends 62 = .ok (.iload_n 2, 1) := by decide +kernel
theorem d_X11_lends_63 : decode cX11_lends 63 = .ok (.iload 4, 2) := by decide +kernel
theorem d_X11_lends_65 : decode cX11_lends 65 = .ok (.invokestatic 381, 3) := by decide +kernel
theorem d_X11_lends_68 : decode cX11_lends 68 = .ok (.iconst (-1), 1) := by decide +kernel
theorem d_X11_lends_69 : decode cX11_lends 69 = .ok (.ixor, 1) := by decide +kernel
theorem d_X11_lends_70 : decode cX11_lends 70 = .ok (.iand, 1) := by decide +kernel
theorem d_X11_lends_71 : decode cX11_lends 71 = .ok (.ifCond .eq 10, 3) := by decide +kernel
theorem d_X11_lends_74 : decode cX11_lends 74 = .ok (.iload_n 3, 1) := by decide +kernel
theorem d_X11_lends_75 : decode cX11_lends 75 = .ok (.iconst 1, 1) := by decide +kernel
theorem d_X11_lends_76 : decode cX11_lends 76 = .ok (.iload 4, 2) := by decide +kernel
theorem d_X11_lends_78 : decode cX11_lends 78 = .ok (.ishl, 1) := by decide +kernel
theorem d_X11_lends_79 : decode cX11_lends 79 = .ok (.ior, 1) := by decide +kernel
theorem d_X11_lends_80 : decode cX11_lends 80 = .ok (.istore_n 3, 1) := by decide +kernel
theorem d_X11_lends_81 : decode cX11_lends 81 = .ok (.iinc 4 1, 3) := by decide +kernel
theorem d_X11_lends_84 : decode cX11_lends 84 = .ok (.goto (-48), 3) := by decide +kernel
theorem d_X11_lends_87 : decode cX11_lends 87 = .ok (.iload_n 3, 1) := by decide +kernel
theorem d_X11_lends_88 : decode cX11_lends 88 = .ok (.ireturn, 1) := by decide +kernel
theorem s_X11_lends_j81_36 {G : Gl} (hG : G.1.stackTraces = false) {C : Cx} {n : Nat} {μ : Mem} {l1 : Int32} {l2 : Int32} {l3 : Int32} {l4 : Int32} {y : ((Int32 × Int32) ⊕ Int32)} (hf : f_X11_lends_j81_36 μ l1 l2 l3 l4 = some y) (hK : (∀ z', y = .inl z' → ∀ n, V G C F_X11_lends 36 [some (.ref (G.2.1 + 0)), some (.int l1), some (.int l2), some (.int z'.1), some (.int z'.2)] [] (pic G μ) n 1 6) ∧ (∀ x', y = .inr x' → ∀ n, V G C F_X11_lends 87 [none, none, none, some (.int x'), none] [] (pic G μ) n 1 6)) : V G C F_X11_lends 81 [some (.ref (G.2.1 + 0)), some (.int l1), some (.int l2), some (.int l3), some (.int l4)] [] (pic G μ) n 1 6 := by
  unfold f_X11_lends_j81_36 at hf
  refine V_iinc (v := (l4 + 1)) (ls' := [_, _, _, _, _]) d_X11_lends_81 rfl (by rw [ic_1]) rfl ?_
  refine V_goto (tgt := 36) d_X11_lends_84 (by decide) ?_
  refine V_less (ls' := [some _, some _, some _, some _, some _]) ⟨rfl, rfl, rfl, rfl, rfl, trivial⟩ ?_
  cases hf
  exact hK.1 _ rfl _
theorem s_X11_lends_b36 {G : Gl} (hG : G.1.stackTraces = false) {C : Cx} {n : Nat} {μ : Mem} {l1 : Int32} {l2 : Int32} {l3 : Int32} {l4 : Int32} {y : ((Int32 × Int32) ⊕ Int32)} (hf : f_X11_lends_b36 μ l1 l2 l3 l4 = some y) (hK : (∀ z', y = .inl z' → ∀ n, V G C F_X11_lends 36 [some (.ref (G.2.1 + 0)), some (.int l1), some (.int l2), some (.int z'.1), some (.int z'.2)] [] (pic G μ) n 1 6) ∧ (∀ x', y = .inr x' → ∀ n, V G C F_X11_lends 87 [none, none, none, some (.int x'), none] [] (pic G μ) n 1 6)) : V G C F_X11_lends 36 [some (.ref (G.2.1 + 0)), some (.int l1), some (.int l2), some (.int l3), some (.int l4)] [] (pic G μ) n 1 6 := by
  unfold f_X11_lends_b36 at hf
  refine V_iload d_X11_lends_36 rfl ?_
  refine V_aload_n d_X11_lends_38 rfl rfl ?_
  refine B_get k_0 fl_RX11_19 d_X11_lends_39 g_11_1 ?_
  refine B_get k_3 fl_RX11_291 d_X11_lends_42 g_2_0 ?_
  refine V_icmp_ge (tgt := 87) d_X11_lends_45 (by decide) (fun c45 => ?_) (fun c45 => ?_)
  · replace hf := iteT c45 hf
    refine V_less (ls' := [none, none, none, some _, none]) ⟨rfl, trivial⟩ ?_
    cases hf
    exact hK.2 _ rfl _
  · replace hf := iteF c45 hf
    refine V_aload_n d_X11_lends_48 rfl rfl ?_
    refine B_get k_0 fl_RX11_19 d_X11_lends_49 g_11_1 ?_
    refine B_get k_3 fl_RX11_152 d_X11_lends_52 g_2_6 ?_
    refine V_iload d_X11_lends_55 rfl ?_
    obtain ⟨t1, ht1, hf⟩ := ob hf
    refine B_iald k_4 ht1 d_X11_lends_57 ?_
    refine V_iload_n d_X11_lends_58 rfl rfl ?_
    refine V_icmp_lt (tgt := 81) d_X11_lends_59 (by decide) (fun c59 => ?_) (fun c59 => ?_)
    · replace hf := iteT c59 hf
      refine V_less (ls' := [some _, some _, some _, some _, some _]) ⟨rfl, rfl, rfl, rfl, rfl, trivial⟩ ?_
      exact s_X11_lends_j81_36 hG hf hK
    · replace hf := iteF c59 hf
      refine V_iload_n d_X11_lends_62 rfl rfl ?_
      refine V_iload d_X11_lends_63 rfl ?_
      obtain ⟨t2, ht2, hf⟩ := ob hf
      refine B_callS1 (s_X11_lacesOf hG ht2) m_X11_lacesOf ks_RX11_381 d_X11_lends_65 rfl (Nat.le_of_ble_eq_true rfl) ⟨rfl, rfl, Nat.le_of_ble_eq_true rfl, Nat.le_of_ble_eq_true rfl, Nat.le_of_ble_eq_true rfl⟩ (fun n => ?_)
      refine V_iconst (v := (-1)) d_X11_lends_68 ic_m1 ?_
      refine V_ixor d_X11_lends_69 ?_
      refine V_iand d_X11_lends_70 ?_
      have hJj3 : ∀ j3 : Int32, j3 = (if (l2 &&& (t2 ^^^ (-1))) = 0 then (l3 : Int32) else (l3 ||| (1 <<< (l4 &&& 31)))) → V G C F_X11_lends 81 [some (.ref (G.2.1 + 0)), some (.int l1), some (.int l2), some (.int j3), some (.int l4)] [] (pic G μ) n 1 6 := by
        intro j3 ej3
        subst ej3
        refine V_iinc (v := (l4 + 1)) (ls' := [_, _, _, _, _]) d_X11_lends_81 rfl (by rw [ic_1]) rfl ?_
        refine V_goto (tgt := 36) d_X11_lends_84 (by decide) ?_
        refine V_less (ls' := [some _, some _, some _, some _, some _]) ⟨rfl, rfl, rfl, rfl, rfl, trivial⟩ ?_
        cases hf
        exact hK.1 _ rfl _
      refine V_if_eq (tgt := 81) d_X11_lends_71 (by decide) (fun c71 => ?_) (fun c71 => ?_)
      · refine V_less (ls' := [some _, some _, some _, some _, some _]) ⟨rfl, rfl, rfl, rfl, rfl, trivial⟩ ?_
        exact hJj3 l3 (by rw [if_pos c71])
      · refine V_iload_n d_X11_lends_74 rfl rfl ?_
        refine V_iconst (v := 1) d_X11_lends_75 ic_1 ?_
        refine V_iload d_X11_lends_76 rfl ?_
        refine V_ishl d_X11_lends_78 ?_
        refine V_ior d_X11_lends_79 ?_
        refine V_istore_n (ls' := [_, _, _, _, _]) d_X11_lends_80 rfl rfl rfl ?_
        refine V_less (ls' := [some _, some _, some _, some _, some _]) ⟨rfl, rfl, rfl, rfl, rfl, trivial⟩ ?_
        exact hJj3 (l3 ||| (1 <<< (l4 &&& 31))) (by rw [if_neg c71])
theorem s_X11_lends_j87 {G : Gl} (hG : G.1.stackTraces = false) {C : Cx} {n : Nat} {μ : Mem} {l3 : Int32} {r : ((Nat × Mem) ⊕ (Int32 × Mem))} (hf : f_X11_lends_j87 μ l3 = some r) (hK : FinX G C F_X11_lends (some .int) (Sum.map id (fun q => (some (.int q.1), q.2)) r)) : V G C F_X11_lends 87 [none, none, none, some (.int l3), none] [] (pic G μ) n 1 6 := by
  unfold f_X11_lends_j87 at hf
  refine V_iload_n d_X11_lends_87 rfl rfl ?_
  cases hf
  exact R_iX hK d_X11_lends_88 (Nat.le_of_ble_eq_true rfl) (Nat.le_of_ble_eq_true rfl)
theorem s_X11_lends_l36 {G : Gl} (hG : G.1.stackTraces = false) {C : Cx} {n : Nat} {μ : Mem} {l1 : Int32} {l2 : Int32} {l3 : Int32} {l4 : Int32} {r : ((Nat × Mem) ⊕ (Int32 × Mem))} (hf : f_X11_lends_l36 μ l1 l2 l3 l4 = some r) (hK : FinX G C F_X11_lends (some .int) (Sum.map id (fun q => (some (.int q.1), q.2)) r)) : V G C F_X11_lends 36 [some (.ref (G.2.1 + 0)), some (.int l1), some (.int l2), some (.int l3), some (.int l4)] [] (pic G μ) n 1 6 := by
  unfold f_X11_lends_l36 at hf
  obtain ⟨t, hl, hf⟩ := ob hf
  refine loopV (P := fun z => ∀ n, V G C F_X11_lends 36 [some (.ref (G.2.1 + 0)), some (.int l1), some (.int l2), some (.int z.1), some (.int z.2)] [] (pic G μ) n 1 6) (t := t) ?_ _ _ hl n
  intro z y' hy hI hT n
  refine s_X11_lends_b36 hG hy ⟨hI, fun x9 ex => ?_⟩
  have ex2 := hT x9 ex
  subst ex2
  intro n
  exact s_X11_lends_j87 hG hf hK
theorem s_X11_lends_e {G : Gl} (hG : G.1.stackTraces = false) {C : Cx} {n : Nat} {μ : Mem} {p1 : Int32} {r : ((Nat × Mem) ⊕ (Int32 × Mem))} (hf : f_X11_lends μ p1 = some r) (hK : FinX G C F_X11_lends (some .int) (Sum.map id (fun q => (some (.int q.1), q.2)) r)) : V G C F_X11_lends 0 [some (.ref (G.2.1 + 0)), some (.int p1), none, none, none] [] (pic G μ) n 0 0 := by
  unfold f_X11_lends at hf
  refine V_iload_n d_X11_lends_0 rfl rfl ?_
  refine V_iconst (v := 1) d_X11_lends_1 ic_1 ?_
  refine V_sipush (v := 999) d_X11_lends_2 sp_999 ?_
  obtain ⟨t1, ht1, hf⟩ := ob hf
  refine B_callS1 (s_X11_isOutside hG ht1) m_X11_isOutside ks_RX11_237 d_X11_lends_5 rfl (Nat.le_of_ble_eq_true rfl) ⟨rfl, rfl, Nat.le_of_ble_eq_true rfl, Nat.le_of_ble_eq_true rfl, Nat.le_of_ble_eq_true rfl⟩ (fun n => ?_)
  refine V_if_eq (tgt := 22) d_X11_lends_8 (by decide) (fun c8 => ?_) (fun c8 => ?_)
  · replace hf := iteF (b2i_nt (b2i_eq0 c8)) hf
    refine V_aload_n d_X11_lends_22 rfl rfl ?_
    refine B_get k_0 fl_RX11_19 d_X11_lends_23 g_11_1 ?_
    refine V_iconst (v := 0) d_X11_lends_26 ic_0 ?_
    obtain ⟨t2, ht2, hf⟩ := ob hf
    refine B_callV1 (s_X2_lacesThatAre hG L_3 ht2) k_3 clX2 m_X2_lacesThatAre kv_RX11_355 d_X11_lends_27 rfl (Nat.le_of_ble_eq_true rfl) ⟨rfl, rfl, Nat.le_of_ble_eq_true rfl, Nat.le_of_ble_eq_true rfl, Nat.le_of_ble_eq_true rfl⟩ (fun n => ?_)
    refine V_istore_n (ls' := [_, _, _, _, _]) d_X11_lends_30 rfl rfl rfl ?_
    refine V_iconst (v := 0) d_X11_lends_31 ic_0 ?_
    refine V_istore_n (ls' := [_, _, _, _, _]) d_X11_lends_32 rfl rfl rfl ?_
    refine V_iconst (v := 0) d_X11_lends_33 ic_0 ?_
    refine V_istore (ls' := [_, _, _, _, _]) d_X11_lends_34 rfl rfl ?_
    refine V_widen (k2 := 1) (s2 := 6) (by decide) (by decide) ?_
    refine V_less (ls' := [some _, some _, some _, some _, some _]) ⟨rfl, rfl, rfl, rfl, rfl, trivial⟩ ?_
    exact s_X11_lends_l36 hG hf hK
  · replace hf := iteT (b2i_ne0 c8) hf
    cases hf
    exact B_throwW (k0 := 1) hK tk_RX11_113_379_117 rfl rfl d_X11_lends_11 d_X11_lends_14 d_X11_lends_15 d_X11_lends_18 d_X11_lends_21 (Nat.le_of_ble_eq_true rfl) (Nat.le_of_ble_eq_true rfl) (Nat.le_of_ble_eq_true rfl)
theorem s_X11_lends {G : Gl} (hG : G.1.stackTraces = false) {μ : Mem} {p1 : Int32} {r : ((Nat × Mem) ⊕ (Int32 × Mem))} (hf : f_X11_lends μ p1 = some r) : Rx G yX11_lends F_X11_lends (.code yX11_lends F_X11_lends.2.1 F_X11_lends.2.2.1 (some .int)) [.ref (G.2.1 + 0), .int p1] μ (Sum.map id (fun q => (some (.int q.1), q.2)) r) := fun n => Sd.of hG ⟨by decide +kernel, rfl, rfl⟩ rfl (Nat.le_of_ble_eq_true rfl) rfl (fun C hK => s_X11_lends_e hG hf hK)
theorem d_X11_loose_0 : decode cX11_loose 0 = .ok (.aload_n 0, 1) := by decide +kernel
theorem d_X11_loose_1 : decode cX11_loose 1 = .ok (.iload_n 1, 1) := by decide +kernel
theorem d_X11_loose_2 : decode cX11_loose 2 = .ok (.invokevirtual 149, 3) := by decide +kernel
theorem d_X11_loose_5 : decode cX11_loose 5 = .ok (.iconst (-1), 1) := by decide +kernel
theorem d_X11_loose_6 : decode cX11_loose 6 = .ok (.istore_n 2, 1) := by decide +kernel
theorem d_X11_loose_7 : decode cX11_loose 7 = .ok (.iconst 2, 1) := by decide +kernel
theorem d_X11_loose_8 : decode cX11_loose 8 = .ok (.iload_n 1, 1) := by decide +kernel
theorem d_X11_loose_9 : decode cX11_loose 9 = .ok (.imul, 1) := by decide +kernel
theorem d_X11_loose_10 : decode cX11_loose 10 = .ok (.istore_n 3, 1) := by decide +kernel
theorem d_X11_loose_11 : decode cX11_loose 11 = .ok (.iload_n 3, 1) := by decide +kernel
theorem d_X11_loose_12 : decode cX11_loose 12 = .ok (.iconst 2, 1) := by decide +kernel
theorem d_X11_loose_13 : decode cX11_loose 13 = .ok (.iload_n 1, 1) := by decide +kernel
theorem d_X11_loose_14 : decode cX11_loose 14 = .ok (.imul, 1) := by decide +kernel
theorem d_X11_loose_15 : decode cX11_loose 15 = .ok (.iconst 1, 1) := by decide +kernel
theorem d_X11_loose_16 : decode cX11_loose 16 = .ok (.iadd, 1) := by decide +kernel
theorem d_X11_loose_17 : decode cX11_loose 17 = .ok (.if_icmp .gt 48, 3) := by decide +kernel
theorem d_X11_loose_20 : decode cX11_loose 20 = .ok (.aload_n 0, 1) := by decide +kernel
theorem d_X11_loose_21 : decode cX11_loose 21 = .ok (.getfield 19, 3) := by decide +kernel
theorem d_X11_loose_24 : decode cX11_loose 24 = .ok (.iload_n 3, 1) := by decide +kernel
theorem d_X11_loose_25 : decode cX11_loose 25 = .ok (.invokevirtual 227, 3) := by decide +kernel
theorem d_X11_loose_28 : decode cX11_loose 28 = .ok (.ifCond .eq 31, 3) := by decide +kernel
theorem d_X11_loose_31 : decode cX11_loose 31 = .ok (.iload_n 2, 1) := by decide +kernel
theorem d_X11_loose_32 : decode cX11_loose 32 = .ok (.iconst (-1), 1) := by decide +kernel
theorem d_X11_loose_33 : decode cX11_loose 33 = .ok (.if_icmp .eq 16, 3) := by decide +kernel
theorem d_X11_loose_36 : decode cX11_loose 36 = .ok (.aload_n 0, 1) := by decide +kernel
theorem d_X11_loose_37 : decode cX11_loose 37 = .ok (.getfield 19, 3) := by decide +kernel
theorem d_X11_loose_40 : decode cX11_loose 40 = .ok (.getfield 198, 3) := by decide +kernel
theorem d_X11_loose_43 : decode cX11_loose 43 = .ok (.iload_n 3, 1) := by decide +kernel
theorem d_X11_loose_44 : decode cX11_loose 44 = .ok (.iaload, 1) := by decide +kernel
theorem d_X11_loose_45 : decode cX11_loose 45 = .ok (.iload_n 2, 1) := by decide +kernel
theorem d_X11_loose_46 : decode cX11_loose 46 = .ok (.if_icmp .ge 13, 3) := by decide +kernel
theorem d_X11_loose_49 : decode cX11_loose 49 = .ok (.aload_n 0, 1) := by decide +kernel
theorem d_X11_loose_50 : decode cX11_loose 50 = .ok (.getfield 19, 3) := by decide +kernel
theorem d_X11_loose_53 : decode cX11_loose 53 = .ok (.getfield 198, 3) := by decide +kernel
theorem d_X11_loose_56 : decode cX11_loose 56 = .ok (.iload_n 3, 1) := by decide +kernel
theorem d_X11_loose_57 : decode cX11_loose 57 = .ok (.iaload, 1) := by decide +kernel
theorem d_X11_loose_58 : decode cX11_loose 58 = .ok (.istore_n 2, 1) := by decide +kernel
theorem d_X11_loose_59 : decode cX11_loose 59 = .ok (.iinc 3 1, 3) := by decide +kernel
theorem d_X11_loose_62 : decode cX11_loose 62 = .ok (.goto (-51), 3) := by decide +kernel
theorem d_X11_loose_65 : decode cX11_loose 65 = .ok (.iload_n 2, 1) := by decide +kernel
theorem d_X11_loose_66 : decode cX11_loose 66 = .ok (.ireturn, 1) := by decide +kernel
theorem s_X11_loose_j59_11 {G : Gl} (hG : G.1.stackTraces = false) {C : Cx} {n : Nat} {μ : Mem} {l1 : Int32} {l2 : Int32} {l3 : Int32} {y : ((Int32 × Int32) ⊕ Int32)} (hf : f_X11_loose_j59_11 μ l1 l2 l3 = some y) (hK : (∀ z', y = .inl z' → ∀ n, V G C F_X11_loose 11 [some (.ref (G.2.1 + 0)), some (.int l1), some (.int z'.1), some (.int z'.2)] [] (pic G μ) n 1 6) ∧ (∀ x', y = .inr x' → ∀ n, V G C F_X11_loose 65 [none, none, some (.int x'), none] [] (pic G μ) n 1 6)) : V G C F_X11_loose 59 [some (.ref (G.2.1 + 0)), some (.int l1), some (.int l2), some (.int l3)] [] (pic G μ) n 1 6 := by
  unfold f_X11_loose_j59_11 at hf
  refine V_iinc (v := (l3 + 1)) (ls' := [_, _, _, _]) d_X11_loose_59 rfl (by rw [ic_1]) rfl ?_
  refine V_goto (tgt := 11) d_X11_loose_62 (by decide) ?_
  refine V_less (ls' := [some _, some _, some _, some _]) ⟨rfl, rfl, rfl, rfl, trivial⟩ ?_
  cases hf
  exact hK.1 _ rfl _
theorem s_X11_loose_j49_11 {G : Gl} (hG : G.1.stackTraces = false) {C : Cx} {n : Nat} {μ : Mem} {l1 : Int32} {l3 : Int32} {y : ((Int32 × Int32) ⊕ Int32)} (hf : f_X11_loose_j49_11 μ l1 l3 = some y) (hK : (∀ z', y = .inl z' → ∀ n, V G C F_X11_loose 11 [some (.ref (G.2.1 + 0)), some (.int l1), some (.int z'.1), some (.int z'.2)] [] (pic G μ) n 1 6) ∧ (∀ x', y = .inr x' → ∀ n, V G C F_X11_loose 65 [none, none, some (.int x'), none] [] (pic G μ) n 1 6)) : V G C F_X11_loose 49 [some (.ref (G.2.1 + 0)), some (.int l1), none, some (.int l3)] [] (pic G μ) n 1 6 := by
  unfold f_X11_loose_j49_11 at hf
  refine V_aload_n d_X11_loose_49 rfl rfl ?_
  refine B_get k_0 fl_RX11_19 d_X11_loose_50 g_11_1 ?_
  refine B_get k_3 fl_RX11_198 d_X11_loose_53 g_2_13 ?_
  refine V_iload_n d_X11_loose_56 rfl rfl ?_
  obtain ⟨t1, ht1, hf⟩ := ob hf
  refine B_iald k_11 ht1 d_X11_loose_57 ?_
  refine V_istore_n (ls' := [_, _, _, _]) d_X11_loose_58 rfl rfl rfl ?_
  refine V_less (ls' := [some _, some _, some _, some _]) ⟨rfl, rfl, rfl, rfl, trivial⟩ ?_
  exact s_X11_loose_j59_11 hG hf hK
theorem s_X11_loose_b11 {G : Gl} (hG : G.1.stackTraces = false) {C : Cx} {n : Nat} {μ : Mem} {l1 : Int32} {l2 : Int32} {l3 : Int32} {y : ((Int32 × Int32) ⊕ Int32)} (hf : f_X11_loose_b11 μ l1 l2 l3 = some y) (hK : (∀ z', y = .inl z' → ∀ n, V G C F_X11_loose 11 [some (.ref (G.2.1 + 0)), some (.int l1), some (.int z'.1), some (.int z'.2)] [] (pic G μ) n 1 6) ∧ (∀ x', y = .inr x' → ∀ n, V G C F_X11_loose 65 [none, none, some (.int x'), none] [] (pic G μ) n 1 6)) : V G C F_X11_loose 11 [some (.ref (G.2.1 + 0)), some (.int l1), some (.int l2), some (.int l3)] [] (pic G μ) n 1 6 := by
  unfold f_X11_loose_b11 at hf
  refine V_iload_n d_X11_loose_11 rfl rfl ?_
  refine V_iconst (v := 2) d_X11_loose_12 ic_2 ?_
  refine V_iload_n d_X11_loose_13 rfl rfl ?_
  refine V_imul d_X11_loose_14 ?_
  refine V_iconst (v := 1) d_X11_loose_15 ic_1 ?_
  refine V_iadd d_X11_loose_16 ?_
  refine V_icmp_gt (tgt := 65) d_X11_loose_17 (by decide) (fun c17 => ?_) (fun c17 => ?_)
  · replace hf := iteT c17 hf
    refine V_less (ls' := [none, none, some _, none]) ⟨rfl, trivial⟩ ?_
    cases hf
    exact hK.2 _ rfl _
  · replace hf := iteF c17 hf
    refine V_aload_n d_X11_loose_20 rfl rfl ?_
    refine B_get k_0 fl_RX11_19 d_X11_loose_21 g_11_1 ?_
    refine V_iload_n d_X11_loose_24 rfl rfl ?_
    obtain ⟨t1, ht1, hf⟩ := ob hf
    refine B_callV1 (s_X2_isPledged hG L_3 ht1) k_3 clX2 m_X2_isPledged kv_RX11_227 d_X11_loose_25 rfl (Nat.le_of_ble_eq_true rfl) ⟨rfl, rfl, Nat.le_of_ble_eq_true rfl, Nat.le_of_ble_eq_true rfl, Nat.le_of_ble_eq_true rfl⟩ (fun n => ?_)
    refine V_if_eq (tgt := 59) d_X11_loose_28 (by decide) (fun c28 => ?_) (fun c28 => ?_)
    · replace hf := iteF (b2i_nt (b2i_eq0 c28)) hf
      refine V_less (ls' := [some _, some _, some _, some _]) ⟨rfl, rfl, rfl, rfl, trivial⟩ ?_
      exact s_X11_loose_j59_11 hG hf hK
    · replace hf := iteT (b2i_ne0 c28) hf
      refine V_iload_n d_X11_loose_31 rfl rfl ?_
      refine V_iconst (v := (-1)) d_X11_loose_32 ic_m1 ?_
      refine V_icmp_eq (tgt := 49) d_X11_loose_33 (by decide) (fun c33 => ?_) (fun c33 => ?_)
      · replace hf := iteT c33 hf
        refine V_less (ls' := [some _, some _, none, some _]) ⟨rfl, rfl, rfl, trivial⟩ ?_
        exact s_X11_loose_j49_11 hG hf hK
      · replace hf := iteF c33 hf
        refine V_aload_n d_X11_loose_36 rfl rfl ?_
        refine B_get k_0 fl_RX11_19 d_X11_loose_37 g_11_1 ?_
        refine B_get k_3 fl_RX11_198 d_X11_loose_40 g_2_13 ?_
        refine V_iload_n d_X11_loose_43 rfl rfl ?_
        obtain ⟨t2, ht2, hf⟩ := ob hf
        refine B_iald k_11 ht2 d_X11_loose_44 ?_
        refine V_iload_n d_X11_loose_45 rfl rfl ?_
        refine V_icmp_ge (tgt := 59) d_X11_loose_46 (by decide) (fun c46 => ?_) (fun c46 => ?_)
        · replace hf := iteT c46 hf
          refine V_less (ls' := [some _, some _, some _, some _]) ⟨rfl, rfl, rfl, rfl, trivial⟩ ?_
          exact s_X11_loose_j59_11 hG hf hK
        · replace hf := iteF c46 hf
          refine V_less (ls' := [some _, some _, none, some _]) ⟨rfl, rfl, rfl, trivial⟩ ?_
          exact s_X11_loose_j49_11 hG hf hK
theorem s_X11_loose_j65 {G : Gl} (hG : G.1.stackTraces = false) {C : Cx} {n : Nat} {μ : Mem} {l2 : Int32} {r : ((Nat × Mem) ⊕ (Int32 × Mem))} (hf : f_X11_loose_j65 μ l2 = some r) (hK : FinX G C F_X11_loose (some .int) (Sum.map id (fun q => (some (.int q.1), q.2)) r)) : V G C F_X11_loose 65 [none, none, some (.int l2), none] [] (pic G μ) n 1 6 := by
  unfold f_X11_loose_j65 at hf
  refine V_iload_n d_X11_loose_65 rfl rfl ?_
  cases hf
  exact R_iX hK d_X11_loose_66 (Nat.le_of_ble_eq_true rfl) (Nat.le_of_ble_eq_true rfl)
theorem s_X11_loose_l11 {G : Gl} (hG : G.1.stackTraces = false) {C : Cx} {n : Nat} {μ : Mem} {l1 : Int32} {l2 : Int32} {l3 : Int32} {r : ((Nat × Mem) ⊕ (Int32 × Mem))} (hf : f_X11_loose_l11 μ l1 l2 l3 = some r) (hK : FinX G C F_X11_loose (some .int) (Sum.map id (fun q => (some (.int q.1), q.2)) r)) : V G C F_X11_loose 11 [some (.ref (G.2.1 + 0)), some (.int l1), some (.int l2), some (.int l3)] [] (pic G μ) n 1 6 := by
  unfold f_X11_loose_l11 at hf
  obtain ⟨t, hl, hf⟩ := ob hf
  refine loopV (P := fun z => ∀ n, V G C F_X11_loose 11 [some (.ref (G.2.1 + 0)), some (.int l1), some (.int z.1), some (.int z.2)] [] (pic G μ) n 1 6) (t := t) ?_ _ _ hl n
  intro z y' hy hI hT n
  refine s_X11_loose_b11 hG hy ⟨hI, fun x9 ex => ?_⟩
  have ex2 := hT x9 ex
  subst ex2
  intro n
  exact s_X11_loose_j65 hG hf hK
theorem s_X11_loose_e {G : Gl} (hG : G.1.stackTraces = false) {C : Cx} {n : Nat} {μ : Mem} {p1 : Int32} {r : ((Nat × Mem) ⊕ (Int32 × Mem))} (hf : f_X11_loose μ p1 = some r) (hK : FinX G C F_X11_loose (some .int) (Sum.map id (fun q => (some (.int q.1), q.2)) r)) : V G C F_X11_loose 0 [some (.ref (G.2.1 + 0)), some (.int p1), none, none] [] (pic G μ) n 0 0 := by
  unfold f_X11_loose at hf
  refine V_aload_n d_X11_loose_0 rfl rfl ?_
  refine V_iload_n d_X11_loose_1 rfl rfl ?_
  obtain ⟨q1, hq1, hf⟩ := ob hf
  cases q1 with
  | inl e9 =>
    obtain ⟨k9, μ9⟩ := e9
    refine B_callVXt (kc' := 1) (ks' := 6) (s_X11_needPerson hG hq1) k_0 clX11 m_X11_needPerson kv_RX11_149 d_X11_loose_2 rfl (Nat.le_of_ble_eq_true rfl) ⟨rfl, rfl, Nat.le_of_ble_eq_true rfl, Nat.le_of_ble_eq_true rfl, Nat.le_of_ble_eq_true rfl⟩ (fun n => ?_)
    cases hf
    exact X_out hK rfl (Nat.le_of_ble_eq_true rfl) (Nat.le_of_ble_eq_true rfl)
  | inr v2 =>
    replace hf := elimR hf
    refine B_callVX0 (kc' := 1) (ks' := 6) (s_X11_needPerson hG hq1) k_0 clX11 m_X11_needPerson kv_RX11_149 d_X11_loose_2 rfl (Nat.le_of_ble_eq_true rfl) ⟨rfl, rfl, Nat.le_of_ble_eq_true rfl, Nat.le_of_ble_eq_true rfl, Nat.le_of_ble_eq_true rfl⟩ (fun n => ?_)
    refine V_iconst (v := (-1)) d_X11_loose_5 ic_m1 ?_
    refine V_istore_n (ls' := [_, _, _, _]) d_X11_loose_6 rfl rfl rfl ?_
    refine V_iconst (v := 2) d_X11_loose_7 ic_2 ?_
    refine V_iload_n d_X11_loose_8 rfl rfl ?_
    refine V_imul d_X11_loose_9 ?_
    refine V_istore_n (ls' := [_, _, _, _]) d_X11_loose_10 rfl rfl rfl ?_
    refine V_less (ls' := [some _, some _, some _, some _]) ⟨rfl, rfl, rfl, rfl, trivial⟩ ?_
    exact s_X11_loose_l11 hG hf hK
theorem s_X11_loose {G : Gl} (hG : G.1.stackTraces = false) {μ : Mem} {p1 : Int32} {r : ((Nat × Mem) ⊕ (Int32 × Mem))} (hf : f_X11_loose μ p1 = some r) : Rx G yX11_loose F_X11_loose (.code yX11_loose F_X11_loose.2.1 F_X11_loose.2.2.1 (some .int)) [.ref (G.2.1 + 0), .int p1] μ (Sum.map id (fun q => (some (.int q.1), q.2)) r) := fun n => Sd.of hG ⟨by decide +kernel, rfl, rfl⟩ rfl (Nat.le_of_ble_eq_true rfl) rfl (fun C hK => s_X11_loose_e hG hf hK)
theorem d_X11_rail_0 : decode cX11_rail 0 = .ok (.aload_n 0, 1) := by decide +kernel
theorem d_X11_rail_1 : decode cX11_rail 1 = .ok (.getfield 19, 3) := by decide +kernel
theorem d_X11_rail_4 : decode cX11_rail 4 = .ok (.iconst 2, 1) := by decide +kernel
theorem d_X11_rail_5 : decode cX11_rail 5 = .ok (.invokevirtual 355, 3) := by decide +kernel
theorem d_X11_rail_8 : decode cX11_rail 8 = .ok (.ireturn, 1) := by decide +kernel
theorem s_X11_rail_e {G : Gl} (hG : G.1.stackTraces = false) {C : Cx} {n : Nat} {μ : Mem}  {r : Int32} (hf : f_X11_rail μ = some r) (hK : FinR G C F_X11_rail (some .int) (some (.int r)) μ) : V G C F_X11_rail 0 [some (.ref (G.2.1 + 0))] [] (pic G μ) n 0 0 := by
  unfold f_X11_rail at hf
  refine V_aload_n d_X11_rail_0 rfl rfl ?_
  refine B_get k_0 fl_RX11_19 d_X11_rail_1 g_11_1 ?_
  refine V_iconst (v := 2) d_X11_rail_4 ic_2 ?_
  obtain ⟨t1, ht1, hf⟩ := ob hf
  refine B_callV1 (s_X2_lacesThatAre hG L_3 ht1) k_3 clX2 m_X2_lacesThatAre kv_RX11_355 d_X11_rail_5 rfl (Nat.le_of_ble_eq_true rfl) ⟨rfl, rfl, Nat.le_of_ble_eq_true rfl, Nat.le_of_ble_eq_true rfl, Nat.le_of_ble_eq_true rfl⟩ (fun n => ?_)
  cases hf
  exact R_i hK d_X11_rail_8 (Nat.le_of_ble_eq_true rfl) (Nat.le_of_ble_eq_true rfl)
theorem s_X11_rail {G : Gl} (hG : G.1.stackTraces = false) {μ : Mem} {r : Int32} (hf : f_X11_rail μ = some r) : Rt G yX11_rail F_X11_rail (some .int) [.ref (G.2.1 + 0)] μ (some (.int r)) μ := fun n => Sd.of hG ⟨by decide +kernel, rfl, rfl⟩ rfl (Nat.le_of_ble_eq_true rfl) rfl (fun C hK => s_X11_rail_e hG hf hK)
theorem d_X11_trial_0 : decode cX11_trial 0 = .ok (.aload_n 0, 1) := by decide +kernel
theorem d_X11_trial_1 : decode cX11_trial 1 = .ok (.iload_n 1, 1) := by decide +kernel
theorem d_X11_trial_2 : decode cX11_trial 2 = .ok (.invokevirtual 323, 3) := by decide +kernel
theorem d_X11_trial_5 : decode cX11_trial 5 = .ok (.aload_n 0, 1) := by decide +kernel
theorem d_X11_trial_6 : decode cX11_trial 6 = .ok (.getfield 23, 3) := by decide +kernel
theorem d_X11_trial_9 : decode cX11_trial 9 = .ok (.aload_n 0, 1) := by decide +kernel
theorem d_X11_trial_10 : decode cX11_trial 10 = .ok (.getfield 19, 3) := by decide +kernel
theorem d_X11_trial_13 : decode cX11_trial 13 = .ok (.invokevirtual 102, 3) := by decide +kernel
theorem d_X11_trial_16 : decode cX11_trial 16 = .ok (.aload_n 0, 1) := by decide +kernel
theorem d_X11_trial_17 : decode cX11_trial 17 = .ok (.getfield 23, 3) := by decide +kernel
theorem d_X11_trial_20 : decode cX11_trial 20 = .ok (.iload_n 1, 1) := by decide +kernel
theorem d_X11_trial_21 : decode cX11_trial 21 = .ok (.aload_n 0, 1) := by decide +kernel
theorem d_X11_trial_22 : decode cX11_trial 22 = .ok (.getfield 32, 3) := by decide +kernel
theorem d_X11_trial_25 : decode cX11_trial 25 = .ok (.iconst 1, 1) := by decide +kernel
theorem d_X11_trial_26 : decode cX11_trial 26 = .ok (.invokevirtual 287, 3) := by decide +kernel
theorem d_X11_trial_29 : decode cX11_trial 29 = .ok (.istore_n 3, 1) := by decide +kernel
theorem d_X11_trial_30 : decode cX11_trial 30 = .ok (.iload_n 2, 1) := by decide +kernel
theorem d_X11_trial_31 : decode cX11_trial 31 = .ok (.ifCond .eq 14, 3) := by decide +kernel
theorem d_X11_trial_34 : decode cX11_trial 34 = .ok (.aload_n 0, 1) := by decide +kernel
theorem d_X11_trial_35 : decode cX11_trial 35 = .ok (.getfield 23, 3) := by decide +kernel
theorem d_X11_trial_38 : decode cX11_trial 38 = .ok (.iconst 2, 1) := by decide +kernel
theorem d_X11_trial_39 : decode cX11_trial 39 = .ok (.invokevirtual 355, 3) := by decide +kernel
theorem d_X11_trial_42 : decode cX11_trial 42 = .ok (.goto 4, 3) := by decide +kernel
theorem d_X11_trial_45 : decode cX11_trial 45 = .ok (.iload_n 3, 1) := by decide +kernel
theorem d_X11_trial_46 : decode cX11_trial 46 = .ok (.ireturn, 1) := by decide +kernel
theorem s_X11_trial_j46 {G : Gl} (hG : G.1.stackTraces = false) {C : Cx} {n : Nat} {μ : Mem} {k0 : Int32} {r : ((Nat × Mem) ⊕ (Int32 × Mem))} (hf : f_X11_trial_j46 μ k0 = some r) (hK : FinX G C F_X11_trial (some .int) (Sum.map id (fun q => (some (.int q.1), q.2)) r)) : V G C F_X11_trial 46 [none, none, none, none] [.int k0] (pic G μ) n 1 6 := by
  unfold f_X11_trial_j46 at hf
  cases hf
  exact R_iX hK d_X11_trial_46 (Nat.le_of_ble_eq_true rfl) (Nat.le_of_ble_eq_true rfl)
theorem s_X11_trial_e {G : Gl} (hG : G.1.stackTraces = false) {C : Cx} {n : Nat} {μ : Mem} {p1 : Int32} {p2 : Bool} {r : ((Nat × Mem) ⊕ (Int32 × Mem))} (hf : f_X11_trial μ p1 p2 = some r) (hK : FinX G C F_X11_trial (some .int) (Sum.map id (fun q => (some (.int q.1), q.2)) r)) : V G C F_X11_trial 0 [some (.ref (G.2.1 + 0)), some (.int p1), some (.int (b2i p2)), none] [] (pic G μ) n 0 0 := by
  unfold f_X11_trial at hf
  refine V_aload_n d_X11_trial_0 rfl rfl ?_
  refine V_iload_n d_X11_trial_1 rfl rfl ?_
  obtain ⟨q1, hq1, hf⟩ := ob hf
  cases q1 with
  | inl e9 =>
    obtain ⟨k9, μ9⟩ := e9
    refine B_callVXt (kc' := 1) (ks' := 6) (s_X11_needAhead hG hq1) k_0 clX11 m_X11_needAhead kv_RX11_323 d_X11_trial_2 rfl (Nat.le_of_ble_eq_true rfl) ⟨rfl, rfl, Nat.le_of_ble_eq_true rfl, Nat.le_of_ble_eq_true rfl, Nat.le_of_ble_eq_true rfl⟩ (fun n => ?_)
    cases hf
    exact X_out hK rfl (Nat.le_of_ble_eq_true rfl) (Nat.le_of_ble_eq_true rfl)
  | inr v2 =>
    replace hf := elimR hf
    refine B_callVX0 (kc' := 1) (ks' := 6) (s_X11_needAhead hG hq1) k_0 clX11 m_X11_needAhead kv_RX11_323 d_X11_trial_2 rfl (Nat.le_of_ble_eq_true rfl) ⟨rfl, rfl, Nat.le_of_ble_eq_true rfl, Nat.le_of_ble_eq_true rfl, Nat.le_of_ble_eq_true rfl⟩ (fun n => ?_)
    refine V_aload_n d_X11_trial_5 rfl rfl ?_
    refine B_get k_0 fl_RX11_23 d_X11_trial_6 g_11_2 ?_
    refine V_aload_n d_X11_trial_9 rfl rfl ?_
    refine B_get k_0 fl_RX11_19 d_X11_trial_10 g_11_1 ?_
    obtain ⟨q3, hq3, hf⟩ := ob hf
    refine B_callV0 (s_X2_copyFrom hG L_18 L_3 hq3) k_18 clX2 m_X2_copyFrom kv_RX11_102 d_X11_trial_13 rfl (Nat.le_of_ble_eq_true rfl) ⟨rfl, rfl, Nat.le_of_ble_eq_true rfl, Nat.le_of_ble_eq_true rfl, Nat.le_of_ble_eq_true rfl⟩ (fun n => ?_)
    refine V_aload_n d_X11_trial_16 rfl rfl ?_
    refine B_get k_0 fl_RX11_23 d_X11_trial_17 g_11_2 ?_
    refine V_iload_n d_X11_trial_20 rfl rfl ?_
    refine V_aload_n d_X11_trial_21 rfl rfl ?_
    refine B_get k_0 fl_RX11_32 d_X11_trial_22 g_11_4 ?_
    refine V_iconst (v := 1) d_X11_trial_25 ic_1 ?_
    obtain ⟨q4, hq4, hf⟩ := ob hf
    refine B_callV1 (s_X2_liveOn hG L_18 W_48 hq4) k_18 clX2 m_X2_liveOn kv_RX11_287 d_X11_trial_26 rfl (Nat.le_of_ble_eq_true rfl) ⟨rfl, rfl, Nat.le_of_ble_eq_true rfl, Nat.le_of_ble_eq_true rfl, Nat.le_of_ble_eq_true rfl⟩ (fun n => ?_)
    refine V_istore_n (ls' := [_, _, _, _]) d_X11_trial_29 rfl rfl rfl ?_
    refine V_iload_n d_X11_trial_30 rfl rfl ?_
    refine V_if_eq (tgt := 45) d_X11_trial_31 (by decide) (fun c31 => ?_) (fun c31 => ?_)
    · replace hf := iteF (b2i_nt (b2i_eq0 c31)) hf
      refine V_iload_n d_X11_trial_45 rfl rfl ?_
      refine V_less (ls' := [none, none, none, none]) trivial ?_
      exact s_X11_trial_j46 hG hf hK
    · replace hf := iteT (b2i_ne0 c31) hf
      refine V_aload_n d_X11_trial_34 rfl rfl ?_
      refine B_get k_0 fl_RX11_23 d_X11_trial_35 g_11_2 ?_
      refine V_iconst (v := 2) d_X11_trial_38 ic_2 ?_
      obtain ⟨t5, ht5, hf⟩ := ob hf
      refine B_callV1 (s_X2_lacesThatAre hG L_18 ht5) k_18 clX2 m_X2_lacesThatAre kv_RX11_355 d_X11_trial_39 rfl (Nat.le_of_ble_eq_true rfl) ⟨rfl, rfl, Nat.le_of_ble_eq_true rfl, Nat.le_of_ble_eq_true rfl, Nat.le_of_ble_eq_true rfl⟩ (fun n => ?_)
      refine V_goto (tgt := 46) d_X11_trial_42 (by decide) ?_
      refine V_less (ls' := [none, none, none, none]) trivial ?_
      exact s_X11_trial_j46 hG hf hK
theorem s_X11_trial {G : Gl} (hG : G.1.stackTraces = false) {μ : Mem} {p1 : Int32} {p2 : Bool} {r : ((Nat × Mem) ⊕ (Int32 × Mem))} (hf : f_X11_trial μ p1 p2 = some r) : Rx G yX11_trial F_X11_trial (.code yX11_trial F_X11_trial.2.1 F_X11_trial.2.2.1 (some .int)) [.ref (G.2.1 + 0), .int p1, .int (b2i p2)] μ (Sum.map id (fun q => (some (.int q.1), q.2)) r) := fun n => Sd.of hG ⟨by decide +kernel, rfl, rfl⟩ rfl (Nat.le_of_ble_eq_true rfl) rfl (fun C hK => s_X11_trial_e hG hf hK)
theorem d_X11_span_0 : decode cX11_span 0 = .ok (.aload_n 0, 1) := by decide +kernel
theorem d_X11_span_1 : decode cX11_span 1 = .ok (.iload_n 1, 1) := by decide +kernel
theorem d_X11_span_2 : decode cX11_span 2 = .ok (.invokevirtual 323, 3) := by decide +kernel
theorem d_X11_span_5 : decode cX11_span 5 = .ok (.sipush 360, 3) := by decide +kernel
theorem d_X11_span_8 : decode cX11_span 8 = .ok (.istore_n 3, 1) := by decide +kernel
theorem d_X11_span_9 : decode cX11_span 9 = .ok (.iconst 0, 1) := by decide +kernel
theorem d_X11_span_10 : decode cX11_span 10 = .ok (.istore 4, 2) := by decide +kernel
theorem d_X11_span_12 : decode cX11_span 12 = .ok (.iconst 1, 1) := by decide +kernel
theorem d_X11_span_13 : decode cX11_span 13 = .ok (.istore 5, 2) := by decide +kernel
theorem d_X11_span_15 : decode cX11_span 15 = .ok (.iload 5, 2) := by decide +kernel
theorem d_X11_span_17 : decode cX11_span 17 = .ok (.bipush 6, 2) := by decide +kernel
theorem d_X11_span_19 : decode cX11_span 19 = .ok (.if_icmp .gt 60, 3) := by decide +kernel
theorem d_X11_span_22 : decode cX11_span 22 = .ok (.aload_n 0, 1) := by decide +kernel
theorem d_X11_span_23 : decode cX11_span 23 = .ok (.getfield 23, 3) := by decide +kernel
theorem d_X11_span_26 : decode cX11_span 26 = .ok (.aload_n 0, 1) := by decide +kernel
theorem d_X11_span_27 : decode cX11_span 27 = .ok (.getfield 19, 3) := by decide +kernel
theorem d_X11_span_30 : decode cX11_span 30 = .ok (.invokevirtual 102, 3) := by decide +kernel
theorem d_X11_span_33 : decode cX11_span 33 = .ok (.aload_n 0, 1) := by decide +kernel
theorem d_X11_span_34 : decode cX11_span 34 = .ok (.getfield 23, 3) := by decide +kernel
theorem d_X11_span_37 : decode cX11_span 37 = .ok (.iload 5, 2) := by decide +kernel
theorem d_X11_span_39 : decode cX11_span 39 = .ok (.putfield 384, 3) := by decide +kernel
theorem d_X11_span_42 : decode cX11_span 42 = .ok (.aload_n 0, 1) := by decide +kernel
theorem d_X11_span_43 : decode cX11_span 43 = .ok (.getfield 23, 3) := by decide +kernel
theorem d_X11_span_46 : decode cX11_span 46 = .ok (.iload_n 1, 1) := by decide +kernel
theorem d_X11_span_47 : decode cX11_span 47 = .ok (.aload_n 0, 1) := by decide +kernel
theorem d_X11_span_48 : decode cX11_span 48 = .ok (.getfield 32, 3) := by decide +kernel
theorem d_X11_span_51 : decode cX11_span 51 = .ok (.iconst 1, 1) := by decide +kernel
theorem d_X11_span_52 : decode cX11_span 52 = .ok (.invokevirtual 287, 3) := by decide +kernel
theorem d_X11_span_55 : decode cX11_span 55 = .ok (.istore 6, 2) := by decide +kernel
theorem d_X11_span_57 : decode cX11_span 57 = .ok (.iload_n 3, 1) := by decide +kernel
theorem d_X11_span_58 : decode cX11_span 58 = .ok (.iload 6, 2) := by decide +kernel
theorem d_X11_span_60 : decode cX11_span 60 = .ok (.invokestatic 387, 3) := by decide +kernel
theorem d_X11_span_63 : decode cX11_span 63 = .ok (.istore_n 3, 1) := by decide +kernel
theorem d_X11_span_64 : decode cX11_span 64 = .ok (.iload 4, 2) := by decide +kernel
theorem d_X11_span_66 : decode cX11_span 66 = .ok (.iload 6, 2) := by decide +kernel
theorem d_X11_span_68 : decode cX11_span 68 = .ok (.invokestatic 392, 3) := by decide +kernel
theorem d_X11_span_71 : decode cX11_span 71 = .ok (.istore 4, 2) := by decide +kernel
theorem d_X11_span_73 : decode cX11_span 73 = .ok (.iinc 5 1, 3) := by decide +kernel
theorem d_X11_span_76 : decode cX11_span 76 = .ok (.goto (-61), 3) := by decide +kernel
theorem d_X11_span_79 : decode cX11_span 79 = .ok (.iload_n 2, 1) := by decide +kernel
theorem d_X11_span_80 : decode cX11_span 80 = .ok (.ifCond .eq 8, 3) := by decide +kernel
theorem d_X11_span_83 : decode cX11_span 83 = .ok (.iload 4, 2) := by decide +kernel
theorem d_X11_span_85 : decode cX11_span 85 = .ok (.goto 4, 3) := by decide +kernel
theorem d_X11_span_88 : decode cX11_span 88 = .ok (.iload_n 3, 1) := by decide +kernel
theorem d_X11_span_89 : decode cX11_span 89 = .ok (.ireturn, 1) := by decide +kernel
theorem s_X11_span_b15 {G : Gl} (hG : G.1.stackTraces = false) {C : Cx} {n : Nat} {μ : Mem} {l1 : Int32} {l2 : Bool} {l3 : Int32} {l4 : Int32} {l5 : Int32} {y : ((Int32 × Int32 × Int32 × Mem) ⊕ (Int32 × Int32 × Mem))} (hf : f_X11_span_b15 μ l1 l2 l3 l4 l5 = some y) (hK : (∀ z', y = .inl z' → ∀ n, V G C F_X11_span 15 [some (.ref (G.2.1 + 0)), some (.int l1), some (.int (b2i l2)), some (.int z'.1), some (.int z'.2.1), some (.int z'.2.2.1), none] [] (pic G z'.2.2.2) n 1 6) ∧ (∀ x', y = .inr x' → ∀ n, V G C F_X11_span 79 [none, none, some (.int (b2i l2)), some (.int x'.1), some (.int x'.2.1), none, none] [] (pic G x'.2.2) n 1 6)) : V G C F_X11_span 15 [some (.ref (G.2.1 + 0)), some (.int l1), some (.int (b2i l2)), some (.int l3), some (.int l4), some (.int l5), none] [] (pic G μ) n 1 6 := by
  unfold f_X11_span_b15 at hf
  refine V_iload d_X11_span_15 rfl ?_
  refine V_bipush (v := 6) d_X11_span_17 bp_6 ?_
  refine V_icmp_gt (tgt := 79) d_X11_span_19 (by decide) (fun c19 => ?_) (fun c19 => ?_)
  · replace hf := iteT c19 hf
    refine V_less (ls' := [none, none, some _, some _, some _, none, none]) ⟨rfl, rfl, rfl, trivial⟩ ?_
    cases hf
    exact hK.2 _ rfl _
  · replace hf := iteF c19 hf
    refine V_aload_n d_X11_span_22 rfl rfl ?_
    refine B_get k_0 fl_RX11_23 d_X11_span_23 g_11_2 ?_
    refine V_aload_n d_X11_span_26 rfl rfl ?_
    refine B_get k_0 fl_RX11_19 d_X11_span_27 g_11_1 ?_
    obtain ⟨q1, hq1, hf⟩ := ob hf
    refine B_callV0 (s_X2_copyFrom hG L_18 L_3 hq1) k_18 clX2 m_X2_copyFrom kv_RX11_102 d_X11_span_30 rfl (Nat.le_of_ble_eq_true rfl) ⟨rfl, rfl, Nat.le_of_ble_eq_true rfl, Nat.le_of_ble_eq_true rfl, Nat.le_of_ble_eq_true rfl⟩ (fun n => ?_)
    refine V_aload_n d_X11_span_33 rfl rfl ?_
    refine B_get k_0 fl_RX11_23 d_X11_span_34 g_11_2 ?_
    refine V_iload d_X11_span_37 rfl ?_
    refine B_putI k_18 fl_RX11_384 pt_2_4 (Nat.le_of_ble_eq_true rfl) p_2_4 d_X11_span_39 ?_
    refine V_aload_n d_X11_span_42 rfl rfl ?_
    refine B_get k_0 fl_RX11_23 d_X11_span_43 g_11_2 ?_
    refine V_iload_n d_X11_span_46 rfl rfl ?_
    refine V_aload_n d_X11_span_47 rfl rfl ?_
    refine B_get k_0 fl_RX11_32 d_X11_span_48 g_11_4 ?_
    refine V_iconst (v := 1) d_X11_span_51 ic_1 ?_
    obtain ⟨q2, hq2, hf⟩ := ob hf
    refine B_callV1 (s_X2_liveOn hG L_18 W_48 hq2) k_18 clX2 m_X2_liveOn kv_RX11_287 d_X11_span_52 rfl (Nat.le_of_ble_eq_true rfl) ⟨rfl, rfl, Nat.le_of_ble_eq_true rfl, Nat.le_of_ble_eq_true rfl, Nat.le_of_ble_eq_true rfl⟩ (fun n => ?_)
    refine V_istore (ls' := [_, _, _, _, _, _, _]) d_X11_span_55 rfl rfl ?_
    refine V_iload_n d_X11_span_57 rfl rfl ?_
    refine V_iload d_X11_span_58 rfl ?_
    obtain ⟨t3, ht3, hf⟩ := ob hf
    refine B_callS1 (s_J9_min_7cf53 hG ht3) m_J9_min_7cf53 ks_RX11_387 d_X11_span_60 rfl (Nat.le_of_ble_eq_true rfl) ⟨rfl, rfl, Nat.le_of_ble_eq_true rfl, Nat.le_of_ble_eq_true rfl, Nat.le_of_ble_eq_true rfl⟩ (fun n => ?_)
    refine V_istore_n (ls' := [_, _, _, _, _, _, _]) d_X11_span_63 rfl rfl rfl ?_
    refine V_iload d_X11_span_64 rfl ?_
    refine V_iload d_X11_span_66 rfl ?_
    obtain ⟨t4, ht4, hf⟩ := ob hf
    refine B_callS1 (s_J9_max_7cf53 hG ht4) m_J9_max_7cf53 ks_RX11_392 d_X11_span_68 rfl (Nat.le_of_ble_eq_true rfl) ⟨rfl, rfl, Nat.le_of_ble_eq_true rfl, Nat.le_of_ble_eq_true rfl, Nat.le_of_ble_eq_true rfl⟩ (fun n => ?_)
    refine V_istore (ls' := [_, _, _, _, _, _, _]) d_X11_span_71 rfl rfl ?_
    refine V_iinc (v := (l5 + 1)) (ls' := [_, _, _, _, _, _, _]) d_X11_span_73 rfl (by rw [ic_1]) rfl ?_
    refine V_goto (tgt := 15) d_X11_span_76 (by decide) ?_
    refine V_less (ls' := [some _, some _, some _, some _, some _, some _, none]) ⟨rfl, rfl, rfl, rfl, rfl, rfl, trivial⟩ ?_
    cases hf
    exact hK.1 _ rfl _
theorem s_X11_span_j79 {G : Gl} (hG : G.1.stackTraces = false) {C : Cx} {n : Nat} {μ : Mem} {l2 : Bool} {l3 : Int32} {l4 : Int32} {r : ((Nat × Mem) ⊕ (Int32 × Mem))} (hf : f_X11_span_j79 μ l2 l3 l4 = some r) (hK : FinX G C F_X11_span (some .int) (Sum.map id (fun q => (some (.int q.1), q.2)) r)) : V G C F_X11_span 79 [none, none, some (.int (b2i l2)), some (.int l3), some (.int l4), none, none] [] (pic G μ) n 1 6 := by
  unfold f_X11_span_j79 at hf
  refine V_iload_n d_X11_span_79 rfl rfl ?_
  have hJj1 : ∀ j1 : Int32, j1 = (if l2 = true then (l4 : Int32) else l3) → V G C F_X11_span 89 [none, none, none, none, none, none, none] [.int j1] (pic G μ) n 1 6 := by
    intro j1 ej1
    subst ej1
    cases hf
    exact R_iX hK d_X11_span_89 (Nat.le_of_ble_eq_true rfl) (Nat.le_of_ble_eq_true rfl)
  refine V_if_eq (tgt := 88) d_X11_span_80 (by decide) (fun c80 => ?_) (fun c80 => ?_)
  · refine V_iload_n d_X11_span_88 rfl rfl ?_
    refine V_less (ls' := [none, none, none, none, none, none, none]) trivial ?_
    exact hJj1 l3 (by rw [if_neg (b2i_nt (b2i_eq0 c80))])
  · refine V_iload d_X11_span_83 rfl ?_
    refine V_goto (tgt := 89) d_X11_span_85 (by decide) ?_
    refine V_less (ls' := [none, none, none, none, none, none, none]) trivial ?_
    exact hJj1 l4 (by rw [if_pos (b2i_ne0 c80)])
theorem s_X11_span_l15 {G : Gl} (hG : G.1.stackTraces = false) {C : Cx} {n : Nat} {μ : Mem} {l1 : Int32} {l2 : Bool} {l3 : Int32} {l4 : Int32} {l5 : Int32} {r : ((Nat × Mem) ⊕ (Int32 × Mem))} (hf : f_X11_span_l15 μ l1 l2 l3 l4 l5 = some r) (hK : FinX G C F_X11_span (some .int) (Sum.map id (fun q => (some (.int q.1), q.2)) r)) : V G C F_X11_span 15 [some (.ref (G.2.1 + 0)), some (.int l1), some (.int (b2i l2)), some (.int l3), some (.int l4), some (.int l5), none] [] (pic G μ) n 1 6 := by
  unfold f_X11_span_l15 at hf
  obtain ⟨t, hl, hf⟩ := ob hf
  refine loopV (P := fun z => ∀ n, V G C F_X11_span 15 [some (.ref (G.2.1 + 0)), some (.int l1), some (.int (b2i l2)), some (.int z.1), some (.int z.2.1), some (.int z.2.2.1), none] [] (pic G z.2.2.2) n 1 6) (t := t) ?_ _ _ hl n
  intro z y' hy hI hT n
  refine s_X11_span_b15 hG hy ⟨hI, fun x9 ex => ?_⟩
  have ex2 := hT x9 ex
  subst ex2
  intro n
  exact s_X11_span_j79 hG hf hK
theorem s_X11_span_e {G : Gl} (hG : G.1.stackTraces = false) {C : Cx} {n : Nat} {μ : Mem} {p1 : Int32} {p2 : Bool} {r : ((Nat × Mem) ⊕ (Int32 × Mem))} (hf : f_X11_span μ p1 p2 = some r) (hK : FinX G C F_X11_span (some .int) (Sum.map id (fun q => (some (.int q.1), q.2)) r)) : V G C F_X11_span 0 [some (.ref (G.2.1 + 0)), some (.int p1), some (.int (b2i p2)), none, none, none, none] [] (pic G μ) n 0 0 := by
  unfold f_X11_span at hf
  refine V_aload_n d_X11_span_0 rfl rfl ?_
  refine V_iload_n d_X11_span_1 rfl rfl ?_
  obtain ⟨q1, hq1, hf⟩ := ob hf
  cases q1 with
  | inl e9 =>
    obtain ⟨k9, μ9⟩ := e9
    refine B_callVXt (kc' := 1) (ks' := 6) (s_X11_needAhead hG hq1) k_0 clX11 m_X11_needAhead kv_RX11_323 d_X11_span_2 rfl (Nat.le_of_ble_eq_true rfl) ⟨rfl, rfl, Nat.le_of_ble_eq_true rfl, Nat.le_of_ble_eq_true rfl, Nat.le_of_ble_eq_true rfl⟩ (fun n => ?_)
    cases hf
    exact X_out hK rfl (Nat.le_of_ble_eq_true rfl) (Nat.le_of_ble_eq_true rfl)
  | inr v2 =>
    replace hf := elimR hf
    refine B_callVX0 (kc' := 1) (ks' := 6) (s_X11_needAhead hG hq1) k_0 clX11 m_X11_needAhead kv_RX11_323 d_X11_span_2 rfl (Nat.le_of_ble_eq_true rfl) ⟨rfl, rfl, Nat.le_of_ble_eq_true rfl, Nat.le_of_ble_eq_true rfl, Nat.le_of_ble_eq_true rfl⟩ (fun n => ?_)
    refine V_sipush (v := 360) d_X11_span_5 sp_360 ?_
    refine V_istore_n (ls' := [_, _, _, _, _, _, _]) d_X11_span_8 rfl rfl rfl ?_
    refine V_iconst (v := 0) d_X11_span_9 ic_0 ?_
    refine V_istore (ls' := [_, _, _, _, _, _, _]) d_X11_span_10 rfl rfl ?_
    refine V_iconst (v := 1) d_X11_span_12 ic_1 ?_
    refine V_istore (ls' := [_, _, _, _, _, _, _]) d_X11_span_13 rfl rfl ?_
    refine V_less (ls' := [some _, some _, some _, some _, some _, some _, none]) ⟨rfl, rfl, rfl, rfl, rfl, rfl, trivial⟩ ?_
    exact s_X11_span_l15 hG hf hK
theorem s_X11_span {G : Gl} (hG : G.1.stackTraces = false) {μ : Mem} {p1 : Int32} {p2 : Bool} {r : ((Nat × Mem) ⊕ (Int32 × Mem))} (hf : f_X11_span μ p1 p2 = some r) : Rx G yX11_span F_X11_span (.code yX11_span F_X11_span.2.1 F_X11_span.2.2.1 (some .int)) [.ref (G.2.1 + 0), .int p1, .int (b2i p2)] μ (Sum.map id (fun q => (some (.int q.1), q.2)) r) := fun n => Sd.of hG ⟨by decide +kernel, rfl, rfl⟩ rfl (Nat.le_of_ble_eq_true rfl) rfl (fun C hK => s_X11_span_e hG hf hK)
theorem d_X11_led_0 : decode cX11_led 0 = .ok (.aload_n 0, 1) := by decide +kernel
theorem d_X11_led_1 : decode cX11_led 1 = .ok (.iload_n 1, 1) := by decide +kernel
theorem d_X11_led_2 : decode cX11_led 2 = .ok (.invokevirtual 189, 3) := by decide +kernel
theorem d_X11_led_5 : decode cX11_led 5 = .ok (.iload_n 2, 1) := by decide +kernel
theorem d_X11_led_6 : decode cX11_led 6 = .ok (.ifCond .eq 17, 3) := by decide +kernel
theorem d_X11_led_9 : decode cX11_led 9 = .ok (.aload_n 0, 1) := by decide +kernel
theorem d_X11_led_10 : decode cX11_led 10 = .ok (.getfield 19, 3) := by decide +kernel
theorem d_X11_led_13 : decode cX11_led 13 = .ok (.getfield 259, 3) := by decide +kernel
theorem d_X11_led_16 : decode cX11_led 16 = .ok (.iload_n 1, 1) := by decide +kernel
theorem d_X11_led_17 : decode cX11_led 17 = .ok (.invokevirtual 395, 3) := by decide +kernel
theorem d_X11_led_20 : decode cX11_led 20 = .ok (.goto 14, 3) := by decide +kernel
theorem d_X11_led_23 : decode cX11_led 23 = .ok (.aload_n 0, 1) := by decide +kernel
theorem d_X11_led_24 : decode cX11_led 24 = .ok (.getfield 19, 3) := by decide +kernel
theorem d_X11_led_27 : decode cX11_led 27 = .ok (.getfield 259, 3) := by decide +kernel
theorem d_X11_led_30 : decode cX11_led 30 = .ok (.iload_n 1, 1) := by decide +kernel
theorem d_X11_led_31 : decode cX11_led 31 = .ok (.invokevirtual 398, 3) := by decide +kernel
theorem d_X11_led_34 : decode cX11_led 34 = .ok (.ireturn, 1) := by decide +kernel
theorem s_X11_led_j34 {G : Gl} (hG : G.1.stackTraces = false) {C : Cx} {n : Nat} {μ : Mem} {k0 : Int32} {r : ((Nat × Mem) ⊕ (Int32 × Mem))} (hf : f_X11_led_j34 μ k0 = some r) (hK : FinX G C F_X11_led (some .int) (Sum.map id (fun q => (some (.int q.1), q.2)) r)) : V G C F_X11_led 34 [none, none, none] [.int k0] (pic G μ) n 1 6 := by
  unfold f_X11_led_j34 at hf
  cases hf
  exact R_iX hK d_X11_led_34 (Nat.le_of_ble_eq_true rfl) (Nat.le_of_ble_eq_true rfl)
theorem s_X11_led_e {G : Gl} (hG : G.1.stackTraces = false) {C : Cx} {n : Nat} {μ : Mem} {p1 : Int32} {p2 : Bool} {r : ((Nat × Mem) ⊕ (Int32 × Mem))} (hf : f_X11_led μ p1 p2 = some r) (hK : FinX G C F_X11_led (some .int) (Sum.map id (fun q => (some (.int q.1), q.2)) r)) : V G C F_X11_led 0 [some (.ref (G.2.1 + 0)), some (.int p1), some (.int (b2i p2))] [] (pic G μ) n 0 0 := by
  unfold f_X11_led at hf
  refine V_aload_n d_X11_led_0 rfl rfl ?_
  refine V_iload_n d_X11_led_1 rfl rfl ?_
  obtain ⟨q1, hq1, hf⟩ := ob hf
  cases q1 with
  | inl e9 =>
    obtain ⟨k9, μ9⟩ := e9
    refine B_callVXt (kc' := 1) (ks' := 6) (s_X11_needLace hG hq1) k_0 clX11 m_X11_needLace kv_RX11_189 d_X11_led_2 rfl (Nat.le_of_ble_eq_true rfl) ⟨rfl, rfl, Nat.le_of_ble_eq_true rfl, Nat.le_of_ble_eq_true rfl, Nat.le_of_ble_eq_true rfl⟩ (fun n => ?_)
    cases hf
    exact X_out hK rfl (Nat.le_of_ble_eq_true rfl) (Nat.le_of_ble_eq_true rfl)
  | inr v2 =>
    replace hf := elimR hf
    refine B_callVX0 (kc' := 1) (ks' := 6) (s_X11_needLace hG hq1) k_0 clX11 m_X11_needLace kv_RX11_189 d_X11_led_2 rfl (Nat.le_of_ble_eq_true rfl) ⟨rfl, rfl, Nat.le_of_ble_eq_true rfl, Nat.le_of_ble_eq_true rfl, Nat.le_of_ble_eq_true rfl⟩ (fun n => ?_)
    refine V_iload_n d_X11_led_5 rfl rfl ?_
    refine V_if_eq (tgt := 23) d_X11_led_6 (by decide) (fun c6 => ?_) (fun c6 => ?_)
    · replace hf := iteF (b2i_nt (b2i_eq0 c6)) hf
      refine V_aload_n d_X11_led_23 rfl rfl ?_
      refine B_get k_0 fl_RX11_19 d_X11_led_24 g_11_1 ?_
      refine B_get k_3 fl_RX11_259 d_X11_led_27 g_2_18 ?_
      refine V_iload_n d_X11_led_30 rfl rfl ?_
      obtain ⟨t3, ht3, hf⟩ := ob hf
      refine B_callV1 (s_X1_rowsOf hG B_16 ht3) k_16 clX1 m_X1_rowsOf kv_RX11_398 d_X11_led_31 rfl (Nat.le_of_ble_eq_true rfl) ⟨rfl, rfl, Nat.le_of_ble_eq_true rfl, Nat.le_of_ble_eq_true rfl, Nat.le_of_ble_eq_true rfl⟩ (fun n => ?_)
      refine V_less (ls' := [none, none, none]) trivial ?_
      exact s_X11_led_j34 hG hf hK
    · replace hf := iteT (b2i_ne0 c6) hf
      refine V_aload_n d_X11_led_9 rfl rfl ?_
      refine B_get k_0 fl_RX11_19 d_X11_led_10 g_11_1 ?_
      refine B_get k_3 fl_RX11_259 d_X11_led_13 g_2_18 ?_
      refine V_iload_n d_X11_led_16 rfl rfl ?_
      obtain ⟨t4, ht4, hf⟩ := ob hf
      refine B_callV1 (s_X1_latestDayOf hG B_16 ht4) k_16 clX1 m_X1_latestDayOf kv_RX11_395 d_X11_led_17 rfl (Nat.le_of_ble_eq_true rfl) ⟨rfl, rfl, Nat.le_of_ble_eq_true rfl, Nat.le_of_ble_eq_true rfl, Nat.le_of_ble_eq_true rfl⟩ (fun n => ?_)
      refine V_goto (tgt := 34) d_X11_led_20 (by decide) ?_
      refine V_less (ls' := [none, none, none]) trivial ?_
      exact s_X11_led_j34 hG hf hK
theorem s_X11_led {G : Gl} (hG : G.1.stackTraces = false) {μ : Mem} {p1 : Int32} {p2 : Bool} {r : ((Nat × Mem) ⊕ (Int32 × Mem))} (hf : f_X11_led μ p1 p2 = some r) : Rx G yX11_led F_X11_led (.code yX11_led F_X11_led.2.1 F_X11_led.2.2.1 (some .int)) [.ref (G.2.1 + 0), .int p1, .int (b2i p2)] μ (Sum.map id (fun q => (some (.int q.1), q.2)) r) := fun n => Sd.of hG ⟨by decide +kernel, rfl, rfl⟩ rfl (Nat.le_of_ble_eq_true rfl) rfl (fun C hK => s_X11_led_e hG hf hK)
theorem d_X11_log_0 : decode cX11_log 0 = .ok (.iload_n 2, 1) := by decide +kernel
theorem d_X11_log_1 : decode cX11_log 1 = .ok (.iconst 0, 1) := by decide +kernel
theorem d_X11_log_2 : decode cX11_log 2 = .ok (.iconst 3, 1) := by decide +kernel
theorem d_X11_log_3 : decode cX11_log 3 = .ok (.invokestatic 237, 3) := by decide +kernel
theorem d_X11_log_6 : decode cX11_log 6 = .ok (.ifCond .eq 14, 3) := by decide +kernel
theorem d_X11_log_9 : decode cX11_log 9 = .ok (.new 184, 3) := by decide +kernel
theorem d_X11_log_12 : decode cX11_log 12 = .ok (.dup, 1) := by decide +kernel
theorem d_X11_log_13 : decode cX11_log 13 = .ok (.ldc_w 401, 3) := by decide +kernel
theorem d_X11_log_16 : decode cX11_log 16 = .ok (.invokespecial 188, 3) := by decide +kernel
theorem d_X11_log_19 : decode cX11_log 19 = .ok (.athrow, 1) := by decide +kernel
theorem d_X11_log_20 : decode cX11_log 20 = .ok (.iload_n 1, 1) := by decide +kernel
theorem d_X11_log_21 : decode cX11_log 21 = .ok (.ifCond .lt 17, 3) := by decide +kernel
theorem d_X11_log_24 : decode cX11_log 24 = .ok (.iload_n 1, 1) := by decide +kernel
theorem d_X11_log_25 : decode cX11_log 25 = .ok (.aload_n 0, 1) := by decide +kernel
theorem d_X11_log_26 : decode cX11_log 26 = .ok (.getfield 19, 3) := by decide +kernel
theorem d_X11_log_29 : decode cX11_log 29 = .ok (.getfield 259, 3) := by decide +kernel
theorem d_X11_log_32 : decode cX11_log 32 = .ok (.getfield 403, 3) := by decide +kernel
theorem d_X11_log_35 : decode cX11_log 35 = .ok (.if_icmp .lt 5, 3) := by decide +kernel
theorem d_X11_log_38 : decode cX11_log 38 = .ok (.iconst (-1), 1) := by decide +kernel
theorem d_X11_log_39 : decode cX11_log 39 = .ok (.ireturn, 1) := by decide +kernel
theorem d_X11_log_40 : decode cX11_log 40 = .ok (.iload_n 2, 1) := by decide +kernel
theorem d_X11_log_41 : decode cX11_log 41 = .ok (.tableswitch 63 0 2 #[27, 39, 51], 27) := by decide +kernel
theorem d_X11_log_68 : decode cX11_log 68 = .ok (.aload_n 0, 1) := by decide +kernel
theorem d_X11_log_69 : decode cX11_log 69 = .ok (.getfield 19, 3) := by decide +kernel
theorem d_X11_log_72 : decode cX11_log 72 = .ok (.getfield 259, 3) := by decide +kernel
theorem d_X11_log_75 : decode cX11_log 75 = .ok (.iload_n 1, 1) := by decide +kernel
theorem d_X11_log_76 : decode cX11_log 76 = .ok (.invokevirtual 404, 3) := by decide +kernel
theorem d_X11_log_79 : decode cX11_log 79 = .ok (.ireturn, 1) := by decide +kernel
theorem d_X11_log_80 : decode cX11_log 80 = .ok (.aload_n 0, 1) := by decide +kernel
theorem d_X11_log_81 : decode cX11_log 81 = .ok (.getfield 19, 3) := by decide +kernel
theorem d_X11_log_84 : decode cX11_log 84 = .ok (.getfield 259, 3) := by decide +kernel
theorem d_X11_log_87 : decode cX11_log 87 = .ok (.iload_n 1, 1) := by decide +kernel
theorem d_X11_log_88 : decode cX11_log 88 = .ok (.invokevirtual 407, 3) := by decide +kernel
theorem d_X11_log_91 : decode cX11_log 91 = .ok (.ireturn, 1) := by decide +kernel
theorem d_X11_log_92 : decode cX11_log 92 = .ok (.aload_n 0, 1) := by decide +kernel
theorem d_X11_log_93 : decode cX11_log 93 = .ok (.getfield 19, 3) := by decide +kernel
theorem d_X11_log_96 : decode cX11_log 96 = .ok (.getfield 259, 3) := by decide +kernel
theorem d_X11_log_99 : decode cX11_log 99 = .ok (.iload_n 1, 1) := by decide +kernel
theorem d_X11_log_100 : decode cX11_log 100 = .ok (.invokevirtual 410, 3) := by decide +kernel
theorem d_X11_log_103 : decode cX11_log 103 = .ok (.ireturn, 1) := by decide +kernel
theorem d_X11_log_104 : decode cX11_log 104 = .ok (.aload_n 0, 1) := by decide +kernel
theorem d_X11_log_105 : decode cX11_log 105 = .ok (.getfield 19, 3) := by decide +kernel
theorem d_X11_log_108 : decode cX11_log 108 = .ok (.getfield 259, 3) := by decide +kernel
theorem d_X11_log_111 : decode cX11_log 111 = .ok (.iload_n 1, 1) := by decide +kernel
theorem d_X11_log_112 : decode cX11_log 112 = .ok (.invokevirtual 413, 3) := by decide +kernel
theorem d_X11_log_115 : decode cX11_log 115 = .ok (.ireturn, 1) := by decide +kernel
theorem s_X11_log_j38 {G : Gl} (hG : G.1.stackTraces = false) {C : Cx} {n : Nat} {μ : Mem}  {r : ((Nat × Mem) ⊕ (Int32 × Mem))} (hf : f_X11_log_j38 μ = some r) (hK : FinX G C F_X11_log (some .int) (Sum.map id (fun q => (some (.int q.1), q.2)) r)) : V G C F_X11_log 38 [none, none, none] [] (pic G μ) n 1 6 := by
  unfold f_X11_log_j38 at hf
  refine V_iconst (v := (-1)) d_X11_log_38 ic_m1 ?_
  cases hf
  exact R_iX hK d_X11_log_39 (Nat.le_of_ble_eq_true rfl) (Nat.le_of_ble_eq_true rfl)
theorem s_X11_log_e {G : Gl} (hG : G.1.stackTraces = false) {C : Cx} {n : Nat} {μ : Mem} {p1 : Int32} {p2 : Int32} {r : ((Nat × Mem) ⊕ (Int32 × Mem))} (hf : f_X11_log μ p1 p2 = some r) (hK : FinX G C F_X11_log (some .int) (Sum.map id (fun q => (some (.int q.1), q.2)) r)) : V G C F_X11_log 0 [some (.ref (G.2.1 + 0)), some (.int p1), some (.int p2)] [] (pic G μ) n 0 0 := by
  unfold f_X11_log at hf
  refine V_iload_n d_X11_log_0 rfl rfl ?_
  refine V_iconst (v := 0) d_X11_log_1 ic_0 ?_
  refine V_iconst (v := 3) d_X11_log_2 ic_3 ?_
  obtain ⟨t1, ht1, hf⟩ := ob hf
  refine B_callS1 (s_X11_isOutside hG ht1) m_X11_isOutside ks_RX11_237 d_X11_log_3 rfl (Nat.le_of_ble_eq_true rfl) ⟨rfl, rfl, Nat.le_of_ble_eq_true rfl, Nat.le_of_ble_eq_true rfl, Nat.le_of_ble_eq_true rfl⟩ (fun n => ?_)
  refine V_if_eq (tgt := 20) d_X11_log_6 (by decide) (fun c6 => ?_) (fun c6 => ?_)
  · replace hf := iteF (b2i_nt (b2i_eq0 c6)) hf
    refine V_iload_n d_X11_log_20 rfl rfl ?_
    refine V_if_lt (tgt := 38) d_X11_log_21 (by decide) (fun c21 => ?_) (fun c21 => ?_)
    · replace hf := iteT c21 hf
      refine V_widen (k2 := 1) (s2 := 6) (by decide) (by decide) ?_
      refine V_less (ls' := [none, none, none]) trivial ?_
      exact s_X11_log_j38 hG hf hK
    · replace hf := iteF c21 hf
      refine V_iload_n d_X11_log_24 rfl rfl ?_
      refine V_aload_n d_X11_log_25 rfl rfl ?_
      refine B_get k_0 fl_RX11_19 d_X11_log_26 g_11_1 ?_
      refine B_get k_3 fl_RX11_259 d_X11_log_29 g_2_18 ?_
      refine B_get k_16 fl_RX11_403 d_X11_log_32 g_1_2 ?_
      refine V_icmp_lt (tgt := 40) d_X11_log_35 (by decide) (fun c35 => ?_) (fun c35 => ?_)
      · replace hf := iteT c35 hf
        refine V_iload_n d_X11_log_40 rfl rfl ?_
        by_cases c41_0 : p2 = 0
        · replace hf := iteT c41_0 hf
          refine V_tabC (q := 0) (off := 27) (tgt := 68) d_X11_log_41 c41_0 (by decide) (by decide) ?_
          refine V_aload_n d_X11_log_68 rfl rfl ?_
          refine B_get k_0 fl_RX11_19 d_X11_log_69 g_11_1 ?_
          refine B_get k_3 fl_RX11_259 d_X11_log_72 g_2_18 ?_
          refine V_iload_n d_X11_log_75 rfl rfl ?_
          obtain ⟨t2, ht2, hf⟩ := ob hf
          refine B_callV1 (s_X1_dayAt hG B_16 ht2) k_16 clX1 m_X1_dayAt kv_RX11_404 d_X11_log_76 rfl (Nat.le_of_ble_eq_true rfl) ⟨rfl, rfl, Nat.le_of_ble_eq_true rfl, Nat.le_of_ble_eq_true rfl, Nat.le_of_ble_eq_true rfl⟩ (fun n => ?_)
          cases hf
          exact R_iX hK d_X11_log_79 (Nat.le_of_ble_eq_true rfl) (Nat.le_of_ble_eq_true rfl)
        replace hf := iteF c41_0 hf
        by_cases c41_1 : p2 = 1
        · replace hf := iteT c41_1 hf
          refine V_tabC (q := 1) (off := 39) (tgt := 80) d_X11_log_41 c41_1 (by decide) (by decide) ?_
          refine V_aload_n d_X11_log_80 rfl rfl ?_
          refine B_get k_0 fl_RX11_19 d_X11_log_81 g_11_1 ?_
          refine B_get k_3 fl_RX11_259 d_X11_log_84 g_2_18 ?_
          refine V_iload_n d_X11_log_87 rfl rfl ?_
          obtain ⟨t3, ht3, hf⟩ := ob hf
          refine B_callV1 (s_X1_laceAt hG B_16 ht3) k_16 clX1 m_X1_laceAt kv_RX11_407 d_X11_log_88 rfl (Nat.le_of_ble_eq_true rfl) ⟨rfl, rfl, Nat.le_of_ble_eq_true rfl, Nat.le_of_ble_eq_true rfl, Nat.le_of_ble_eq_true rfl⟩ (fun n => ?_)
          cases hf
          exact R_iX hK d_X11_log_91 (Nat.le_of_ble_eq_true rfl) (Nat.le_of_ble_eq_true rfl)
        replace hf := iteF c41_1 hf
        by_cases c41_2 : p2 = 2
        · replace hf := iteT c41_2 hf
          refine V_tabC (q := 2) (off := 51) (tgt := 92) d_X11_log_41 c41_2 (by decide) (by decide) ?_
          refine V_aload_n d_X11_log_92 rfl rfl ?_
          refine B_get k_0 fl_RX11_19 d_X11_log_93 g_11_1 ?_
          refine B_get k_3 fl_RX11_259 d_X11_log_96 g_2_18 ?_
          refine V_iload_n d_X11_log_99 rfl rfl ?_
          obtain ⟨t4, ht4, hf⟩ := ob hf
          refine B_callV1 (s_X1_whatAt hG B_16 ht4) k_16 clX1 m_X1_whatAt kv_RX11_410 d_X11_log_100 rfl (Nat.le_of_ble_eq_true rfl) ⟨rfl, rfl, Nat.le_of_ble_eq_true rfl, Nat.le_of_ble_eq_true rfl, Nat.le_of_ble_eq_true rfl⟩ (fun n => ?_)
          cases hf
          exact R_iX hK d_X11_log_103 (Nat.le_of_ble_eq_true rfl) (Nat.le_of_ble_eq_true rfl)
        replace hf := iteF c41_2 hf
        refine V_tabD (ks9 := [0, 1, 2]) (tgt := 104) d_X11_log_41 ⟨c41_0, c41_1, c41_2, trivial⟩ (by decide) (by decide) ?_
        refine V_aload_n d_X11_log_104 rfl rfl ?_
        refine B_get k_0 fl_RX11_19 d_X11_log_105 g_11_1 ?_
        refine B_get k_3 fl_RX11_259 d_X11_log_108 g_2_18 ?_
        refine V_iload_n d_X11_log_111 rfl rfl ?_
        obtain ⟨t5, ht5, hf⟩ := ob hf
        refine B_callV1 (s_X1_amountAt hG B_16 ht5) k_16 clX1 m_X1_amountAt kv_RX11_413 d_X11_log_112 rfl (Nat.le_of_ble_eq_true rfl) ⟨rfl, rfl, Nat.le_of_ble_eq_true rfl, Nat.le_of_ble_eq_true rfl, Nat.le_of_ble_eq_true rfl⟩ (fun n => ?_)
        cases hf
        exact R_iX hK d_X11_log_115 (Nat.le_of_ble_eq_true rfl) (Nat.le_of_ble_eq_true rfl)
      · replace hf := iteF c35 hf
        refine V_widen (k2 := 1) (s2 := 6) (by decide) (by decide) ?_
        refine V_less (ls' := [none, none, none]) trivial ?_
        exact s_X11_log_j38 hG hf hK
  · replace hf := iteT (b2i_ne0 c6) hf
    cases hf
    exact B_throwNW (k0 := 4) hK tk_RX11_184_401_188 rfl rfl d_X11_log_9 d_X11_log_12 d_X11_log_13 d_X11_log_16 d_X11_log_19 (Nat.le_of_ble_eq_true rfl) (Nat.le_of_ble_eq_true rfl) (Nat.le_of_ble_eq_true rfl)
theorem s_X11_log {G : Gl} (hG : G.1.stackTraces = false) {μ : Mem} {p1 : Int32} {p2 : Int32} {r : ((Nat × Mem) ⊕ (Int32 × Mem))} (hf : f_X11_log μ p1 p2 = some r) : Rx G yX11_log F_X11_log (.code yX11_log F_X11_log.2.1 F_X11_log.2.2.1 (some .int)) [.ref (G.2.1 + 0), .int p1, .int p2] μ (Sum.map id (fun q => (some (.int q.1), q.2)) r) := fun n => Sd.of hG ⟨by decide +kernel, rfl, rfl⟩ rfl (Nat.le_of_ble_eq_true rfl) rfl (fun C hK => s_X11_log_e hG hf hK)
theorem d_X11_seed_0 : decode cX11_seed 0 = .ok (.aload_n 0, 1) := by decide +kernel
theorem d_X11_seed_1 : decode cX11_seed 1 = .ok (.getfield 19, 3) := by decide +kernel
theorem d_X11_seed_4 : decode cX11_seed 4 = .ok (.getfield 384, 3) := by decide +kernel
theorem d_X11_seed_7 : decode cX11_seed 7 = .ok (.istore_n 2, 1) := by decide +kernel
theorem d_X11_seed_8 : decode cX11_seed 8 = .ok (.aload_n 0, 1) := by decide +kernel
theorem d_X11_seed_9 : decode cX11_seed 9 = .ok (.getfield 19, 3) := by decide +kernel
theorem d_X11_seed_12 : decode cX11_seed 12 = .ok (.iload_n 1, 1) := by decide +kernel
theorem d_X11_seed_13 : decode cX11_seed 13 = .ok (.putfield 384, 3) := by decide +kernel
theorem d_X11_seed_16 : decode cX11_seed 16 = .ok (.iload_n 2, 1) := by decide +kernel
theorem d_X11_seed_17 : decode cX11_seed 17 = .ok (.ireturn, 1) := by decide +kernel
theorem s_X11_seed_e {G : Gl} (hG : G.1.stackTraces = false) {C : Cx} {n : Nat} {μ : Mem} {p1 : Int32} {r : (Int32 × Mem)} (hf : f_X11_seed μ p1 = some r) (hK : FinR G C F_X11_seed (some .int) (some (.int r.1)) r.2) : V G C F_X11_seed 0 [some (.ref (G.2.1 + 0)), some (.int p1), none] [] (pic G μ) n 0 0 := by
  unfold f_X11_seed at hf
  refine V_aload_n d_X11_seed_0 rfl rfl ?_
  refine B_get k_0 fl_RX11_19 d_X11_seed_1 g_11_1 ?_
  refine B_get k_3 fl_RX11_384 d_X11_seed_4 g_2_4 ?_
  refine V_istore_n (ls' := [_, _, _]) d_X11_seed_7 rfl rfl rfl ?_
  refine V_aload_n d_X11_seed_8 rfl rfl ?_
  refine B_get k_0 fl_RX11_19 d_X11_seed_9 g_11_1 ?_
  refine V_iload_n d_X11_seed_12 rfl rfl ?_
  refine B_putI k_3 fl_RX11_384 pt_2_4 (Nat.le_of_ble_eq_true rfl) p_2_4 d_X11_seed_13 ?_
  refine V_iload_n d_X11_seed_16 rfl rfl ?_
  cases hf
  exact R_i hK d_X11_seed_17 (Nat.le_of_ble_eq_true rfl) (Nat.le_of_ble_eq_true rfl)
theorem s_X11_seed {G : Gl} (hG : G.1.stackTraces = false) {μ : Mem} {p1 : Int32} {r : (Int32 × Mem)} (hf : f_X11_seed μ p1 = some r) : Rt G yX11_seed F_X11_seed (some .int) [.ref (G.2.1 + 0), .int p1] μ (some (.int r.1)) r.2 := fun n => Sd.of hG ⟨by decide +kernel, rfl, rfl⟩ rfl (Nat.le_of_ble_eq_true rfl) rfl (fun C hK => s_X11_seed_e hG hf hK)
theorem d_X11_undo_0 : decode cX11_undo 0 = .ok (.aload_n 0, 1) := by decide +kernel
theorem d_X11_undo_1 : decode cX11_undo 1 = .ok (.getfield 63, 3) := by decide +kernel
theorem d_X11_undo_4 : decode cX11_undo 4 = .ok (.aload_n 0, 1) := by decide +kernel
theorem d_X11_undo_5 : decode cX11_undo 5 = .ok (.getfield 19, 3) := by decide +kernel
theorem d_X11_undo_8 : decode cX11_undo 8 = .ok (.invokevirtual 416, 3) := by decide +kernel
theorem d_X11_undo_11 : decode cX11_undo 11 = .ok (.ireturn, 1) := by decide +kernel
theorem s_X11_undo_e {G : Gl} (hG : G.1.stackTraces = false) {C : Cx} {n : Nat} {μ : Mem}  {r : (Bool × Mem)} (hf : f_X11_undo μ = some r) (hK : FinR G C F_X11_undo (some .boolean) (some (.int (b2i r.1))) r.2) : V G C F_X11_undo 0 [some (.ref (G.2.1 + 0))] [] (pic G μ) n 0 0 := by
  unfold f_X11_undo at hf
  refine V_aload_n d_X11_undo_0 rfl rfl ?_
  refine B_get k_0 fl_RX11_63 d_X11_undo_1 g_11_9 ?_
  refine V_aload_n d_X11_undo_4 rfl rfl ?_
  refine B_get k_0 fl_RX11_19 d_X11_undo_5 g_11_1 ?_
  obtain ⟨q1, hq1, hf⟩ := ob hf
  refine B_callV1 (s_X0_takeBack hG L_3 hq1) k_74 clX0 m_X0_takeBack kv_RX11_416 d_X11_undo_8 rfl (Nat.le_of_ble_eq_true rfl) ⟨rfl, rfl, Nat.le_of_ble_eq_true rfl, Nat.le_of_ble_eq_true rfl, Nat.le_of_ble_eq_true rfl⟩ (fun n => ?_)
  cases hf
  exact R_z hK d_X11_undo_11 (Nat.le_of_ble_eq_true rfl) (Nat.le_of_ble_eq_true rfl)
theorem s_X11_undo {G : Gl} (hG : G.1.stackTraces = false) {μ : Mem} {r : (Bool × Mem)} (hf : f_X11_undo μ = some r) : Rt G yX11_undo F_X11_undo (some .boolean) [.ref (G.2.1 + 0)] μ (some (.int (b2i r.1))) r.2 := fun n => Sd.of hG ⟨by decide +kernel, rfl, rfl⟩ rfl (Nat.le_of_ble_eq_true rfl) rfl (fun C hK => s_X11_undo_e hG hf hK)
theorem d_X11_image_0 : decode cX11_image 0 = .ok (.aload_n 0, 1) := by decide +kernel
theorem d_X11_image_1 : decode cX11_image 1 = .ok (.getfield 26, 3) := by decide +kernel
theorem d_X11_image_4 : decode cX11_image 4 = .ok (.aload_n 0, 1) := by decide +kernel
theorem d_X11_image_5 : decode cX11_image 5 = .ok (.getfield 19, 3) := by decide +kernel
theorem d_X11_image_8 : decode cX11_image 8 = .ok (.invokevirtual 102, 3) := by decide +kernel
theorem d_X11_image_11 : decode cX11_image 11 = .ok (.aload_n 0, 1) := by decide +kernel
theorem d_X11_image_12 : decode cX11_image 12 = .ok (.getfield 39, 3) := by decide +kernel
theorem d_X11_image_15 : decode cX11_image 15 = .ok (.aload_n 0, 1) := by decide +kernel
theorem d_X11_image_16 : decode cX11_image 16 = .ok (.getfield 32, 3) := by decide +kernel
theorem d_X11_image_19 : decode cX11_image 19 = .ok (.invokevirtual 140, 3) := by decide +kernel
theorem d_X11_image_22 : decode cX11_image 22 = .ok (.aload_n 0, 1) := by decide +kernel
theorem d_X11_image_23 : decode cX11_image 23 = .ok (.iconst 1, 1) := by decide +kernel
theorem d_X11_image_24 : decode cX11_image 24 = .ok (.putfield 90, 3) := by decide +kernel
theorem d_X11_image_27 : decode cX11_image 27 = .ok (.return_, 1) := by decide +kernel
theorem s_X11_image_e {G : Gl} (hG : G.1.stackTraces = false) {C : Cx} {n : Nat} {μ : Mem}  {r : Mem} (hf : f_X11_image μ = some r) (hK : FinR G C F_X11_image none none r) : V G C F_X11_image 0 [some (.ref (G.2.1 + 0))] [] (pic G μ) n 0 0 := by
  unfold f_X11_image at hf
  refine V_aload_n d_X11_image_0 rfl rfl ?_
  refine B_get k_0 fl_RX11_26 d_X11_image_1 g_11_3 ?_
  refine V_aload_n d_X11_image_4 rfl rfl ?_
  refine B_get k_0 fl_RX11_19 d_X11_image_5 g_11_1 ?_
  obtain ⟨q1, hq1, hf⟩ := ob hf
  refine B_callV0 (s_X2_copyFrom hG L_33 L_3 hq1) k_33 clX2 m_X2_copyFrom kv_RX11_102 d_X11_image_8 rfl (Nat.le_of_ble_eq_true rfl) ⟨rfl, rfl, Nat.le_of_ble_eq_true rfl, Nat.le_of_ble_eq_true rfl, Nat.le_of_ble_eq_true rfl⟩ (fun n => ?_)
  refine V_aload_n d_X11_image_11 rfl rfl ?_
  refine B_get k_0 fl_RX11_39 d_X11_image_12 g_11_6 ?_
  refine V_aload_n d_X11_image_15 rfl rfl ?_
  refine B_get k_0 fl_RX11_32 d_X11_image_16 g_11_4 ?_
  obtain ⟨q2, hq2, hf⟩ := ob hf
  refine B_callV0 (s_X4_copyFrom hG W_64 W_48 hq2) k_64 clX4 m_X4_copyFrom kv_RX11_140 d_X11_image_19 rfl (Nat.le_of_ble_eq_true rfl) ⟨rfl, rfl, Nat.le_of_ble_eq_true rfl, Nat.le_of_ble_eq_true rfl, Nat.le_of_ble_eq_true rfl⟩ (fun n => ?_)
  refine V_aload_n d_X11_image_22 rfl rfl ?_
  refine V_iconst (v := 1) d_X11_image_23 ic_1 ?_
  refine B_putZ (v := true) k_0 fl_RX11_90 pt_11_13 (Nat.le_of_ble_eq_true rfl) p_11_13 d_X11_image_24 ?_
  cases hf
  exact R_v hK d_X11_image_27 (Nat.le_of_ble_eq_true rfl) (Nat.le_of_ble_eq_true rfl)
theorem s_X11_image {G : Gl} (hG : G.1.stackTraces = false) {μ : Mem} {r : Mem} (hf : f_X11_image μ = some r) : Rt G yX11_image F_X11_image none [.ref (G.2.1 + 0)] μ none r := fun n => Sd.of hG ⟨by decide +kernel, rfl, rfl⟩ rfl (Nat.le_of_ble_eq_true rfl) rfl (fun C hK => s_X11_image_e hG hf hK)
theorem d_X11_back_0 : decode cX11_back 0 = .ok (.aload_n 0, 1) := by decide +kernel
theorem d_X11_back_1 : decode cX11_back 1 = .ok (.getfield 90, 3) := by decide +kernel
theorem d_X11_back_4 : decode cX11_back 4 = .ok (.ifCond .ne 5, 3) := by decide +kernel
theorem d_X11_back_7 : decode cX11_back 7 = .ok (.iconst 0, 1) := by decide +kernel
theorem d_X11_back_8 : decode cX11_back 8 = .ok (.ireturn, 1) := by decide +kernel
theorem d_X11_back_9 : decode cX11_back 9 = .ok (.aload_n 0, 1) := by decide +kernel
theorem d_X11_back_10 : decode cX11_back 10 = .ok (.getfield 19, 3) := by decide +kernel
theorem d_X11_back_13 : decode cX11_back 13 = .ok (.aload_n 0, 1) := by decide +kernel
theorem d_X11_back_14 : decode cX11_back 14 = .ok (.getfield 26, 3) := by decide +kernel
theorem d_X11_back_17 : decode cX11_back 17 = .ok (.invokevirtual 102, 3) := by decide +kernel
theorem d_X11_back_20 : decode cX11_back 20 = .ok (.aload_n 0, 1) := by decide +kernel
theorem d_X11_back_21 : decode cX11_back 21 = .ok (.getfield 32, 3) := by decide +kernel
theorem d_X11_back_24 : decode cX11_back 24 = .ok (.aload_n 0, 1) := by decide +kernel
theorem d_X11_back_25 : decode cX11_back 25 = .ok (.getfield 39, 3) := by decide +kernel
theorem d_X11_back_28 : decode cX11_back 28 = .ok (.invokevirtual 140, 3) := by decide +kernel
theorem d_X11_back_31 : decode cX11_back 31 = .ok (.aload_n 0, 1) := by decide +kernel
theorem d_X11_back_32 : decode cX11_back 32 = .ok (.getfield 63, 3) := by decide +kernel
theorem d_X11_back_35 : decode cX11_back 35 = .ok (.invokevirtual 128, 3) := by decide +kernel
theorem d_X11_back_38 : decode cX11_back 38 = .ok (.iconst 1, 1) := by decide +kernel
theorem d_X11_back_39 : decode cX11_back 39 = .ok (.ireturn, 1) := by decide +kernel
theorem s_X11_back_e {G : Gl} (hG : G.1.stackTraces = false) {C : Cx} {n : Nat} {μ : Mem}  {r : (Bool × Mem)} (hf : f_X11_back μ = some r) (hK : FinR G C F_X11_back (some .boolean) (some (.int (b2i r.1))) r.2) : V G C F_X11_back 0 [some (.ref (G.2.1 + 0))] [] (pic G μ) n 0 0 := by
  unfold f_X11_back at hf
  refine V_aload_n d_X11_back_0 rfl rfl ?_
  refine B_get k_0 fl_RX11_90 d_X11_back_1 g_11_13 ?_
  refine V_if_ne (tgt := 9) d_X11_back_4 (by decide) (fun c4 => ?_) (fun c4 => ?_)
  · replace hf := iteT (b2i_ne0 c4) hf
    refine V_aload_n d_X11_back_9 rfl rfl ?_
    refine B_get k_0 fl_RX11_19 d_X11_back_10 g_11_1 ?_
    refine V_aload_n d_X11_back_13 rfl rfl ?_
    refine B_get k_0 fl_RX11_26 d_X11_back_14 g_11_3 ?_
    obtain ⟨q1, hq1, hf⟩ := ob hf
    refine B_callV0 (s_X2_copyFrom hG L_3 L_33 hq1) k_3 clX2 m_X2_copyFrom kv_RX11_102 d_X11_back_17 rfl (Nat.le_of_ble_eq_true rfl) ⟨rfl, rfl, Nat.le_of_ble_eq_true rfl, Nat.le_of_ble_eq_true rfl, Nat.le_of_ble_eq_true rfl⟩ (fun n => ?_)
    refine V_aload_n d_X11_back_20 rfl rfl ?_
    refine B_get k_0 fl_RX11_32 d_X11_back_21 g_11_4 ?_
    refine V_aload_n d_X11_back_24 rfl rfl ?_
    refine B_get k_0 fl_RX11_39 d_X11_back_25 g_11_6 ?_
    obtain ⟨q2, hq2, hf⟩ := ob hf
    refine B_callV0 (s_X4_copyFrom hG W_48 W_64 hq2) k_48 clX4 m_X4_copyFrom kv_RX11_140 d_X11_back_28 rfl (Nat.le_of_ble_eq_true rfl) ⟨rfl, rfl, Nat.le_of_ble_eq_true rfl, Nat.le_of_ble_eq_true rfl, Nat.le_of_ble_eq_true rfl⟩ (fun n => ?_)
    refine V_aload_n d_X11_back_31 rfl rfl ?_
    refine B_get k_0 fl_RX11_63 d_X11_back_32 g_11_9 ?_
    obtain ⟨q3, hq3, hf⟩ := ob hf
    refine B_callV0 (s_X0_forget hG hq3) k_74 clX0 m_X0_forget kv_RX11_128 d_X11_back_35 rfl (Nat.le_of_ble_eq_true rfl) ⟨rfl, rfl, Nat.le_of_ble_eq_true rfl, Nat.le_of_ble_eq_true rfl, Nat.le_of_ble_eq_true rfl⟩ (fun n => ?_)
    refine V_iconst (v := 1) d_X11_back_38 ic_1 ?_
    cases hf
    exact R_z hK d_X11_back_39 (Nat.le_of_ble_eq_true rfl) (Nat.le_of_ble_eq_true rfl)
  · replace hf := iteF (b2i_nt (b2i_eq0 c4)) hf
    refine V_iconst (v := 0) d_X11_back_7 ic_0 ?_
    cases hf
    exact R_z hK d_X11_back_8 (Nat.le_of_ble_eq_true rfl) (Nat.le_of_ble_eq_true rfl)
theorem s_X11_back {G : Gl} (hG : G.1.stackTraces = false) {μ : Mem} {r : (Bool × Mem)} (hf : f_X11_back μ = some r) : Rt G yX11_back F_X11_back (some .boolean) [.ref (G.2.1 + 0)] μ (some (.int (b2i r.1))) r.2 := fun n => Sd.of hG ⟨by decide +kernel, rfl, rfl⟩ rfl (Nat.le_of_ble_eq_true rfl) rfl (fun C hK => s_X11_back_e hG hf hK)
theorem d_X11_count_0 : decode cX11_count 0 = .ok (.iload_n 1, 1) := by decide +kernel
theorem d_X11_count_1 : decode cX11_count 1 = .ok (.tableswitch 173 0 10 #[59, 67, 75, 97, 105, 113, 122, 138, 146, 154, 165], 59) := by decide +kernel
theorem d_X11_count_60 : decode cX11_count 60 = .ok (.aload_n 0, 1) := by decide +kernel
theorem d_X11_count_61 : decode cX11_count 61 = .ok (.getfield 19, 3) := by decide +kernel
theorem d_X11_count_64 : decode cX11_count 64 = .ok (.getfield 291, 3) := by decide +kernel
theorem d_X11_count_67 : decode cX11_count 67 = .ok (.ireturn, 1) := by decide +kernel
theorem d_X11_count_68 : decode cX11_count 68 = .ok (.aload_n 0, 1) := by decide +kernel
theorem d_X11_count_69 : decode cX11_count 69 = .ok (.getfield 19, 3) := by decide +kernel
theorem d_X11_count_72 : decode cX11_count 72 = .ok (.getfield 120, 3) := by decide +kernel
theorem d_X11_count_75 : decode cX11_count 75 = .ok (.ireturn, 1) := by decide +kernel
theorem d_X11_count_76 : decode cX11_count 76 = .ok (.aload_n 0, 1) := by decide +kernel
theorem d_X11_count_77 : decode cX11_count 77 = .ok (.getfield 32, 3) := by decide +kernel
theorem d_X11_count_80 : decode cX11_count 80 = .ok (.getfield 137, 3) := by decide +kernel
theorem d_X11_count_83 : decode cX11_count 83 = .ok (.ifCond .eq 13, 3) := by decide +kernel
theorem d_X11_count_86 : decode cX11_count 86 = .ok (.aload_n 0, 1) := by decide +kernel
theorem d_X11_count_87 : decode cX11_count 87 = .ok (.getfield 32, 3) := by decide +kernel
theorem d_X11_count_90 : decode cX11_count 90 = .ok (.getfield 143, 3) := by decide +kernel
theorem d_X11_count_93 : decode cX11_count 93 = .ok (.goto 4, 3) := by decide +kernel
theorem d_X11_count_96 : decode cX11_count 96 = .ok (.iconst (-1), 1) := by decide +kernel
theorem d_X11_count_97 : decode cX11_count 97 = .ok (.ireturn, 1) := by decide +kernel
theorem d_X11_count_98 : decode cX11_count 98 = .ok (.aload_n 0, 1) := by decide +kernel
theorem d_X11_count_99 : decode cX11_count 99 = .ok (.getfield 19, 3) := by decide +kernel
theorem d_X11_count_102 : decode cX11_count 102 = .ok (.getfield 263, 3) := by decide +kernel
theorem d_X11_count_105 : decode cX11_count 105 = .ok (.ireturn, 1) := by decide +kernel
theorem d_X11_count_106 : decode cX11_count 106 = .ok (.aload_n 0, 1) := by decide +kernel
theorem d_X11_count_107 : decode cX11_count 107 = .ok (.getfield 19, 3) := by decide +kernel
theorem d_X11_count_110 : decode cX11_count 110 = .ok (.getfield 420, 3) := by decide +kernel
theorem d_X11_count_113 : decode cX11_count 113 = .ok (.ireturn, 1) := by decide +kernel
theorem d_X11_count_114 : decode cX11_count 114 = .ok (.aload_n 0, 1) := by decide +kernel
theorem d_X11_count_115 : decode cX11_count 115 = .ok (.getfield 19, 3) := by decide +kernel
theorem d_X11_count_118 : decode cX11_count 118 = .ok (.iconst 1, 1) := by decide +kernel
theorem d_X11_count_119 : decode cX11_count 119 = .ok (.invokevirtual 355, 3) := by decide +kernel
theorem d_X11_count_122 : decode cX11_count 122 = .ok (.ireturn, 1) := by decide +kernel
theorem d_X11_count_123 : decode cX11_count 123 = .ok (.aload_n 0, 1) := by decide +kernel
theorem d_X11_count_124 : decode cX11_count 124 = .ok (.getfield 19, 3) := by decide +kernel
theorem d_X11_count_127 : decode cX11_count 127 = .ok (.aload_n 0, 1) := by decide +kernel
theorem d_X11_count_128 : decode cX11_count 128 = .ok (.getfield 19, 3) := by decide +kernel
theorem d_X11_count_131 : decode cX11_count 131 = .ok (.iconst 1, 1) := by decide +kernel
theorem d_X11_count_132 : decode cX11_count 132 = .ok (.invokevirtual 355, 3) := by decide +kernel
theorem d_X11_count_135 : decode cX11_count 135 = .ok (.invokevirtual 352, 3) := by decide +kernel
theorem d_X11_count_138 : decode cX11_count 138 = .ok (.ireturn, 1) := by decide +kernel
theorem d_X11_count_139 : decode cX11_count 139 = .ok (.aload_n 0, 1) := by decide +kernel
theorem d_X11_count_140 : decode cX11_count 140 = .ok (.getfield 19, 3) := by decide +kernel
theorem d_X11_count_143 : decode cX11_count 143 = .ok (.invokevirtual 423, 3) := by decide +kernel
theorem d_X11_count_146 : decode cX11_count 146 = .ok (.ireturn, 1) := by decide +kernel
theorem d_X11_count_147 : decode cX11_count 147 = .ok (.aload_n 0, 1) := by decide +kernel
theorem d_X11_count_148 : decode cX11_count 148 = .ok (.getfield 19, 3) := by decide +kernel
theorem d_X11_count_151 : decode cX11_count 151 = .ok (.getfield 426, 3) := by decide +kernel
theorem d_X11_count_154 : decode cX11_count 154 = .ok (.ireturn, 1) := by decide +kernel
theorem d_X11_count_155 : decode cX11_count 155 = .ok (.aload_n 0, 1) := by decide +kernel
theorem d_X11_count_156 : decode cX11_count 156 = .ok (.getfield 19, 3) := by decide +kernel
theorem d_X11_count_159 : decode cX11_count 159 = .ok (.getfield 259, 3) := by decide +kernel
theorem d_X11_count_162 : decode cX11_count 162 = .ok (.getfield 403, 3) := by decide +kernel
theorem d_X11_count_165 : decode cX11_count 165 = .ok (.ireturn, 1) := by decide +kernel
theorem d_X11_count_166 : decode cX11_count 166 = .ok (.aload_n 0, 1) := by decide +kernel
theorem d_X11_count_167 : decode cX11_count 167 = .ok (.getfield 63, 3) := by decide +kernel
theorem d_X11_count_170 : decode cX11_count 170 = .ok (.getfield 429, 3) := by decide +kernel
theorem d_X11_count_173 : decode cX11_count 173 = .ok (.ireturn, 1) := by decide +kernel
theorem d_X11_count_174 : decode cX11_count 174 = .ok (.iconst (-1), 1) := by decide +kernel
theorem d_X11_count_175 : decode cX11_count 175 = .ok (.ireturn, 1) := by decide +kernel
theorem s_X11_count_e {G : Gl} (hG : G.1.stackTraces = false) {C : Cx} {n : Nat} {μ : Mem} {p1 : Int32} {r : Int32} (hf : f_X11_count μ p1 = some r) (hK : FinR G C F_X11_count (some .int) (some (.int r)) μ) : V G C F_X11_count 0 [some (.ref (G.2.1 + 0)), some (.int p1)] [] (pic G μ) n 0 0 := by
  unfold f_X11_count at hf
  refine V_iload_n d_X11_count_0 rfl rfl ?_
  by_cases c1_0 : p1 = 0
  · replace hf := iteT c1_0 hf
    refine V_tabC (q := 0) (off := 59) (tgt := 60) d_X11_count_1 c1_0 (by decide) (by decide) ?_
    refine V_aload_n d_X11_count_60 rfl rfl ?_
    refine B_get k_0 fl_RX11_19 d_X11_count_61 g_11_1 ?_
    refine B_get k_3 fl_RX11_291 d_X11_count_64 g_2_0 ?_
    cases hf
    exact R_i hK d_X11_count_67 (Nat.le_of_ble_eq_true rfl) (Nat.le_of_ble_eq_true rfl)
  replace hf := iteF c1_0 hf
  by_cases c1_1 : p1 = 1
  · replace hf := iteT c1_1 hf
    refine V_tabC (q := 1) (off := 67) (tgt := 68) d_X11_count_1 c1_1 (by decide) (by decide) ?_
    refine V_aload_n d_X11_count_68 rfl rfl ?_
    refine B_get k_0 fl_RX11_19 d_X11_count_69 g_11_1 ?_
    refine B_get k_3 fl_RX11_120 d_X11_count_72 g_2_1 ?_
    cases hf
    exact R_i hK d_X11_count_75 (Nat.le_of_ble_eq_true rfl) (Nat.le_of_ble_eq_true rfl)
  replace hf := iteF c1_1 hf
  by_cases c1_2 : p1 = 2
  · replace hf := iteT c1_2 hf
    refine V_tabC (q := 2) (off := 75) (tgt := 76) d_X11_count_1 c1_2 (by decide) (by decide) ?_
    refine V_aload_n d_X11_count_76 rfl rfl ?_
    refine B_get k_0 fl_RX11_32 d_X11_count_77 g_11_4 ?_
    refine B_get k_48 fl_RX11_137 d_X11_count_80 g_4_0 ?_
    have hJj1 : ∀ j1 : Int32, j1 = (if (i2b (μ 48 0)) = true then ((μ 48 1) : Int32) else (-1)) → V G C F_X11_count 97 [none, none] [.int j1] (pic G μ) n 0 0 := by
      intro j1 ej1
      subst ej1
      cases hf
      exact R_i hK d_X11_count_97 (Nat.le_of_ble_eq_true rfl) (Nat.le_of_ble_eq_true rfl)
    refine V_if_eq (tgt := 96) d_X11_count_83 (by decide) (fun c83 => ?_) (fun c83 => ?_)
    · refine V_iconst (v := (-1)) d_X11_count_96 ic_m1 ?_
      refine V_less (ls' := [none, none]) trivial ?_
      exact hJj1 (-1) (by rw [if_neg (b2i_nt (b2i_eq0 c83))])
    · refine V_aload_n d_X11_count_86 rfl rfl ?_
      refine B_get k_0 fl_RX11_32 d_X11_count_87 g_11_4 ?_
      refine B_get k_48 fl_RX11_143 d_X11_count_90 g_4_1 ?_
      refine V_goto (tgt := 97) d_X11_count_93 (by decide) ?_
      refine V_less (ls' := [none, none]) trivial ?_
      exact hJj1 (μ 48 1) (by rw [if_pos (b2i_ne0 c83)])
  replace hf := iteF c1_2 hf
  by_cases c1_3 : p1 = 3
  · replace hf := iteT c1_3 hf
    refine V_tabC (q := 3) (off := 97) (tgt := 98) d_X11_count_1 c1_3 (by decide) (by decide) ?_
    refine V_aload_n d_X11_count_98 rfl rfl ?_
    refine B_get k_0 fl_RX11_19 d_X11_count_99 g_11_1 ?_
    refine B_get k_3 fl_RX11_263 d_X11_count_102 g_2_2 ?_
    cases hf
    exact R_i hK d_X11_count_105 (Nat.le_of_ble_eq_true rfl) (Nat.le_of_ble_eq_true rfl)
  replace hf := iteF c1_3 hf
  by_cases c1_4 : p1 = 4
  · replace hf := iteT c1_4 hf
    refine V_tabC (q := 4) (off := 105) (tgt := 106) d_X11_count_1 c1_4 (by decide) (by decide) ?_
    refine V_aload_n d_X11_count_106 rfl rfl ?_
    refine B_get k_0 fl_RX11_19 d_X11_count_107 g_11_1 ?_
    refine B_get k_3 fl_RX11_420 d_X11_count_110 g_2_3 ?_
    cases hf
    exact R_i hK d_X11_count_113 (Nat.le_of_ble_eq_true rfl) (Nat.le_of_ble_eq_true rfl)
  replace hf := iteF c1_4 hf
  by_cases c1_5 : p1 = 5
  · replace hf := iteT c1_5 hf
    refine V_tabC (q := 5) (off := 113) (tgt := 114) d_X11_count_1 c1_5 (by decide) (by decide) ?_
    refine V_aload_n d_X11_count_114 rfl rfl ?_
    refine B_get k_0 fl_RX11_19 d_X11_count_115 g_11_1 ?_
    refine V_iconst (v := 1) d_X11_count_118 ic_1 ?_
    obtain ⟨t2, ht2, hf⟩ := ob hf
    refine B_callV1 (s_X2_lacesThatAre hG L_3 ht2) k_3 clX2 m_X2_lacesThatAre kv_RX11_355 d_X11_count_119 rfl (Nat.le_of_ble_eq_true rfl) ⟨rfl, rfl, Nat.le_of_ble_eq_true rfl, Nat.le_of_ble_eq_true rfl, Nat.le_of_ble_eq_true rfl⟩ (fun n => ?_)
    cases hf
    exact R_i hK d_X11_count_122 (Nat.le_of_ble_eq_true rfl) (Nat.le_of_ble_eq_true rfl)
  replace hf := iteF c1_5 hf
  by_cases c1_6 : p1 = 6
  · replace hf := iteT c1_6 hf
    refine V_tabC (q := 6) (off := 122) (tgt := 123) d_X11_count_1 c1_6 (by decide) (by decide) ?_
    refine V_aload_n d_X11_count_123 rfl rfl ?_
    refine B_get k_0 fl_RX11_19 d_X11_count_124 g_11_1 ?_
    refine V_aload_n d_X11_count_127 rfl rfl ?_
    refine B_get k_0 fl_RX11_19 d_X11_count_128 g_11_1 ?_
    refine V_iconst (v := 1) d_X11_count_131 ic_1 ?_
    obtain ⟨t3, ht3, hf⟩ := ob hf
    refine B_callV1 (s_X2_lacesThatAre hG L_3 ht3) k_3 clX2 m_X2_lacesThatAre kv_RX11_355 d_X11_count_132 rfl (Nat.le_of_ble_eq_true rfl) ⟨rfl, rfl, Nat.le_of_ble_eq_true rfl, Nat.le_of_ble_eq_true rfl, Nat.le_of_ble_eq_true rfl⟩ (fun n => ?_)
    obtain ⟨t4, ht4, hf⟩ := ob hf
    refine B_callV1 (s_X2_amountOf hG L_3 ht4) k_3 clX2 m_X2_amountOf kv_RX11_352 d_X11_count_135 rfl (Nat.le_of_ble_eq_true rfl) ⟨rfl, rfl, Nat.le_of_ble_eq_true rfl, Nat.le_of_ble_eq_true rfl, Nat.le_of_ble_eq_true rfl⟩ (fun n => ?_)
    cases hf
    exact R_i hK d_X11_count_138 (Nat.le_of_ble_eq_true rfl) (Nat.le_of_ble_eq_true rfl)
  replace hf := iteF c1_6 hf
  by_cases c1_7 : p1 = 7
  · replace hf := iteT c1_7 hf
    refine V_tabC (q := 7) (off := 138) (tgt := 139) d_X11_count_1 c1_7 (by decide) (by decide) ?_
    refine V_aload_n d_X11_count_139 rfl rfl ?_
    refine B_get k_0 fl_RX11_19 d_X11_count_140 g_11_1 ?_
    obtain ⟨t5, ht5, hf⟩ := ob hf
    refine B_callV1 (s_X2_allPurses hG L_3 ht5) k_3 clX2 m_X2_allPurses kv_RX11_423 d_X11_count_143 rfl (Nat.le_of_ble_eq_true rfl) ⟨rfl, rfl, Nat.le_of_ble_eq_true rfl, Nat.le_of_ble_eq_true rfl, Nat.le_of_ble_eq_true rfl⟩ (fun n => ?_)
    cases hf
    exact R_i hK d_X11_count_146 (Nat.le_of_ble_eq_true rfl) (Nat.le_of_ble_eq_true rfl)
  replace hf := iteF c1_7 hf
  by_cases c1_8 : p1 = 8
  · replace hf := iteT c1_8 hf
    refine V_tabC (q := 8) (off := 146) (tgt := 147) d_X11_count_1 c1_8 (by decide) (by decide) ?_
    refine V_aload_n d_X11_count_147 rfl rfl ?_
    refine B_get k_0 fl_RX11_19 d_X11_count_148 g_11_1 ?_
    refine B_get k_3 fl_RX11_426 d_X11_count_151 g_2_5 ?_
    cases hf
    exact R_i hK d_X11_count_154 (Nat.le_of_ble_eq_true rfl) (Nat.le_of_ble_eq_true rfl)
  replace hf := iteF c1_8 hf
  by_cases c1_9 : p1 = 9
  · replace hf := iteT c1_9 hf
    refine V_tabC (q := 9) (off := 154) (tgt := 155) d_X11_count_1 c1_9 (by decide) (by decide) ?_
    refine V_aload_n d_X11_count_155 rfl rfl ?_
    refine B_get k_0 fl_RX11_19 d_X11_count_156 g_11_1 ?_
    refine B_get k_3 fl_RX11_259 d_X11_count_159 g_2_18 ?_
    refine B_get k_16 fl_RX11_403 d_X11_count_162 g_1_2 ?_
    cases hf
    exact R_i hK d_X11_count_165 (Nat.le_of_ble_eq_true rfl) (Nat.le_of_ble_eq_true rfl)
  replace hf := iteF c1_9 hf
  by_cases c1_10 : p1 = 10
  · replace hf := iteT c1_10 hf
    refine V_tabC (q := 10) (off := 165) (tgt := 166) d_X11_count_1 c1_10 (by decide) (by decide) ?_
    refine V_aload_n d_X11_count_166 rfl rfl ?_
    refine B_get k_0 fl_RX11_63 d_X11_count_167 g_11_9 ?_
    refine B_get k_74 fl_RX11_429 d_X11_count_170 g_0_2 ?_
    cases hf
    exact R_i hK d_X11_count_173 (Nat.le_of_ble_eq_true rfl) (Nat.le_of_ble_eq_true rfl)
  replace hf := iteF c1_10 hf
  refine V_tabD (ks9 := [0, 1, 2, 3, 4, 5, 6, 7, 8, 9, 10]) (tgt := 174) d_X11_count_1 ⟨c1_0, c1_1, c1_2, c1_3, c1_4, c1_5, c1_6, c1_7, c1_8, c1_9, c1_10, trivial⟩ (by decide) (by decide) ?_
  refine V_iconst (v := (-1)) d_X11_count_174 ic_m1 ?_
  cases hf
  exact R_i hK d_X11_count_175 (Nat.le_of_ble_eq_true rfl) (Nat.le_of_ble_eq_true rfl)
theorem s_X11_count {G : Gl} (hG : G.1.stackTraces = false) {μ : Mem} {p1 : Int32} {r : Int32} (hf : f_X11_count μ p1 = some r) : Rt G yX11_count F_X11_count (some .int) [.ref (G.2.1 + 0), .int p1] μ (some (.int r)) μ := fun n => Sd.of hG ⟨by decide +kernel, rfl, rfl⟩ rfl (Nat.le_of_ble_eq_true rfl) rfl (fun C hK => s_X11_count_e hG hf hK)
theorem d_X12_thrown_0 : decode cX12_thrown 0 = .ok (.aload_n 0, 1) := by decide +kernel
theorem d_X12_thrown_1 : decode cX12_thrown 1 = .ok (.getfield 3, 3) := by decide +kernel
theorem d_X12_thrown_4 : decode cX12_thrown 4 = .ok (.ireturn, 1) := by decide +kernel
theorem s_X12_thrown_e {G : Gl} (hG : G.1.stackTraces = false) {C : Cx} {n : Nat} {μ : Mem}  {r : Int32} (hf : f_X12_thrown μ = some r) (hK : FinR G C F_X12_thrown (some .int) (some (.int r)) μ) : V G C F_X12_thrown 0 [some (.ref (G.2.1 + 264))] [] (pic G μ) n 0 0 := by
  unfold f_X12_thrown at hf
  refine V_aload_n d_X12_thrown_0 rfl rfl ?_
  refine B_get k_264 fl_RX12_3 d_X12_thrown_1 g_12_0 ?_
  cases hf
  exact R_i hK d_X12_thrown_4 (Nat.le_of_ble_eq_true rfl) (Nat.le_of_ble_eq_true rfl)
theorem s_X12_thrown {G : Gl} (hG : G.1.stackTraces = false) {μ : Mem} {r : Int32} (hf : f_X12_thrown μ = some r) : Rt G yX12_thrown F_X12_thrown (some .int) [.ref (G.2.1 + 264)] μ (some (.int r)) μ := fun n => Sd.of hG ⟨by decide +kernel, rfl, rfl⟩ rfl (Nat.le_of_ble_eq_true rfl) rfl (fun C hK => s_X12_thrown_e hG hf hK)
theorem d_X12_throwsIf_0 : decode cX12_throwsIf 0 = .ok (.iload_n 1, 1) := by decide +kernel
theorem d_X12_throwsIf_1 : decode cX12_throwsIf 1 = .ok (.ifCond .eq 8, 3) := by decide +kernel
theorem d_X12_throwsIf_4 : decode cX12_throwsIf 4 = .ok (.aload_n 0, 1) := by decide +kernel
theorem d_X12_throwsIf_5 : decode cX12_throwsIf 5 = .ok (.iload_n 2, 1) := by decide +kernel
theorem d_X12_throwsIf_6 : decode cX12_throwsIf 6 = .ok (.putfield 3, 3) := by decide +kernel
theorem d_X12_throwsIf_9 : decode cX12_throwsIf 9 = .ok (.iload_n 1, 1) := by decide +kernel
theorem d_X12_throwsIf_10 : decode cX12_throwsIf 10 = .ok (.ireturn, 1) := by decide +kernel
theorem s_X12_throwsIf_j9 {G : Gl} (hG : G.1.stackTraces = false) {C : Cx} {n : Nat} {μ : Mem} {l1 : Bool} {r : (Bool × Mem)} (hf : f_X12_throwsIf_j9 μ l1 = some r) (hK : FinR G C F_X12_throwsIf (some .boolean) (some (.int (b2i r.1))) r.2) : V G C F_X12_throwsIf 9 [none, some (.int (b2i l1)), none] [] (pic G μ) n 0 0 := by
  unfold f_X12_throwsIf_j9 at hf
  refine V_iload_n d_X12_throwsIf_9 rfl rfl ?_
  cases hf
  exact R_z hK d_X12_throwsIf_10 (Nat.le_of_ble_eq_true rfl) (Nat.le_of_ble_eq_true rfl)
theorem s_X12_throwsIf_e {G : Gl} (hG : G.1.stackTraces = false) {C : Cx} {n : Nat} {μ : Mem} {p1 : Bool} {p2 : Int32} {r : (Bool × Mem)} (hf : f_X12_throwsIf μ p1 p2 = some r) (hK : FinR G C F_X12_throwsIf (some .boolean) (some (.int (b2i r.1))) r.2) : V G C F_X12_throwsIf 0 [some (.ref (G.2.1 + 264)), some (.int (b2i p1)), some (.int p2)] [] (pic G μ) n 0 0 := by
  unfold f_X12_throwsIf at hf
  refine V_iload_n d_X12_throwsIf_0 rfl rfl ?_
  refine V_if_eq (tgt := 9) d_X12_throwsIf_1 (by decide) (fun c1 => ?_) (fun c1 => ?_)
  · replace hf := iteF (b2i_nt (b2i_eq0 c1)) hf
    refine V_less (ls' := [none, some _, none]) ⟨rfl, trivial⟩ ?_
    exact s_X12_throwsIf_j9 hG hf hK
  · replace hf := iteT (b2i_ne0 c1) hf
    refine V_aload_n d_X12_throwsIf_4 rfl rfl ?_
    refine V_iload_n d_X12_throwsIf_5 rfl rfl ?_
    refine B_putI k_264 fl_RX12_3 pt_12_0 (Nat.le_of_ble_eq_true rfl) p_12_0 d_X12_throwsIf_6 ?_
    refine V_less (ls' := [none, some _, none]) ⟨rfl, trivial⟩ ?_
    exact s_X12_throwsIf_j9 hG hf hK
theorem s_X12_throwsIf {G : Gl} (hG : G.1.stackTraces = false) {μ : Mem} {p1 : Bool} {p2 : Int32} {r : (Bool × Mem)} (hf : f_X12_throwsIf μ p1 p2 = some r) : Rt G yX12_throwsIf F_X12_throwsIf (some .boolean) [.ref (G.2.1 + 264), .int (b2i p1), .int p2] μ (some (.int (b2i r.1))) r.2 := fun n => Sd.of hG ⟨by decide +kernel, rfl, rfl⟩ rfl (Nat.le_of_ble_eq_true rfl) rfl (fun C hK => s_X12_throwsIf_e hG hf hK)
theorem d_X12_in_0 : decode cX12_in 0 = .ok (.iload_n 0, 1) := by decide +kernel
theorem d_X12_in_1 : decode cX12_in 1 = .ok (.iload_n 1, 1) := by decide +kernel
theorem d_X12_in_2 : decode cX12_in 2 = .ok (.if_icmp .lt 12, 3) := by decide +kernel
theorem d_X12_in_5 : decode cX12_in 5 = .ok (.iload_n 0, 1) := by decide +kernel
theorem d_X12_in_6 : decode cX12_in 6 = .ok (.iload_n 2, 1) := by decide +kernel
theorem d_X12_in_7 : decode cX12_in 7 = .ok (.if_icmp .gt 7, 3) := by decide +kernel
theorem d_X12_in_10 : decode cX12_in 10 = .ok (.iconst 1, 1) := by decide +kernel
theorem d_X12_in_11 : decode cX12_in 11 = .ok (.goto 4, 3) := by decide +kernel
theorem d_X12_in_14 : decode cX12_in 14 = .ok (.iconst 0, 1) := by decide +kernel
theorem d_X12_in_15 : decode cX12_in 15 = .ok (.ireturn, 1) := by decide +kernel
theorem s_X12_in_e {G : Gl} (hG : G.1.stackTraces = false) {C : Cx} {n : Nat} {μ : Mem} {p0 : Int32} {p1 : Int32} {p2 : Int32} {r : Bool} (hf : f_X12_in μ p0 p1 p2 = some r) (hK : FinR G C F_X12_in (some .boolean) (some (.int (b2i r))) μ) : V G C F_X12_in 0 [some (.int p0), some (.int p1), some (.int p2)] [] (pic G μ) n 0 0 := by
  unfold f_X12_in at hf
  refine V_iload_n d_X12_in_0 rfl rfl ?_
  refine V_iload_n d_X12_in_1 rfl rfl ?_
  have hJj1 : ∀ j1 : Bool, j1 = (if p0 < p1 then (false : Bool) else (if p2 < p0 then (false : Bool) else true)) → V G C F_X12_in 15 [none, none, none] [.int (b2i j1)] (pic G μ) n 0 0 := by
    intro j1 ej1
    subst ej1
    cases hf
    exact R_z hK d_X12_in_15 (Nat.le_of_ble_eq_true rfl) (Nat.le_of_ble_eq_true rfl)
  refine V_icmp_lt (tgt := 14) d_X12_in_2 (by decide) (fun c2 => ?_) (fun c2 => ?_)
  · refine V_iconst (v := 0) d_X12_in_14 ic_0 ?_
    refine V_less (ls' := [none, none, none]) trivial ?_
    exact hJj1 false (by rw [if_pos c2])
  · refine V_iload_n d_X12_in_5 rfl rfl ?_
    refine V_iload_n d_X12_in_6 rfl rfl ?_
    refine V_icmp_gt (tgt := 14) d_X12_in_7 (by decide) (fun c7 => ?_) (fun c7 => ?_)
    · refine V_iconst (v := 0) d_X12_in_14 ic_0 ?_
      refine V_less (ls' := [none, none, none]) trivial ?_
      exact hJj1 false (by rw [if_neg c2, if_pos c7])
    · refine V_iconst (v := 1) d_X12_in_10 ic_1 ?_
      refine V_goto (tgt := 15) d_X12_in_11 (by decide) ?_
      refine V_less (ls' := [none, none, none]) trivial ?_
      exact hJj1 true (by rw [if_neg c2, if_neg c7])
theorem s_X12_in {G : Gl} (hG : G.1.stackTraces = false) {μ : Mem} {p0 : Int32} {p1 : Int32} {p2 : Int32} {r : Bool} (hf : f_X12_in μ p0 p1 p2 = some r) : Rt G yX12_in F_X12_in (some .boolean) [.int p0, .int p1, .int p2] μ (some (.int (b2i r))) μ := fun n => Sd.of hG ⟨by decide +kernel, rfl, rfl⟩ rfl (Nat.le_of_ble_eq_true rfl) rfl (fun C hK => s_X12_in_e hG hf hK)
theorem d_X12_has_0 : decode cX12_has 0 = .ok (.iload_n 0, 1) := by decide +kernel
theorem d_X12_has_1 : decode cX12_has 1 = .ok (.iload_n 1, 1) := by decide +kernel
theorem d_X12_has_2 : decode cX12_has 2 = .ok (.ishr, 1) := by decide +kernel
theorem d_X12_has_3 : decode cX12_has 3 = .ok (.iconst 1, 1) := by decide +kernel
theorem d_X12_has_4 : decode cX12_has 4 = .ok (.iand, 1) := by decide +kernel
theorem d_X12_has_5 : decode cX12_has 5 = .ok (.iconst 1, 1) := by decide +kernel
theorem d_X12_has_6 : decode cX12_has 6 = .ok (.if_icmp .ne 7, 3) := by decide +kernel
theorem d_X12_has_9 : decode cX12_has 9 = .ok (.iconst 1, 1) := by decide +kernel
theorem d_X12_has_10 : decode cX12_has 10 = .ok (.goto 4, 3) := by decide +kernel
theorem d_X12_has_13 : decode cX12_has 13 = .ok (.iconst 0, 1) := by decide +kernel
theorem d_X12_has_14 : decode cX12_has 14 = .ok (.ireturn, 1) := by decide +kernel
theorem s_X12_has_e {G : Gl} (hG : G.1.stackTraces = false) {C : Cx} {n : Nat} {μ : Mem} {p0 : Int32} {p1 : Int32} {r : Bool} (hf : f_X12_has μ p0 p1 = some r) (hK : FinR G C F_X12_has (some .boolean) (some (.int (b2i r))) μ) : V G C F_X12_has 0 [some (.int p0), some (.int p1)] [] (pic G μ) n 0 0 := by
  unfold f_X12_has at hf
  refine V_iload_n d_X12_has_0 rfl rfl ?_
  refine V_iload_n d_X12_has_1 rfl rfl ?_
  refine V_ishr d_X12_has_2 ?_
  refine V_iconst (v := 1) d_X12_has_3 ic_1 ?_
  refine V_iand d_X12_has_4 ?_
  refine V_iconst (v := 1) d_X12_has_5 ic_1 ?_
  have hJj1 : ∀ j1 : Bool, j1 = (if ((p0 >>> (p1 &&& 31)) &&& 1) = 1 then (true : Bool) else false) → V G C F_X12_has 14 [none, none] [.int (b2i j1)] (pic G μ) n 0 0 := by
    intro j1 ej1
    subst ej1
    cases hf
    exact R_z hK d_X12_has_14 (Nat.le_of_ble_eq_true rfl) (Nat.le_of_ble_eq_true rfl)
  refine V_icmp_ne (tgt := 13) d_X12_has_6 (by decide) (fun c6 => ?_) (fun c6 => ?_)
  · refine V_iconst (v := 0) d_X12_has_13 ic_0 ?_
    refine V_less (ls' := [none, none]) trivial ?_
    exact hJj1 false (by rw [if_neg c6])
  · refine V_iconst (v := 1) d_X12_has_9 ic_1 ?_
    refine V_goto (tgt := 14) d_X12_has_10 (by decide) ?_
    refine V_less (ls' := [none, none]) trivial ?_
    exact hJj1 true (by rw [if_pos c6])
theorem s_X12_has {G : Gl} (hG : G.1.stackTraces = false) {μ : Mem} {p0 : Int32} {p1 : Int32} {r : Bool} (hf : f_X12_has μ p0 p1 = some r) : Rt G yX12_has F_X12_has (some .boolean) [.int p0, .int p1] μ (some (.int (b2i r))) μ := fun n => Sd.of hG ⟨by decide +kernel, rfl, rfl⟩ rfl (Nat.le_of_ble_eq_true rfl) rfl (fun C hK => s_X12_has_e hG hf hK)
theorem d_X12_image_0 : decode cX12_image 0 = .ok (.aload_n 0, 1) := by decide +kernel
theorem d_X12_image_1 : decode cX12_image 1 = .ok (.iconst 0, 1) := by decide +kernel
theorem d_X12_image_2 : decode cX12_image 2 = .ok (.putfield 3, 3) := by decide +kernel
theorem d_X12_image_5 : decode cX12_image 5 = .ok (.iconst 0, 1) := by decide +kernel
theorem d_X12_image_6 : decode cX12_image 6 = .ok (.istore_n 1, 1) := by decide +kernel
theorem d_X12_image_7 : decode cX12_image 7 = .ok (.iload_n 1, 1) := by decide +kernel
theorem d_X12_image_8 : decode cX12_image 8 = .ok (.sipush 1219, 3) := by decide +kernel
theorem d_X12_image_11 : decode cX12_image 11 = .ok (.if_icmp .ge 21, 3) := by decide +kernel
theorem d_X12_image_14 : decode cX12_image 14 = .ok (.aload_n 0, 1) := by decide +kernel
theorem d_X12_image_15 : decode cX12_image 15 = .ok (.getfield 17, 3) := by decide +kernel
theorem d_X12_image_18 : decode cX12_image 18 = .ok (.iload_n 1, 1) := by decide +kernel
theorem d_X12_image_19 : decode cX12_image 19 = .ok (.aload_n 0, 1) := by decide +kernel
theorem d_X12_image_20 : decode cX12_image 20 = .ok (.getfield 13, 3) := by decide +kernel
theorem d_X12_image_23 : decode cX12_image 23 = .ok (.iload_n 1, 1) := by decide +kernel
theorem d_X12_image_24 : decode cX12_image 24 = .ok (.iaload, 1) := by decide +kernel
theorem d_X12_image_25 : decode cX12_image 25 = .ok (.iastore, 1) := by decide +kernel
theorem d_X12_image_26 : decode cX12_image 26 = .ok (.iinc 1 1, 3) := by decide +kernel
theorem d_X12_image_29 : decode cX12_image 29 = .ok (.goto (-22), 3) := by decide +kernel
theorem d_X12_image_32 : decode cX12_image 32 = .ok (.aload_n 0, 1) := by decide +kernel
theorem d_X12_image_33 : decode cX12_image 33 = .ok (.iconst 1, 1) := by decide +kernel
theorem d_X12_image_34 : decode cX12_image 34 = .ok (.putfield 52, 3) := by decide +kernel
theorem d_X12_image_37 : decode cX12_image 37 = .ok (.return_, 1) := by decide +kernel
theorem s_X12_image_b7 {G : Gl} (hG : G.1.stackTraces = false) {C : Cx} {n : Nat} {μ : Mem} {l1 : Int32} {y : ((Int32 × Mem) ⊕ Mem)} (hf : f_X12_image_b7 μ l1 = some y) (hK : (∀ z', y = .inl z' → ∀ n, V G C F_X12_image 7 [some (.ref (G.2.1 + 264)), some (.int z'.1)] [] (pic G z'.2) n 0 0) ∧ (∀ x', y = .inr x' → ∀ n, V G C F_X12_image 32 [some (.ref (G.2.1 + 264)), none] [] (pic G x') n 0 0)) : V G C F_X12_image 7 [some (.ref (G.2.1 + 264)), some (.int l1)] [] (pic G μ) n 0 0 := by
  unfold f_X12_image_b7 at hf
  refine V_iload_n d_X12_image_7 rfl rfl ?_
  refine V_sipush (v := 1219) d_X12_image_8 sp_1219 ?_
  refine V_icmp_ge (tgt := 32) d_X12_image_11 (by decide) (fun c11 => ?_) (fun c11 => ?_)
  · replace hf := iteT c11 hf
    refine V_less (ls' := [some _, none]) ⟨rfl, trivial⟩ ?_
    cases hf
    exact hK.2 _ rfl _
  · replace hf := iteF c11 hf
    refine V_aload_n d_X12_image_14 rfl rfl ?_
    refine B_get k_264 fl_RX12_17 d_X12_image_15 g_12_2 ?_
    refine V_iload_n d_X12_image_18 rfl rfl ?_
    refine V_aload_n d_X12_image_19 rfl rfl ?_
    refine B_get k_264 fl_RX12_13 d_X12_image_20 g_12_1 ?_
    refine V_iload_n d_X12_image_23 rfl rfl ?_
    obtain ⟨t1, ht1, hf⟩ := ob hf
    refine B_iald k_265 ht1 d_X12_image_24 ?_
    obtain ⟨μ2, hμ2, hf⟩ := ob hf
    refine B_iast k_266 hμ2 d_X12_image_25 ?_
    refine V_iinc (v := (l1 + 1)) (ls' := [_, _]) d_X12_image_26 rfl (by rw [ic_1]) rfl ?_
    refine V_goto (tgt := 7) d_X12_image_29 (by decide) ?_
    refine V_less (ls' := [some _, some _]) ⟨rfl, rfl, trivial⟩ ?_
    cases hf
    exact hK.1 _ rfl _
theorem s_X12_image_j32 {G : Gl} (hG : G.1.stackTraces = false) {C : Cx} {n : Nat} {μ : Mem}  {r : Mem} (hf : f_X12_image_j32 μ = some r) (hK : FinR G C F_X12_image none none r) : V G C F_X12_image 32 [some (.ref (G.2.1 + 264)), none] [] (pic G μ) n 0 0 := by
  unfold f_X12_image_j32 at hf
  refine V_aload_n d_X12_image_32 rfl rfl ?_
  refine V_iconst (v := 1) d_X12_image_33 ic_1 ?_
  refine B_putZ (v := true) k_264 fl_RX12_52 pt_12_6 (Nat.le_of_ble_eq_true rfl) p_12_6 d_X12_image_34 ?_
  cases hf
  exact R_v hK d_X12_image_37 (Nat.le_of_ble_eq_true rfl) (Nat.le_of_ble_eq_true rfl)
theorem s_X12_image_l7 {G : Gl} (hG : G.1.stackTraces = false) {C : Cx} {n : Nat} {μ : Mem} {l1 : Int32} {r : Mem} (hf : f_X12_image_l7 μ l1 = some r) (hK : FinR G C F_X12_image none none r) : V G C F_X12_image 7 [some (.ref (G.2.1 + 264)), some (.int l1)] [] (pic G μ) n 0 0 := by
  unfold f_X12_image_l7 at hf
  obtain ⟨t, hl, hf⟩ := ob hf
  refine loopV (P := fun z => ∀ n, V G C F_X12_image 7 [some (.ref (G.2.1 + 264)), some (.int z.1)] [] (pic G z.2) n 0 0) (t := t) ?_ _ _ hl n
  intro z y' hy hI hT n
  refine s_X12_image_b7 hG hy ⟨hI, fun x9 ex => ?_⟩
  have ex2 := hT x9 ex
  subst ex2
  intro n
  exact s_X12_image_j32 hG hf hK
theorem s_X12_image_e {G : Gl} (hG : G.1.stackTraces = false) {C : Cx} {n : Nat} {μ : Mem}  {r : Mem} (hf : f_X12_image μ = some r) (hK : FinR G C F_X12_image none none r) : V G C F_X12_image 0 [some (.ref (G.2.1 + 264)), none] [] (pic G μ) n 0 0 := by
  unfold f_X12_image at hf
  refine V_aload_n d_X12_image_0 rfl rfl ?_
  refine V_iconst (v := 0) d_X12_image_1 ic_0 ?_
  refine B_putI k_264 fl_RX12_3 pt_12_0 (Nat.le_of_ble_eq_true rfl) p_12_0 d_X12_image_2 ?_
  refine V_iconst (v := 0) d_X12_image_5 ic_0 ?_
  refine V_istore_n (ls' := [_, _]) d_X12_image_6 rfl rfl rfl ?_
  refine V_less (ls' := [some _, some _]) ⟨rfl, rfl, trivial⟩ ?_
  exact s_X12_image_l7 hG hf hK
theorem s_X12_image {G : Gl} (hG : G.1.stackTraces = false) {μ : Mem} {r : Mem} (hf : f_X12_image μ = some r) : Rt G yX12_image F_X12_image none [.ref (G.2.1 + 264)] μ none r := fun n => Sd.of hG ⟨by decide +kernel, rfl, rfl⟩ rfl (Nat.le_of_ble_eq_true rfl) rfl (fun C hK => s_X12_image_e hG hf hK)
theorem d_X12_back_0 : decode cX12_back 0 = .ok (.aload_n 0, 1) := by decide +kernel
theorem d_X12_back_1 : decode cX12_back 1 = .ok (.iconst 0, 1) := by decide +kernel
theorem d_X12_back_2 : decode cX12_back 2 = .ok (.putfield 3, 3) := by decide +kernel
theorem d_X12_back_5 : decode cX12_back 5 = .ok (.aload_n 0, 1) := by decide +kernel
theorem d_X12_back_6 : decode cX12_back 6 = .ok (.getfield 52, 3) := by decide +kernel
theorem d_X12_back_9 : decode cX12_back 9 = .ok (.ifCond .ne 5, 3) := by decide +kernel
theorem d_X12_back_12 : decode cX12_back 12 = .ok (.iconst 0, 1) := by decide +kernel
theorem d_X12_back_13 : decode cX12_back 13 = .ok (.ireturn, 1) := by decide +kernel
theorem d_X12_back_14 : decode cX12_back 14 = .ok (.iconst 0, 1) := by decide +kernel
theorem d_X12_back_15 : decode cX12_back 15 = .ok (.istore_n 1, 1) := by decide +kernel
theorem d_X12_back_16 : decode cX12_back 16 = .ok (.iload_n 1, 1) := by decide +kernel
theorem d_X12_back_17 : decode cX12_back 17 = .ok (.sipush 1219, 3) := by decide +kernel
theorem d_X12_back_20 : decode cX12_back 20 = .ok (.if_icmp .ge 21, 3) := by decide +kernel
theorem d_X12_back_23 : decode cX12_back 23 = .ok (.aload_n 0, 1) := by decide +kernel
theorem d_X12_back_24 : decode cX12_back 24 = .ok (.getfield 13, 3) := by decide +kernel
theorem d_X12_back_27 : decode cX12_back 27 = .ok (.iload_n 1, 1) := by decide +kernel
theorem d_X12_back_28 : decode cX12_back 28 = .ok (.aload_n 0, 1) := by decide +kernel
theorem d_X12_back_29 : decode cX12_back 29 = .ok (.getfield 17, 3) := by decide +kernel
theorem d_X12_back_32 : decode cX12_back 32 = .ok (.iload_n 1, 1) := by decide +kernel
theorem d_X12_back_33 : decode cX12_back 33 = .ok (.iaload, 1) := by decide +kernel
theorem d_X12_back_34 : decode cX12_back 34 = .ok (.iastore, 1) := by decide +kernel
theorem d_X12_back_35 : decode cX12_back 35 = .ok (.iinc 1 1, 3) := by decide +kernel
theorem d_X12_back_38 : decode cX12_back 38 = .ok (.goto (-22), 3) := by decide +kernel
theorem d_X12_back_41 : decode cX12_back 41 = .ok (.aload_n 0, 1) := by decide +kernel
theorem d_X12_back_42 : decode cX12_back 42 = .ok (.iconst 0, 1) := by decide +kernel
theorem d_X12_back_43 : decode cX12_back 43 = .ok (.putfield 56, 3) := by decide +kernel
theorem d_X12_back_46 : decode cX12_back 46 = .ok (.iconst 1, 1) := by decide +kernel
theorem d_X12_back_47 : decode cX12_back 47 = .ok (.ireturn, 1) := by decide +kernel
theorem s_X12_back_b16 {G : Gl} (hG : G.1.stackTraces = false) {C : Cx} {n : Nat} {μ : Mem} {l1 : Int32} {y : ((Int32 × Mem) ⊕ Mem)} (hf : f_X12_back_b16 μ l1 = some y) (hK : (∀ z', y = .inl z' → ∀ n, V G C F_X12_back 16 [some (.ref (G.2.1 + 264)), some (.int z'.1)] [] (pic G z'.2) n 0 0) ∧ (∀ x', y = .inr x' → ∀ n, V G C F_X12_back 41 [some (.ref (G.2.1 + 264)), none] [] (pic G x') n 0 0)) : V G C F_X12_back 16 [some (.ref (G.2.1 + 264)), some (.int l1)] [] (pic G μ) n 0 0 := by
  unfold f_X12_back_b16 at hf
  refine V_iload_n d_X12_back_16 rfl rfl ?_
  refine V_sipush (v := 1219) d_X12_back_17 sp_1219 ?_
  refine V_icmp_ge (tgt := 41) d_X12_back_20 (by decide) (fun c20 => ?_) (fun c20 => ?_)
  · replace hf := iteT c20 hf
    refine V_less (ls' := [some _, none]) ⟨rfl, trivial⟩ ?_
    cases hf
    exact hK.2 _ rfl _
  · replace hf := iteF c20 hf
    refine V_aload_n d_X12_back_23 rfl rfl ?_
    refine B_get k_264 fl_RX12_13 d_X12_back_24 g_12_1 ?_
    refine V_iload_n d_X12_back_27 rfl rfl ?_
    refine V_aload_n d_X12_back_28 rfl rfl ?_
    refine B_get k_264 fl_RX12_17 d_X12_back_29 g_12_2 ?_
    refine V_iload_n d_X12_back_32 rfl rfl ?_
    obtain ⟨t1, ht1, hf⟩ := ob hf
    refine B_iald k_266 ht1 d_X12_back_33 ?_
    obtain ⟨μ2, hμ2, hf⟩ := ob hf
    refine B_iast k_265 hμ2 d_X12_back_34 ?_
    refine V_iinc (v := (l1 + 1)) (ls' := [_, _]) d_X12_back_35 rfl (by rw [ic_1]) rfl ?_
    refine V_goto (tgt := 16) d_X12_back_38 (by decide) ?_
    refine V_less (ls' := [some _, some _]) ⟨rfl, rfl, trivial⟩ ?_
    cases hf
    exact hK.1 _ rfl _
theorem s_X12_back_j41 {G : Gl} (hG : G.1.stackTraces = false) {C : Cx} {n : Nat} {μ : Mem}  {r : (Bool × Mem)} (hf : f_X12_back_j41 μ = some r) (hK : FinR G C F_X12_back (some .boolean) (some (.int (b2i r.1))) r.2) : V G C F_X12_back 41 [some (.ref (G.2.1 + 264)), none] [] (pic G μ) n 0 0 := by
  unfold f_X12_back_j41 at hf
  refine V_aload_n d_X12_back_41 rfl rfl ?_
  refine V_iconst (v := 0) d_X12_back_42 ic_0 ?_
  refine B_putI k_264 fl_RX12_56 pt_12_7 (Nat.le_of_ble_eq_true rfl) p_12_7 d_X12_back_43 ?_
  refine V_iconst (v := 1) d_X12_back_46 ic_1 ?_
  cases hf
  exact R_z hK d_X12_back_47 (Nat.le_of_ble_eq_true rfl) (Nat.le_of_ble_eq_true rfl)
theorem s_X12_back_l16 {G : Gl} (hG : G.1.stackTraces = false) {C : Cx} {n : Nat} {μ : Mem} {l1 : Int32} {r : (Bool × Mem)} (hf : f_X12_back_l16 μ l1 = some r) (hK : FinR G C F_X12_back (some .boolean) (some (.int (b2i r.1))) r.2) : V G C F_X12_back 16 [some (.ref (G.2.1 + 264)), some (.int l1)] [] (pic G μ) n 0 0 := by
  unfold f_X12_back_l16 at hf
  obtain ⟨t, hl, hf⟩ := ob hf
  refine loopV (P := fun z => ∀ n, V G C F_X12_back 16 [some (.ref (G.2.1 + 264)), some (.int z.1)] [] (pic G z.2) n 0 0) (t := t) ?_ _ _ hl n
  intro z y' hy hI hT n
  refine s_X12_back_b16 hG hy ⟨hI, fun x9 ex => ?_⟩
  have ex2 := hT x9 ex
  subst ex2
  intro n
  exact s_X12_back_j41 hG hf hK
theorem s_X12_back_e {G : Gl} (hG : G.1.stackTraces = false) {C : Cx} {n : Nat} {μ : Mem}  {r : (Bool × Mem)} (hf : f_X12_back μ = some r) (hK : FinR G C F_X12_back (some .boolean) (some (.int (b2i r.1))) r.2) : V G C F_X12_back 0 [some (.ref (G.2.1 + 264)), none] [] (pic G μ) n 0 0 := by
  unfold f_X12_back at hf
  refine V_aload_n d_X12_back_0 rfl rfl ?_
  refine V_iconst (v := 0) d_X12_back_1 ic_0 ?_
  refine B_putI k_264 fl_RX12_3 pt_12_0 (Nat.le_of_ble_eq_true rfl) p_12_0 d_X12_back_2 ?_
  refine V_aload_n d_X12_back_5 rfl rfl ?_
  refine B_get k_264 fl_RX12_52 d_X12_back_6 g_12_6 ?_
  refine V_if_ne (tgt := 14) d_X12_back_9 (by decide) (fun c9 => ?_) (fun c9 => ?_)
  · replace hf := iteT (b2i_ne0 c9) hf
    refine V_iconst (v := 0) d_X12_back_14 ic_0 ?_
    refine V_istore_n (ls' := [_, _]) d_X12_back_15 rfl rfl rfl ?_
    refine V_less (ls' := [some _, some _]) ⟨rfl, rfl, trivial⟩ ?_
    exact s_X12_back_l16 hG hf hK
  · replace hf := iteF (b2i_nt (b2i_eq0 c9)) hf
    refine V_iconst (v := 0) d_X12_back_12 ic_0 ?_
    cases hf
    exact R_z hK d_X12_back_13 (Nat.le_of_ble_eq_true rfl) (Nat.le_of_ble_eq_true rfl)
theorem s_X12_back {G : Gl} (hG : G.1.stackTraces = false) {μ : Mem} {r : (Bool × Mem)} (hf : f_X12_back μ = some r) : Rt G yX12_back F_X12_back (some .boolean) [.ref (G.2.1 + 264)] μ (some (.int (b2i r.1))) r.2 := fun n => Sd.of hG ⟨by decide +kernel, rfl, rfl⟩ rfl (Nat.le_of_ble_eq_true rfl) rfl (fun C hK => s_X12_back_e hG hf hK)
theorem d_X12_remembers_0 : decode cX12_remembers 0 = .ok (.aload_n 0, 1) := by decide +kernel
theorem d_X12_remembers_1 : decode cX12_remembers 1 = .ok (.getfield 56, 3) := by decide +kernel
theorem d_X12_remembers_4 : decode cX12_remembers 4 = .ok (.bipush 12, 2) := by decide +kernel
theorem d_X12_remembers_6 : decode cX12_remembers 6 = .ok (.if_icmp .ne 37, 3) := by decide +kernel
theorem d_X12_remembers_9 : decode cX12_remembers 9 = .ok (.iconst 0, 1) := by decide +kernel
theorem d_X12_remembers_10 : decode cX12_remembers 10 = .ok (.istore_n 1, 1) := by decide +kernel
theorem d_X12_remembers_11 : decode cX12_remembers 11 = .ok (.iload_n 1, 1) := by decide +kernel
theorem d_X12_remembers_12 : decode cX12_remembers 12 = .ok (.sipush 4070, 3) := by decide +kernel
theorem d_X12_remembers_15 : decode cX12_remembers 15 = .ok (.if_icmp .ge 25, 3) := by decide +kernel
theorem d_X12_remembers_18 : decode cX12_remembers 18 = .ok (.aload_n 0, 1) := by decide +kernel
theorem d_X12_remembers_19 : decode cX12_remembers 19 = .ok (.getfield 26, 3) := by decide +kernel
theorem d_X12_remembers_22 : decode cX12_remembers 22 = .ok (.iload_n 1, 1) := by decide +kernel
theorem d_X12_remembers_23 : decode cX12_remembers 23 = .ok (.aload_n 0, 1) := by decide +kernel
theorem d_X12_remembers_24 : decode cX12_remembers 24 = .ok (.getfield 26, 3) := by decide +kernel
theorem d_X12_remembers_27 : decode cX12_remembers 27 = .ok (.iload_n 1, 1) := by decide +kernel
theorem d_X12_remembers_28 : decode cX12_remembers 28 = .ok (.sipush 370, 3) := by decide +kernel
theorem d_X12_remembers_31 : decode cX12_remembers 31 = .ok (.iadd, 1) := by decide +kernel
theorem d_X12_remembers_32 : decode cX12_remembers 32 = .ok (.iaload, 1) := by decide +kernel
theorem d_X12_remembers_33 : decode cX12_remembers 33 = .ok (.iastore, 1) := by decide +kernel
theorem d_X12_remembers_34 : decode cX12_remembers 34 = .ok (.iinc 1 1, 3) := by decide +kernel
theorem d_X12_remembers_37 : decode cX12_remembers 37 = .ok (.goto (-26), 3) := by decide +kernel
theorem d_X12_remembers_40 : decode cX12_remembers 40 = .ok (.goto 13, 3) := by decide +kernel
theorem d_X12_remembers_43 : decode cX12_remembers 43 = .ok (.aload_n 0, 1) := by decide +kernel
theorem d_X12_remembers_44 : decode cX12_remembers 44 = .ok (.dup, 1) := by decide +kernel
theorem d_X12_remembers_45 : decode cX12_remembers 45 = .ok (.getfield 56, 3) := by decide +kernel
theorem d_X12_remembers_48 : decode cX12_remembers 48 = .ok (.iconst 1, 1) := by decide +kernel
theorem d_X12_remembers_49 : decode cX12_remembers 49 = .ok (.iadd, 1) := by decide +kernel
theorem d_X12_remembers_50 : decode cX12_remembers 50 = .ok (.putfield 56, 3) := by decide +kernel
theorem d_X12_remembers_53 : decode cX12_remembers 53 = .ok (.iconst 0, 1) := by decide +kernel
theorem d_X12_remembers_54 : decode cX12_remembers 54 = .ok (.istore_n 1, 1) := by decide +kernel
theorem d_X12_remembers_55 : decode cX12_remembers 55 = .ok (.iload_n 1, 1) := by decide +kernel
theorem d_X12_remembers_56 : decode cX12_remembers 56 = .ok (.sipush 370, 3) := by decide +kernel
theorem d_X12_remembers_59 : decode cX12_remembers 59 = .ok (.if_icmp .ge 32, 3) := by decide +kernel
theorem d_X12_remembers_62 : decode cX12_remembers 62 = .ok (.aload_n 0, 1) := by decide +kernel
theorem d_X12_remembers_63 : decode cX12_remembers 63 = .ok (.getfield 26, 3) := by decide +kernel
theorem d_X12_remembers_66 : decode cX12_remembers 66 = .ok (.sipush 370, 3) := by decide +kernel
theorem d_X12_remembers_69 : decode cX12_remembers 69 = .ok (.aload_n 0, 1) := by decide +kernel
theorem d_X12_remembers_70 : decode cX12_remembers 70 = .ok (.getfield 56, 3) := by decide +kernel
theorem d_X12_remembers_73 : decode cX12_remembers 73 = .ok (.iconst 1, 1) := by decide +kernel
theorem d_X12_remembers_74 : decode cX12_remembers 74 = .ok (.isub, 1) := by decide +kernel
theorem d_X12_remembers_75 : decode cX12_remembers 75 = .ok (.imul, 1) := by decide +kernel
theorem d_X12_remembers_76 : decode cX12_remembers 76 = .ok (.iload_n 1, 1) := by decide +kernel
theorem d_X12_remembers_77 : decode cX12_remembers 77 = .ok (.iadd, 1) := by decide +kernel
theorem d_X12_remembers_78 : decode cX12_remembers 78 = .ok (.aload_n 0, 1) := by decide +kernel
theorem d_X12_remembers_79 : decode cX12_remembers 79 = .ok (.getfield 13, 3) := by decide +kernel
theorem d_X12_remembers_82 : decode cX12_remembers 82 = .ok (.iload_n 1, 1) := by decide +kernel
theorem d_X12_remembers_83 : decode cX12_remembers 83 = .ok (.iaload, 1) := by decide +kernel
theorem d_X12_remembers_84 : decode cX12_remembers 84 = .ok (.iastore, 1) := by decide +kernel
theorem d_X12_remembers_85 : decode cX12_remembers 85 = .ok (.iinc 1 1, 3) := by decide +kernel
theorem d_X12_remembers_88 : decode cX12_remembers 88 = .ok (.goto (-33), 3) := by decide +kernel
theorem d_X12_remembers_91 : decode cX12_remembers 91 = .ok (.return_, 1) := by decide +kernel
theorem s_X12_remembers_b55 {G : Gl} (hG : G.1.stackTraces = false) {C : Cx} {n : Nat} {μ : Mem} {l1 : Int32} {y : ((Int32 × Mem) ⊕ Mem)} (hf : f_X12_remembers_b55 μ l1 = some y) (hK : (∀ z', y = .inl z' → ∀ n, V G C F_X12_remembers 55 [some (.ref (G.2.1 + 264)), some (.int z'.1)] [] (pic G z'.2) n 0 0) ∧ (∀ x', y = .inr x' → ∀ n, V G C F_X12_remembers 91 [none, none] [] (pic G x') n 0 0)) : V G C F_X12_remembers 55 [some (.ref (G.2.1 + 264)), some (.int l1)] [] (pic G μ) n 0 0 := by
  unfold f_X12_remembers_b55 at hf
  refine V_iload_n d_X12_remembers_55 rfl rfl ?_
  refine V_sipush (v := 370) d_X12_remembers_56 sp_370 ?_
  refine V_icmp_ge (tgt := 91) d_X12_remembers_59 (by decide) (fun c59 => ?_) (fun c59 => ?_)
  · replace hf := iteT c59 hf
    refine V_less (ls' := [none, none]) trivial ?_
    cases hf
    exact hK.2 _ rfl _
  · replace hf := iteF c59 hf
    refine V_aload_n d_X12_remembers_62 rfl rfl ?_
    refine B_get k_264 fl_RX12_26 d_X12_remembers_63 g_12_5 ?_
    refine V_sipush (v := 370) d_X12_remembers_66 sp_370 ?_
    refine V_aload_n d_X12_remembers_69 rfl rfl ?_
    refine B_get k_264 fl_RX12_56 d_X12_remembers_70 g_12_7 ?_
    refine V_iconst (v := 1) d_X12_remembers_73 ic_1 ?_
    refine V_isub d_X12_remembers_74 ?_
    refine V_imul d_X12_remembers_75 ?_
    refine V_iload_n d_X12_remembers_76 rfl rfl ?_
    refine V_iadd d_X12_remembers_77 ?_
    refine V_aload_n d_X12_remembers_78 rfl rfl ?_
    refine B_get k_264 fl_RX12_13 d_X12_remembers_79 g_12_1 ?_
    refine V_iload_n d_X12_remembers_82 rfl rfl ?_
    obtain ⟨t1, ht1, hf⟩ := ob hf
    refine B_iald k_265 ht1 d_X12_remembers_83 ?_
    obtain ⟨μ2, hμ2, hf⟩ := ob hf
    refine B_iast k_269 hμ2 d_X12_remembers_84 ?_
    refine V_iinc (v := (l1 + 1)) (ls' := [_, _]) d_X12_remembers_85 rfl (by rw [ic_1]) rfl ?_
    refine V_goto (tgt := 55) d_X12_remembers_88 (by decide) ?_
    refine V_less (ls' := [some _, some _]) ⟨rfl, rfl, trivial⟩ ?_
    cases hf
    exact hK.1 _ rfl _
theorem s_X12_remembers_j91 {G : Gl} (hG : G.1.stackTraces = false) {C : Cx} {n : Nat} {μ : Mem}  {r : Mem} (hf : f_X12_remembers_j91 μ = some r) (hK : FinR G C F_X12_remembers none none r) : V G C F_X12_remembers 91 [none, none] [] (pic G μ) n 0 0 := by
  unfold f_X12_remembers_j91 at hf
  cases hf
  exact R_v hK d_X12_remembers_91 (Nat.le_of_ble_eq_true rfl) (Nat.le_of_ble_eq_true rfl)
theorem s_X12_remembers_l55 {G : Gl} (hG : G.1.stackTraces = false) {C : Cx} {n : Nat} {μ : Mem} {l1 : Int32} {r : Mem} (hf : f_X12_remembers_l55 μ l1 = some r) (hK : FinR G C F_X12_remembers none none r) : V G C F_X12_remembers 55 [some (.ref (G.2.1 + 264)), some (.int l1)] [] (pic G μ) n 0 0 := by
  unfold f_X12_remembers_l55 at hf
  obtain ⟨t, hl, hf⟩ := ob hf
  refine loopV (P := fun z => ∀ n, V G C F_X12_remembers 55 [some (.ref (G.2.1 + 264)), some (.int z.1)] [] (pic G z.2) n 0 0) (t := t) ?_ _ _ hl n
  intro z y' hy hI hT n
  refine s_X12_remembers_b55 hG hy ⟨hI, fun x9 ex => ?_⟩
  have ex2 := hT x9 ex
  subst ex2
  intro n
  exact s_X12_remembers_j91 hG hf hK
theorem s_X12_remembers_j53 {G : Gl} (hG : G.1.stackTraces = false) {C : Cx} {n : Nat} {μ : Mem}  {r : Mem} (hf : f_X12_remembers_j53 μ = some r) (hK : FinR G C F_X12_remembers none none r) : V G C F_X12_remembers 53 [some (.ref (G.2.1 + 264)), none] [] (pic G μ) n 0 0 := by
  unfold f_X12_remembers_j53 at hf
  refine V_iconst (v := 0) d_X12_remembers_53 ic_0 ?_
  refine V_istore_n (ls' := [_, _]) d_X12_remembers_54 rfl rfl rfl ?_
  refine V_less (ls' := [some _, some _]) ⟨rfl, rfl, trivial⟩ ?_
  exact s_X12_remembers_l55 hG hf hK
theorem s_X12_remembers_b11 {G : Gl} (hG : G.1.stackTraces = false) {C : Cx} {n : Nat} {μ : Mem} {l1 : Int32} {y : ((Int32 × Mem) ⊕ Mem)} (hf : f_X12_remembers_b11 μ l1 = some y) (hK : (∀ z', y = .inl z' → ∀ n, V G C F_X12_remembers 11 [some (.ref (G.2.1 + 264)), some (.int z'.1)] [] (pic G z'.2) n 0 0) ∧ (∀ x', y = .inr x' → ∀ n, V G C F_X12_remembers 40 [some (.ref (G.2.1 + 264)), none] [] (pic G x') n 0 0)) : V G C F_X12_remembers 11 [some (.ref (G.2.1 + 264)), some (.int l1)] [] (pic G μ) n 0 0 := by
  unfold f_X12_remembers_b11 at hf
  refine V_iload_n d_X12_remembers_11 rfl rfl ?_
  refine V_sipush (v := 4070) d_X12_remembers_12 sp_4070 ?_
  refine V_icmp_ge (tgt := 40) d_X12_remembers_15 (by decide) (fun c15 => ?_) (fun c15 => ?_)
  · replace hf := iteT c15 hf
    refine V_less (ls' := [some _, none]) ⟨rfl, trivial⟩ ?_
    cases hf
    exact hK.2 _ rfl _
  · replace hf := iteF c15 hf
    refine V_aload_n d_X12_remembers_18 rfl rfl ?_
    refine B_get k_264 fl_RX12_26 d_X12_remembers_19 g_12_5 ?_
    refine V_iload_n d_X12_remembers_22 rfl rfl ?_
    refine V_aload_n d_X12_remembers_23 rfl rfl ?_
    refine B_get k_264 fl_RX12_26 d_X12_remembers_24 g_12_5 ?_
    refine V_iload_n d_X12_remembers_27 rfl rfl ?_
    refine V_sipush (v := 370) d_X12_remembers_28 sp_370 ?_
    refine V_iadd d_X12_remembers_31 ?_
    obtain ⟨t1, ht1, hf⟩ := ob hf
    refine B_iald k_269 ht1 d_X12_remembers_32 ?_
    obtain ⟨μ2, hμ2, hf⟩ := ob hf
    refine B_iast k_269 hμ2 d_X12_remembers_33 ?_
    refine V_iinc (v := (l1 + 1)) (ls' := [_, _]) d_X12_remembers_34 rfl (by rw [ic_1]) rfl ?_
    refine V_goto (tgt := 11) d_X12_remembers_37 (by decide) ?_
    refine V_less (ls' := [some _, some _]) ⟨rfl, rfl, trivial⟩ ?_
    cases hf
    exact hK.1 _ rfl _
theorem s_X12_remembers_j40 {G : Gl} (hG : G.1.stackTraces = false) {C : Cx} {n : Nat} {μ : Mem}  {r : Mem} (hf : f_X12_remembers_j40 μ = some r) (hK : FinR G C F_X12_remembers none none r) : V G C F_X12_remembers 40 [some (.ref (G.2.1 + 264)), none] [] (pic G μ) n 0 0 := by
  unfold f_X12_remembers_j40 at hf
  refine V_goto (tgt := 53) d_X12_remembers_40 (by decide) ?_
  refine V_less (ls' := [some _, none]) ⟨rfl, trivial⟩ ?_
  exact s_X12_remembers_j53 hG hf hK
theorem s_X12_remembers_l11 {G : Gl} (hG : G.1.stackTraces = false) {C : Cx} {n : Nat} {μ : Mem} {l1 : Int32} {r : Mem} (hf : f_X12_remembers_l11 μ l1 = some r) (hK : FinR G C F_X12_remembers none none r) : V G C F_X12_remembers 11 [some (.ref (G.2.1 + 264)), some (.int l1)] [] (pic G μ) n 0 0 := by
  unfold f_X12_remembers_l11 at hf
  obtain ⟨t, hl, hf⟩ := ob hf
  refine loopV (P := fun z => ∀ n, V G C F_X12_remembers 11 [some (.ref (G.2.1 + 264)), some (.int z.1)] [] (pic G z.2) n 0 0) (t := t) ?_ _ _ hl n
  intro z y' hy hI hT n
  refine s_X12_remembers_b11 hG hy ⟨hI, fun x9 ex => ?_⟩
  have ex2 := hT x9 ex
  subst ex2
  intro n
  exact s_X12_remembers_j40 hG hf hK
theorem s_X12_remembers_e {G : Gl} (hG : G.1.stackTraces = false) {C : Cx} {n : Nat} {μ : Mem}  {r : Mem} (hf : f_X12_remembers μ = some r) (hK : FinR G C F_X12_remembers none none r) : V G C F_X12_remembers 0 [some (.ref (G.2.1 + 264)), none] [] (pic G μ) n 0 0 := by
  unfold f_X12_remembers at hf
  refine V_aload_n d_X12_remembers_0 rfl rfl ?_
  refine B_get k_264 fl_RX12_56 d_X12_remembers_1 g_12_7 ?_
  refine V_bipush (v := 12) d_X12_remembers_4 bp_12 ?_
  refine V_icmp_ne (tgt := 43) d_X12_remembers_6 (by decide) (fun c6 => ?_) (fun c6 => ?_)
  · replace hf := iteF c6 hf
    refine V_aload_n d_X12_remembers_43 rfl rfl ?_
    refine V_dup d_X12_remembers_44 rfl ?_
    refine B_get k_264 fl_RX12_56 d_X12_remembers_45 g_12_7 ?_
    refine V_iconst (v := 1) d_X12_remembers_48 ic_1 ?_
    refine V_iadd d_X12_remembers_49 ?_
    refine B_putI k_264 fl_RX12_56 pt_12_7 (Nat.le_of_ble_eq_true rfl) p_12_7 d_X12_remembers_50 ?_
    refine V_less (ls' := [some _, none]) ⟨rfl, trivial⟩ ?_
    exact s_X12_remembers_j53 hG hf hK
  · replace hf := iteT c6 hf
    refine V_iconst (v := 0) d_X12_remembers_9 ic_0 ?_
    refine V_istore_n (ls' := [_, _]) d_X12_remembers_10 rfl rfl rfl ?_
    refine V_less (ls' := [some _, some _]) ⟨rfl, rfl, trivial⟩ ?_
    exact s_X12_remembers_l11 hG hf hK
theorem s_X12_remembers {G : Gl} (hG : G.1.stackTraces = false) {μ : Mem} {r : Mem} (hf : f_X12_remembers μ = some r) : Rt G yX12_remembers F_X12_remembers none [.ref (G.2.1 + 264)] μ none r := fun n => Sd.of hG ⟨by decide +kernel, rfl, rfl⟩ rfl (Nat.le_of_ble_eq_true rfl) rfl (fun C hK => s_X12_remembers_e hG hf hK)
theorem d_X12_undo_0 : decode cX12_undo 0 = .ok (.aload_n 0, 1) := by decide +kernel
theorem d_X12_undo_1 : decode cX12_undo 1 = .ok (.iconst 0, 1) := by decide +kernel
theorem d_X12_undo_2 : decode cX12_undo 2 = .ok (.putfield 3, 3) := by decide +kernel
theorem d_X12_undo_5 : decode cX12_undo 5 = .ok (.aload_n 0, 1) := by decide +kernel
theorem d_X12_undo_6 : decode cX12_undo 6 = .ok (.getfield 56, 3) := by decide +kernel
theorem d_X12_undo_9 : decode cX12_undo 9 = .ok (.ifCond .ne 5, 3) := by decide +kernel
theorem d_X12_undo_12 : decode cX12_undo 12 = .ok (.iconst 0, 1) := by decide +kernel
theorem d_X12_undo_13 : decode cX12_undo 13 = .ok (.ireturn, 1) := by decide +kernel
theorem d_X12_undo_14 : decode cX12_undo 14 = .ok (.aload_n 0, 1) := by decide +kernel
theorem d_X12_undo_15 : decode cX12_undo 15 = .ok (.dup, 1) := by decide +kernel
theorem d_X12_undo_16 : decode cX12_undo 16 = .ok (.getfield 56, 3) := by decide +kernel
theorem d_X12_undo_19 : decode cX12_undo 19 = .ok (.iconst 1, 1) := by decide +kernel
theorem d_X12_undo_20 : decode cX12_undo 20 = .ok (.isub, 1) := by decide +kernel
theorem d_X12_undo_21 : decode cX12_undo 21 = .ok (.putfield 56, 3) := by decide +kernel
theorem d_X12_undo_24 : decode cX12_undo 24 = .ok (.iconst 0, 1) := by decide +kernel
theorem d_X12_undo_25 : decode cX12_undo 25 = .ok (.istore_n 1, 1) := by decide +kernel
theorem d_X12_undo_26 : decode cX12_undo 26 = .ok (.iload_n 1, 1) := by decide +kernel
theorem d_X12_undo_27 : decode cX12_undo 27 = .ok (.sipush 370, 3) := by decide +kernel
theorem d_X12_undo_30 : decode cX12_undo 30 = .ok (.if_icmp .ge 30, 3) := by decide +kernel
theorem d_X12_undo_33 : decode cX12_undo 33 = .ok (.aload_n 0, 1) := by decide +kernel
theorem d_X12_undo_34 : decode cX12_undo 34 = .ok (.getfield 13, 3) := by decide +kernel
theorem d_X12_undo_37 : decode cX12_undo 37 = .ok (.iload_n 1, 1) := by decide +kernel
theorem d_X12_undo_38 : decode cX12_undo 38 = .ok (.aload_n 0, 1) := by decide +kernel
theorem d_X12_undo_39 : decode cX12_undo 39 = .ok (.getfield 26, 3) := by decide +kernel
theorem d_X12_undo_42 : decode cX12_undo 42 = .ok (.sipush 370, 3) := by decide +kernel
theorem d_X12_undo_45 : decode cX12_undo 45 = .ok (.aload_n 0, 1) := by decide +kernel
theorem d_X12_undo_46 : decode cX12_undo 46 = .ok (.getfield 56, 3) := by decide +kernel
theorem d_X12_undo_49 : decode cX12_undo 49 = .ok (.imul, 1) := by decide +kernel
theorem d_X12_undo_50 : decode cX12_undo 50 = .ok (.iload_n 1, 1) := by decide +kernel
theorem d_X12_undo_51 : decode cX12_undo 51 = .ok (.iadd, 1) := by decide +kernel
theorem d_X12_undo_52 : decode cX12_undo 52 = .ok (.iaload, 1) := by decide +kernel
theorem d_X12_undo_53 : decode cX12_undo 53 = .ok (.iastore, 1) := by decide +kernel
theorem d_X12_undo_54 : decode cX12_undo 54 = .ok (.iinc 1 1, 3) := by decide +kernel
theorem d_X12_undo_57 : decode cX12_undo 57 = .ok (.goto (-31), 3) := by decide +kernel
theorem d_X12_undo_60 : decode cX12_undo 60 = .ok (.iconst 1, 1) := by decide +kernel
theorem d_X12_undo_61 : decode cX12_undo 61 = .ok (.ireturn, 1) := by decide +kernel
theorem s_X12_undo_b26 {G : Gl} (hG : G.1.stackTraces = false) {C : Cx} {n : Nat} {μ : Mem} {l1 : Int32} {y : ((Int32 × Mem) ⊕ Mem)} (hf : f_X12_undo_b26 μ l1 = some y) (hK : (∀ z', y = .inl z' → ∀ n, V G C F_X12_undo 26 [some (.ref (G.2.1 + 264)), some (.int z'.1)] [] (pic G z'.2) n 0 0) ∧ (∀ x', y = .inr x' → ∀ n, V G C F_X12_undo 60 [none, none] [] (pic G x') n 0 0)) : V G C F_X12_undo 26 [some (.ref (G.2.1 + 264)), some (.int l1)] [] (pic G μ) n 0 0 := by
  unfold f_X12_undo_b26 at hf
  refine V_iload_n d_X12_undo_26 rfl rfl ?_
  refine V_sipush (v := 370) d_X12_undo_27 sp_370 ?_
  refine V_icmp_ge (tgt := 60) d_X12_undo_30 (by decide) (fun c30 => ?_) (fun c30 => ?_)
  · replace hf := iteT c30 hf
    refine V_less (ls' := [none, none]) trivial ?_
    cases hf
    exact hK.2 _ rfl _
  · replace hf := iteF c30 hf
    refine V_aload_n d_X12_undo_33 rfl rfl ?_
    refine B_get k_264 fl_RX12_13 d_X12_undo_34 g_12_1 ?_
    refine V_iload_n d_X12_undo_37 rfl rfl ?_
    refine V_aload_n d_X12_undo_38 rfl rfl ?_
    refine B_get k_264 fl_RX12_26 d_X12_undo_39 g_12_5 ?_
    refine V_sipush (v := 370) d_X12_undo_42 sp_370 ?_
    refine V_aload_n d_X12_undo_45 rfl rfl ?_
    refine B_get k_264 fl_RX12_56 d_X12_undo_46 g_12_7 ?_
    refine V_imul d_X12_undo_49 ?_
    refine V_iload_n d_X12_undo_50 rfl rfl ?_
    refine V_iadd d_X12_undo_51 ?_
    obtain ⟨t1, ht1, hf⟩ := ob hf
    refine B_iald k_269 ht1 d_X12_undo_52 ?_
    obtain ⟨μ2, hμ2, hf⟩ := ob hf
    refine B_iast k_265 hμ2 d_X12_undo_53 ?_
    refine V_iinc (v := (l1 + 1)) (ls' := [_, _]) d_X12_undo_54 rfl (by rw [ic_1]) rfl ?_
    refine V_goto (tgt := 26) d_X12_undo_57 (by decide) ?_
    refine V_less (ls' := [some _, some _]) ⟨rfl, rfl, trivial⟩ ?_
    cases hf
    exact hK.1 _ rfl _
theorem s_X12_undo_j60 {G : Gl} (hG : G.1.stackTraces = false) {C : Cx} {n : Nat} {μ : Mem}  {r : (Bool × Mem)} (hf : f_X12_undo_j60 μ = some r) (hK : FinR G C F_X12_undo (some .boolean) (some (.int (b2i r.1))) r.2) : V G C F_X12_undo 60 [none, none] [] (pic G μ) n 0 0 := by
  unfold f_X12_undo_j60 at hf
  refine V_iconst (v := 1) d_X12_undo_60 ic_1 ?_
  cases hf
  exact R_z hK d_X12_undo_61 (Nat.le_of_ble_eq_true rfl) (Nat.le_of_ble_eq_true rfl)
theorem s_X12_undo_l26 {G : Gl} (hG : G.1.stackTraces = false) {C : Cx} {n : Nat} {μ : Mem} {l1 : Int32} {r : (Bool × Mem)} (hf : f_X12_undo_l26 μ l1 = some r) (hK : FinR G C F_X12_undo (some .boolean) (some (.int (b2i r.1))) r.2) : V G C F_X12_undo 26 [some (.ref (G.2.1 + 264)), some (.int l1)] [] (pic G μ) n 0 0 := by
  unfold f_X12_undo_l26 at hf
  obtain ⟨t, hl, hf⟩ := ob hf
  refine loopV (P := fun z => ∀ n, V G C F_X12_undo 26 [some (.ref (G.2.1 + 264)), some (.int z.1)] [] (pic G z.2) n 0 0) (t := t) ?_ _ _ hl n
  intro z y' hy hI hT n
  refine s_X12_undo_b26 hG hy ⟨hI, fun x9 ex => ?_⟩
  have ex2 := hT x9 ex
  subst ex2
  intro n
  exact s_X12_undo_j60 hG hf hK
theorem s_X12_undo_e {G : Gl} (hG : G.1.stackTraces = false) {C : Cx} {n : Nat} {μ : Mem}  {r : (Bool × Mem)} (hf : f_X12_undo μ = some r) (hK : FinR G C F_X12_undo (some .boolean) (some (.int (b2i r.1))) r.2) : V G C F_X12_undo 0 [some (.ref (G.2.1 + 264)), none] [] (pic G μ) n 0 0 := by
  unfold f_X12_undo at hf
  refine V_aload_n d_X12_undo_0 rfl rfl ?_
  refine V_iconst (v := 0) d_X12_undo_1 ic_0 ?_
  refine B_putI k_264 fl_RX12_3 pt_12_0 (Nat.le_of_ble_eq_true rfl) p_12_0 d_X12_undo_2 ?_
  refine V_aload_n d_X12_undo_5 rfl rfl ?_
  refine B_get k_264 fl_RX12_56 d_X12_undo_6 g_12_7 ?_
  refine V_if_ne (tgt := 14) d_X12_undo_9 (by decide) (fun c9 => ?_) (fun c9 => ?_)
  · replace hf := iteF c9 hf
    refine V_aload_n d_X12_undo_14 rfl rfl ?_
    refine V_dup d_X12_undo_15 rfl ?_
    refine B_get k_264 fl_RX12_56 d_X12_undo_16 g_12_7 ?_
    refine V_iconst (v := 1) d_X12_undo_19 ic_1 ?_
    refine V_isub d_X12_undo_20 ?_
    refine B_putI k_264 fl_RX12_56 pt_12_7 (Nat.le_of_ble_eq_true rfl) p_12_7 d_X12_undo_21 ?_
    refine V_iconst (v := 0) d_X12_undo_24 ic_0 ?_
    refine V_istore_n (ls' := [_, _]) d_X12_undo_25 rfl rfl rfl ?_
    refine V_less (ls' := [some _, some _]) ⟨rfl, rfl, trivial⟩ ?_
    exact s_X12_undo_l26 hG hf hK
  · replace hf := iteT c9 hf
    refine V_iconst (v := 0) d_X12_undo_12 ic_0 ?_
    cases hf
    exact R_z hK d_X12_undo_13 (Nat.le_of_ble_eq_true rfl) (Nat.le_of_ble_eq_true rfl)
theorem s_X12_undo {G : Gl} (hG : G.1.stackTraces = false) {μ : Mem} {r : (Bool × Mem)} (hf : f_X12_undo μ = some r) : Rt G yX12_undo F_X12_undo (some .boolean) [.ref (G.2.1 + 264)] μ (some (.int (b2i r.1))) r.2 := fun n => Sd.of hG ⟨by decide +kernel, rfl, rfl⟩ rfl (Nat.le_of_ble_eq_true rfl) rfl (fun C hK => s_X12_undo_e hG hf hK)
theorem d_X12_people_0 : decode cX12_people 0 = .ok (.aload_n 0, 1) := by decide +kernel
theorem d_X12_people_1 : decode cX12_people 1 = .ok (.getfield 13, 3) := by decide +kernel
theorem d_X12_people_4 : decode cX12_people 4 = .ok (.iconst 0, 1) := by decide +kernel
theorem d_X12_people_5 : decode cX12_people 5 = .ok (.iaload, 1) := by decide +kernel
theorem d_X12_people_6 : decode cX12_people 6 = .ok (.ireturn, 1) := by decide +kernel
theorem s_X12_people_e {G : Gl} (hG : G.1.stackTraces = false) {C : Cx} {n : Nat} {μ : Mem}  {r : Int32} (hf : f_X12_people μ = some r) (hK : FinR G C F_X12_people (some .int) (some (.int r)) μ) : V G C F_X12_people 0 [some (.ref (G.2.1 + 264))] [] (pic G μ) n 0 0 := by
  unfold f_X12_people at hf
  refine V_aload_n d_X12_people_0 rfl rfl ?_
  refine B_get k_264 fl_RX12_13 d_X12_people_1 g_12_1 ?_
  refine V_iconst (v := 0) d_X12_people_4 ic_0 ?_
  obtain ⟨t1, ht1, hf⟩ := ob hf
  refine B_iald k_265 ht1 d_X12_people_5 ?_
  cases hf
  exact R_i hK d_X12_people_6 (Nat.le_of_ble_eq_true rfl) (Nat.le_of_ble_eq_true rfl)
theorem s_X12_people {G : Gl} (hG : G.1.stackTraces = false) {μ : Mem} {r : Int32} (hf : f_X12_people μ = some r) : Rt G yX12_people F_X12_people (some .int) [.ref (G.2.1 + 264)] μ (some (.int r)) μ := fun n => Sd.of hG ⟨by decide +kernel, rfl, rfl⟩ rfl (Nat.le_of_ble_eq_true rfl) rfl (fun C hK => s_X12_people_e hG hf hK)
theorem d_X12_laces_0 : decode cX12_laces 0 = .ok (.iconst 2, 1) := by decide +kernel
theorem d_X12_laces_1 : decode cX12_laces 1 = .ok (.aload_n 0, 1) := by decide +kernel
theorem d_X12_laces_2 : decode cX12_laces 2 = .ok (.invokevirtual 59, 3) := by decide +kernel
theorem d_X12_laces_5 : decode cX12_laces 5 = .ok (.imul, 1) := by decide +kernel
theorem d_X12_laces_6 : decode cX12_laces 6 = .ok (.ireturn, 1) := by decide +kernel
theorem s_X12_laces_e {G : Gl} (hG : G.1.stackTraces = false) {C : Cx} {n : Nat} {μ : Mem}  {r : Int32} (hf : f_X12_laces μ = some r) (hK : FinR G C F_X12_laces (some .int) (some (.int r)) μ) : V G C F_X12_laces 0 [some (.ref (G.2.1 + 264))] [] (pic G μ) n 0 0 := by
  unfold f_X12_laces at hf
  refine V_iconst (v := 2) d_X12_laces_0 ic_2 ?_
  refine V_aload_n d_X12_laces_1 rfl rfl ?_
  obtain ⟨t1, ht1, hf⟩ := ob hf
  refine B_callV1 (s_X12_people hG ht1) k_264 clX12 m_X12_people kv_RX12_59 d_X12_laces_2 rfl (Nat.le_of_ble_eq_true rfl) ⟨rfl, rfl, Nat.le_of_ble_eq_true rfl, Nat.le_of_ble_eq_true rfl, Nat.le_of_ble_eq_true rfl⟩ (fun n => ?_)
  refine V_imul d_X12_laces_5 ?_
  cases hf
  exact R_i hK d_X12_laces_6 (Nat.le_of_ble_eq_true rfl) (Nat.le_of_ble_eq_true rfl)
theorem s_X12_laces {G : Gl} (hG : G.1.stackTraces = false) {μ : Mem} {r : Int32} (hf : f_X12_laces μ = some r) : Rt G yX12_laces F_X12_laces (some .int) [.ref (G.2.1 + 264)] μ (some (.int r)) μ := fun n => Sd.of hG ⟨by decide +kernel, rfl, rfl⟩ rfl (Nat.le_of_ble_eq_true rfl) rfl (fun C hK => s_X12_laces_e hG hf hK)
theorem d_X12_everybody_0 : decode cX12_everybody 0 = .ok (.iconst 1, 1) := by decide +kernel
theorem d_X12_everybody_1 : decode cX12_everybody 1 = .ok (.aload_n 0, 1) := by decide +kernel
theorem d_X12_everybody_2 : decode cX12_everybody 2 = .ok (.invokevirtual 59, 3) := by decide +kernel
theorem d_X12_everybody_5 : decode cX12_everybody 5 = .ok (.ishl, 1) := by decide +kernel
theorem d_X12_everybody_6 : decode cX12_everybody 6 = .ok (.iconst 1, 1) := by decide +kernel
theorem d_X12_everybody_7 : decode cX12_everybody 7 = .ok (.isub, 1) := by decide +kernel
theorem d_X12_everybody_8 : decode cX12_everybody 8 = .ok (.ireturn, 1) := by decide +kernel
theorem s_X12_everybody_e {G : Gl} (hG : G.1.stackTraces = false) {C : Cx} {n : Nat} {μ : Mem}  {r : Int32} (hf : f_X12_everybody μ = some r) (hK : FinR G C F_X12_everybody (some .int) (some (.int r)) μ) : V G C F_X12_everybody 0 [some (.ref (G.2.1 + 264))] [] (pic G μ) n 0 0 := by
  unfold f_X12_everybody at hf
  refine V_iconst (v := 1) d_X12_everybody_0 ic_1 ?_
  refine V_aload_n d_X12_everybody_1 rfl rfl ?_
  obtain ⟨t1, ht1, hf⟩ := ob hf
  refine B_callV1 (s_X12_people hG ht1) k_264 clX12 m_X12_people kv_RX12_59 d_X12_everybody_2 rfl (Nat.le_of_ble_eq_true rfl) ⟨rfl, rfl, Nat.le_of_ble_eq_true rfl, Nat.le_of_ble_eq_true rfl, Nat.le_of_ble_eq_true rfl⟩ (fun n => ?_)
  refine V_ishl d_X12_everybody_5 ?_
  refine V_iconst (v := 1) d_X12_everybody_6 ic_1 ?_
  refine V_isub d_X12_everybody_7 ?_
  cases hf
  exact R_i hK d_X12_everybody_8 (Nat.le_of_ble_eq_true rfl) (Nat.le_of_ble_eq_true rfl)
theorem s_X12_everybody {G : Gl} (hG : G.1.stackTraces = false) {μ : Mem} {r : Int32} (hf : f_X12_everybody μ = some r) : Rt G yX12_everybody F_X12_everybody (some .int) [.ref (G.2.1 + 264)] μ (some (.int r)) μ := fun n => Sd.of hG ⟨by decide +kernel, rfl, rfl⟩ rfl (Nat.le_of_ble_eq_true rfl) rfl (fun C hK => s_X12_everybody_e hG hf hK)
theorem d_X12_at_0 : decode cX12_at 0 = .ok (.bipush 28, 2) := by decide +kernel
theorem d_X12_at_2 : decode cX12_at 2 = .ok (.iconst 5, 1) := by decide +kernel
theorem d_X12_at_3 : decode cX12_at 3 = .ok (.iload_n 0, 1) := by decide +kernel
theorem d_X12_at_4 : decode cX12_at 4 = .ok (.imul, 1) := by decide +kernel
theorem d_X12_at_5 : decode cX12_at 5 = .ok (.iadd, 1) := by decide +kernel
theorem d_X12_at_6 : decode cX12_at 6 = .ok (.iload_n 1, 1) := by decide +kernel
theorem d_X12_at_7 : decode cX12_at 7 = .ok (.iadd, 1) := by decide +kernel
theorem d_X12_at_8 : decode cX12_at 8 = .ok (.ireturn, 1) := by decide +kernel
theorem s_X12_at_e {G : Gl} (hG : G.1.stackTraces = false) {C : Cx} {n : Nat} {μ : Mem} {p0 : Int32} {p1 : Int32} {r : Int32} (hf : f_X12_at μ p0 p1 = some r) (hK : FinR G C F_X12_at (some .int) (some (.int r)) μ) : V G C F_X12_at 0 [some (.int p0), some (.int p1)] [] (pic G μ) n 0 0 := by
  unfold f_X12_at at hf
  refine V_bipush (v := 28) d_X12_at_0 bp_28 ?_
  refine V_iconst (v := 5) d_X12_at_2 ic_5 ?_
  refine V_iload_n d_X12_at_3 rfl rfl ?_
  refine V_imul d_X12_at_4 ?_
  refine V_iadd d_X12_at_5 ?_
  refine V_iload_n d_X12_at_6 rfl rfl ?_
  refine V_iadd d_X12_at_7 ?_
  cases hf
  exact R_i hK d_X12_at_8 (Nat.le_of_ble_eq_true rfl) (Nat.le_of_ble_eq_true rfl)
theorem s_X12_at {G : Gl} (hG : G.1.stackTraces = false) {μ : Mem} {p0 : Int32} {p1 : Int32} {r : Int32} (hf : f_X12_at μ p0 p1 = some r) : Rt G yX12_at F_X12_at (some .int) [.int p0, .int p1] μ (some (.int r)) μ := fun n => Sd.of hG ⟨by decide +kernel, rfl, rfl⟩ rfl (Nat.le_of_ble_eq_true rfl) rfl (fun C hK => s_X12_at_e hG hf hK)
theorem d_X12_of_0 : decode cX12_of 0 = .ok (.aload_n 0, 1) := by decide +kernel
theorem d_X12_of_1 : decode cX12_of 1 = .ok (.getfield 13, 3) := by decide +kernel
theorem d_X12_of_4 : decode cX12_of 4 = .ok (.iload_n 1, 1) := by decide +kernel
theorem d_X12_of_5 : decode cX12_of 5 = .ok (.iload_n 2, 1) := by decide +kernel
theorem d_X12_of_6 : decode cX12_of 6 = .ok (.invokestatic 63, 3) := by decide +kernel
theorem d_X12_of_9 : decode cX12_of 9 = .ok (.iaload, 1) := by decide +kernel
theorem d_X12_of_10 : decode cX12_of 10 = .ok (.ireturn, 1) := by decide +kernel
theorem s_X12_of_e {G : Gl} (hG : G.1.stackTraces = false) {C : Cx} {n : Nat} {μ : Mem} {p1 : Int32} {p2 : Int32} {r : Int32} (hf : f_X12_of μ p1 p2 = some r) (hK : FinR G C F_X12_of (some .int) (some (.int r)) μ) : V G C F_X12_of 0 [some (.ref (G.2.1 + 264)), some (.int p1), some (.int p2)] [] (pic G μ) n 0 0 := by
  unfold f_X12_of at hf
  refine V_aload_n d_X12_of_0 rfl rfl ?_
  refine B_get k_264 fl_RX12_13 d_X12_of_1 g_12_1 ?_
  refine V_iload_n d_X12_of_4 rfl rfl ?_
  refine V_iload_n d_X12_of_5 rfl rfl ?_
  obtain ⟨t1, ht1, hf⟩ := ob hf
  refine B_callS1 (s_X12_at hG ht1) m_X12_at ks_RX12_63 d_X12_of_6 rfl (Nat.le_of_ble_eq_true rfl) ⟨rfl, rfl, Nat.le_of_ble_eq_true rfl, Nat.le_of_ble_eq_true rfl, Nat.le_of_ble_eq_true rfl⟩ (fun n => ?_)
  obtain ⟨t2, ht2, hf⟩ := ob hf
  refine B_iald k_265 ht2 d_X12_of_9 ?_
  cases hf
  exact R_i hK d_X12_of_10 (Nat.le_of_ble_eq_true rfl) (Nat.le_of_ble_eq_true rfl)
theorem s_X12_of {G : Gl} (hG : G.1.stackTraces = false) {μ : Mem} {p1 : Int32} {p2 : Int32} {r : Int32} (hf : f_X12_of μ p1 p2 = some r) : Rt G yX12_of F_X12_of (some .int) [.ref (G.2.1 + 264), .int p1, .int p2] μ (some (.int r)) μ := fun n => Sd.of hG ⟨by decide +kernel, rfl, rfl⟩ rfl (Nat.le_of_ble_eq_true rfl) rfl (fun C hK => s_X12_of_e hG hf hK)
theorem d_X12_laceAt_0 : decode cX12_laceAt 0 = .ok (.bipush 58, 2) := by decide +kernel
theorem d_X12_laceAt_2 : decode cX12_laceAt 2 = .ok (.bipush 6, 2) := by decide +kernel
theorem d_X12_laceAt_4 : decode cX12_laceAt 4 = .ok (.iload_n 0, 1) := by decide +kernel
theorem d_X12_laceAt_5 : decode cX12_laceAt 5 = .ok (.imul, 1) := by decide +kernel
theorem d_X12_laceAt_6 : decode cX12_laceAt 6 = .ok (.iadd, 1) := by decide +kernel
theorem d_X12_laceAt_7 : decode cX12_laceAt 7 = .ok (.iload_n 1, 1) := by decide +kernel
theorem d_X12_laceAt_8 : decode cX12_laceAt 8 = .ok (.iadd, 1) := by decide +kernel
theorem d_X12_laceAt_9 : decode cX12_laceAt 9 = .ok (.ireturn, 1) := by decide +kernel
theorem s_X12_laceAt_e {G : Gl} (hG : G.1.stackTraces = false) {C : Cx} {n : Nat} {μ : Mem} {p0 : Int32} {p1 : Int32} {r : Int32} (hf : f_X12_laceAt μ p0 p1 = some r) (hK : FinR G C F_X12_laceAt (some .int) (some (.int r)) μ) : V G C F_X12_laceAt 0 [some (.int p0), some (.int p1)] [] (pic G μ) n 0 0 := by
  unfold f_X12_laceAt at hf
  refine V_bipush (v := 58) d_X12_laceAt_0 bp_58 ?_
  refine V_bipush (v := 6) d_X12_laceAt_2 bp_6 ?_
  refine V_iload_n d_X12_laceAt_4 rfl rfl ?_
  refine V_imul d_X12_laceAt_5 ?_
  refine V_iadd d_X12_laceAt_6 ?_
  refine V_iload_n d_X12_laceAt_7 rfl rfl ?_
  refine V_iadd d_X12_laceAt_8 ?_
  cases hf
  exact R_i hK d_X12_laceAt_9 (Nat.le_of_ble_eq_true rfl) (Nat.le_of_ble_eq_true rfl)
theorem s_X12_laceAt {G : Gl} (hG : G.1.stackTraces = false) {μ : Mem} {p0 : Int32} {p1 : Int32} {r : Int32} (hf : f_X12_laceAt μ p0 p1 = some r) : Rt G yX12_laceAt F_X12_laceAt (some .int) [.int p0, .int p1] μ (some (.int r)) μ := fun n => Sd.of hG ⟨by decide +kernel, rfl, rfl⟩ rfl (Nat.le_of_ble_eq_true rfl) rfl (fun C hK => s_X12_laceAt_e hG hf hK)
theorem d_X12_ofLace_0 : decode cX12_ofLace 0 = .ok (.aload_n 0, 1) := by decide +kernel
theorem d_X12_ofLace_1 : decode cX12_ofLace 1 = .ok (.getfield 13, 3) := by decide +kernel
theorem d_X12_ofLace_4 : decode cX12_ofLace 4 = .ok (.iload_n 1, 1) := by decide +kernel
theorem d_X12_ofLace_5 : decode cX12_ofLace 5 = .ok (.iload_n 2, 1) := by decide +kernel
theorem d_X12_ofLace_6 : decode cX12_ofLace 6 = .ok (.invokestatic 67, 3) := by decide +kernel
theorem d_X12_ofLace_9 : decode cX12_ofLace 9 = .ok (.iaload, 1) := by decide +kernel
theorem d_X12_ofLace_10 : decode cX12_ofLace 10 = .ok (.ireturn, 1) := by decide +kernel
theorem s_X12_ofLace_e {G : Gl} (hG : G.1.stackTraces = false) {C : Cx} {n : Nat} {μ : Mem} {p1 : Int32} {p2 : Int32} {r : Int32} (hf : f_X12_ofLace μ p1 p2 = some r) (hK : FinR G C F_X12_ofLace (some .int) (some (.int r)) μ) : V G C F_X12_ofLace 0 [some (.ref (G.2.1 + 264)), some (.int p1), some (.int p2)] [] (pic G μ) n 0 0 := by
  unfold f_X12_ofLace at hf
  refine V_aload_n d_X12_ofLace_0 rfl rfl ?_
  refine B_get k_264 fl_RX12_13 d_X12_ofLace_1 g_12_1 ?_
  refine V_iload_n d_X12_ofLace_4 rfl rfl ?_
  refine V_iload_n d_X12_ofLace_5 rfl rfl ?_
  obtain ⟨t1, ht1, hf⟩ := ob hf
  refine B_callS1 (s_X12_laceAt hG ht1) m_X12_laceAt ks_RX12_67 d_X12_ofLace_6 rfl (Nat.le_of_ble_eq_true rfl) ⟨rfl, rfl, Nat.le_of_ble_eq_true rfl, Nat.le_of_ble_eq_true rfl, Nat.le_of_ble_eq_true rfl⟩ (fun n => ?_)
  obtain ⟨t2, ht2, hf⟩ := ob hf
  refine B_iald k_265 ht2 d_X12_ofLace_9 ?_
  cases hf
  exact R_i hK d_X12_ofLace_10 (Nat.le_of_ble_eq_true rfl) (Nat.le_of_ble_eq_true rfl)
theorem s_X12_ofLace {G : Gl} (hG : G.1.stackTraces = false) {μ : Mem} {p1 : Int32} {p2 : Int32} {r : Int32} (hf : f_X12_ofLace μ p1 p2 = some r) : Rt G yX12_ofLace F_X12_ofLace (some .int) [.ref (G.2.1 + 264), .int p1, .int p2] μ (some (.int r)) μ := fun n => Sd.of hG ⟨by decide +kernel, rfl, rfl⟩ rfl (Nat.le_of_ble_eq_true rfl) rfl (fun C hK => s_X12_ofLace_e hG hf hK)
theorem d_X12_ownerOf_0 : decode cX12_ownerOf 0 = .ok (.iload_n 0, 1) := by decide +kernel
theorem d_X12_ownerOf_1 : decode cX12_ownerOf 1 = .ok (.iconst 2, 1) := by decide +kernel
theorem d_X12_ownerOf_2 : decode cX12_ownerOf 2 = .ok (.idiv, 1) := by decide +kernel
theorem d_X12_ownerOf_3 : decode cX12_ownerOf 3 = .ok (.ireturn, 1) := by decide +kernel
theorem s_X12_ownerOf_e {G : Gl} (hG : G.1.stackTraces = false) {C : Cx} {n : Nat} {μ : Mem} {p0 : Int32} {r : Int32} (hf : f_X12_ownerOf μ p0 = some r) (hK : FinR G C F_X12_ownerOf (some .int) (some (.int r)) μ) : V G C F_X12_ownerOf 0 [some (.int p0)] [] (pic G μ) n 0 0 := by
  unfold f_X12_ownerOf at hf
  refine V_iload_n d_X12_ownerOf_0 rfl rfl ?_
  refine V_iconst (v := 2) d_X12_ownerOf_1 ic_2 ?_
  obtain ⟨t1, ht1, hf⟩ := ob hf
  obtain ⟨gt1, ht1⟩ := dv_some ht1
  refine V_idiv d_X12_ownerOf_2 gt1 ?_
  rw [ht1]
  cases hf
  exact R_i hK d_X12_ownerOf_3 (Nat.le_of_ble_eq_true rfl) (Nat.le_of_ble_eq_true rfl)
theorem s_X12_ownerOf {G : Gl} (hG : G.1.stackTraces = false) {μ : Mem} {p0 : Int32} {r : Int32} (hf : f_X12_ownerOf μ p0 = some r) : Rt G yX12_ownerOf F_X12_ownerOf (some .int) [.int p0] μ (some (.int r)) μ := fun n => Sd.of hG ⟨by decide +kernel, rfl, rfl⟩ rfl (Nat.le_of_ble_eq_true rfl) rfl (fun C hK => s_X12_ownerOf_e hG hf hK)
theorem d_X12_isPledged_0 : decode cX12_isPledged 0 = .ok (.aload_n 0, 1) := by decide +kernel
theorem d_X12_isPledged_1 : decode cX12_isPledged 1 = .ok (.iload_n 1, 1) := by decide +kernel
theorem d_X12_isPledged_2 : decode cX12_isPledged 2 = .ok (.iconst 0, 1) := by decide +kernel
theorem d_X12_isPledged_3 : decode cX12_isPledged 3 = .ok (.invokevirtual 70, 3) := by decide +kernel
theorem d_X12_isPledged_6 : decode cX12_isPledged 6 = .ok (.iconst 1, 1) := by decide +kernel
theorem d_X12_isPledged_7 : decode cX12_isPledged 7 = .ok (.if_icmp .ne 7, 3) := by decide +kernel
theorem d_X12_isPledged_10 : decode cX12_isPledged 10 = .ok (.iconst 1, 1) := by decide +kernel
theorem d_X12_isPledged_11 : decode cX12_isPledged 11 = .ok (.goto 4, 3) := by decide +kernel
theorem d_X12_isPledged_14 : decode cX12_isPledged 14 = .ok (.iconst 0, 1) := by decide +kernel
theorem d_X12_isPledged_15 : decode cX12_isPledged 15 = .ok (.ireturn, 1) := by decide +kernel
theorem s_X12_isPledged_e {G : Gl} (hG : G.1.stackTraces = false) {C : Cx} {n : Nat} {μ : Mem} {p1 : Int32} {r : Bool} (hf : f_X12_isPledged μ p1 = some r) (hK : FinR G C F_X12_isPledged (some .boolean) (some (.int (b2i r))) μ) : V G C F_X12_isPledged 0 [some (.ref (G.2.1 + 264)), some (.int p1)] [] (pic G μ) n 0 0 := by
  unfold f_X12_isPledged at hf
  refine V_aload_n d_X12_isPledged_0 rfl rfl ?_
  refine V_iload_n d_X12_isPledged_1 rfl rfl ?_
  refine V_iconst (v := 0) d_X12_isPledged_2 ic_0 ?_
  obtain ⟨t1, ht1, hf⟩ := ob hf
  refine B_callV1 (s_X12_ofLace hG ht1) k_264 clX12 m_X12_ofLace kv_RX12_70 d_X12_isPledged_3 rfl (Nat.le_of_ble_eq_true rfl) ⟨rfl, rfl, Nat.le_of_ble_eq_true rfl, Nat.le_of_ble_eq_true rfl, Nat.le_of_ble_eq_true rfl⟩ (fun n => ?_)
  refine V_iconst (v := 1) d_X12_isPledged_6 ic_1 ?_
  have hJj2 : ∀ j2 : Bool, j2 = (if t1 = 1 then (true : Bool) else false) → V G C F_X12_isPledged 15 [none, none] [.int (b2i j2)] (pic G μ) n 0 0 := by
    intro j2 ej2
    subst ej2
    cases hf
    exact R_z hK d_X12_isPledged_15 (Nat.le_of_ble_eq_true rfl) (Nat.le_of_ble_eq_true rfl)
  refine V_icmp_ne (tgt := 14) d_X12_isPledged_7 (by decide) (fun c7 => ?_) (fun c7 => ?_)
  · refine V_iconst (v := 0) d_X12_isPledged_14 ic_0 ?_
    refine V_less (ls' := [none, none]) trivial ?_
    exact hJj2 false (by rw [if_neg c7])
  · refine V_iconst (v := 1) d_X12_isPledged_10 ic_1 ?_
    refine V_goto (tgt := 15) d_X12_isPledged_11 (by decide) ?_
    refine V_less (ls' := [none, none]) trivial ?_
    exact hJj2 true (by rw [if_pos c7])
theorem s_X12_isPledged {G : Gl} (hG : G.1.stackTraces = false) {μ : Mem} {p1 : Int32} {r : Bool} (hf : f_X12_isPledged μ p1 = some r) : Rt G yX12_isPledged F_X12_isPledged (some .boolean) [.ref (G.2.1 + 264), .int p1] μ (some (.int (b2i r))) μ := fun n => Sd.of hG ⟨by decide +kernel, rfl, rfl⟩ rfl (Nat.le_of_ble_eq_true rfl) rfl (fun C hK => s_X12_isPledged_e hG hf hK)
