theorem d_X12_lace_0 : decode cX12_lace 0 = .ok (.aload_n 0, 1) := by decide +kernel
theorem d_X12_lace_1 : decode cX12_lace 1 = .ok (.iconst 0, 1) := by decide +kernel
theorem d_X12_lace_2 : decode cX12_lace 2 = .ok (.putfield 3, 3) := by decide +kernel
theorem d_X12_lace_5 : decode cX12_lace 5 = .ok (.aload_n 0, 1) := by decide +kernel
theorem d_X12_lace_6 : decode cX12_lace 6 = .ok (.aload_n 0, 1) := by decide +kernel
theorem d_X12_lace_7 : decode cX12_lace 7 = .ok (.iload_n 1, 1) := by decide +kernel
theorem d_X12_lace_8 : decode cX12_lace 8 = .ok (.invokevirtual 317, 3) := by decide +kernel
theorem d_X12_lace_11 : decode cX12_lace 11 = .ok (.iconst 1, 1) := by decide +kernel
theorem d_X12_lace_12 : decode cX12_lace 12 = .ok (.invokevirtual 263, 3) := by decide +kernel
theorem d_X12_lace_15 : decode cX12_lace 15 = .ok (.ifCond .ne 25, 3) := by decide +kernel
theorem d_X12_lace_18 : decode cX12_lace 18 = .ok (.aload_n 0, 1) := by decide +kernel
theorem d_X12_lace_19 : decode cX12_lace 19 = .ok (.iload_n 2, 1) := by decide +kernel
theorem d_X12_lace_20 : decode cX12_lace 20 = .ok (.iconst 0, 1) := by decide +kernel
theorem d_X12_lace_21 : decode cX12_lace 21 = .ok (.iconst 5, 1) := by decide +kernel
theorem d_X12_lace_22 : decode cX12_lace 22 = .ok (.invokestatic 73, 3) := by decide +kernel
theorem d_X12_lace_25 : decode cX12_lace 25 = .ok (.ifCond .ne 7, 3) := by decide +kernel
theorem d_X12_lace_28 : decode cX12_lace 28 = .ok (.iconst 1, 1) := by decide +kernel
theorem d_X12_lace_29 : decode cX12_lace 29 = .ok (.goto 4, 3) := by decide +kernel
theorem d_X12_lace_32 : decode cX12_lace 32 = .ok (.iconst 0, 1) := by decide +kernel
theorem d_X12_lace_33 : decode cX12_lace 33 = .ok (.iconst 2, 1) := by decide +kernel
theorem d_X12_lace_34 : decode cX12_lace 34 = .ok (.invokevirtual 263, 3) := by decide +kernel
theorem d_X12_lace_37 : decode cX12_lace 37 = .ok (.ifCond .eq 7, 3) := by decide +kernel
theorem d_X12_lace_40 : decode cX12_lace 40 = .ok (.iconst 0, 1) := by decide +kernel
theorem d_X12_lace_41 : decode cX12_lace 41 = .ok (.goto 9, 3) := by decide +kernel
theorem d_X12_lace_44 : decode cX12_lace 44 = .ok (.aload_n 0, 1) := by decide +kernel
theorem d_X12_lace_45 : decode cX12_lace 45 = .ok (.iload_n 1, 1) := by decide +kernel
theorem d_X12_lace_46 : decode cX12_lace 46 = .ok (.iload_n 2, 1) := by decide +kernel
theorem d_X12_lace_47 : decode cX12_lace 47 = .ok (.invokevirtual 70, 3) := by decide +kernel
theorem d_X12_lace_50 : decode cX12_lace 50 = .ok (.ireturn, 1) := by decide +kernel
theorem s_X12_lace_j50 {G : Gl} (hG : G.1.stackTraces = false) {C : Cx} {n : Nat} {μ : Mem} {k0 : Int32} {r : (Int32 × Mem)} (hf : f_X12_lace_j50 μ k0 = some r) (hK : FinR G C F_X12_lace (some .int) (some (.int r.1)) r.2) : V G C F_X12_lace 50 [none, none, none] [.int k0] (pic G μ) n 0 0 := by
  unfold f_X12_lace_j50 at hf
  cases hf
  exact R_i hK d_X12_lace_50 (Nat.le_of_ble_eq_true rfl) (Nat.le_of_ble_eq_true rfl)
theorem s_X12_lace_j40 {G : Gl} (hG : G.1.stackTraces = false) {C : Cx} {n : Nat} {μ : Mem}  {r : (Int32 × Mem)} (hf : f_X12_lace_j40 μ = some r) (hK : FinR G C F_X12_lace (some .int) (some (.int r.1)) r.2) : V G C F_X12_lace 40 [none, none, none] [] (pic G μ) n 0 0 := by
  unfold f_X12_lace_j40 at hf
  refine V_iconst (v := 0) d_X12_lace_40 ic_0 ?_
  refine V_goto (tgt := 50) d_X12_lace_41 (by decide) ?_
  refine V_less (ls' := [none, none, none]) trivial ?_
  exact s_X12_lace_j50 hG hf hK
theorem s_X12_lace_e {G : Gl} (hG : G.1.stackTraces = false) {C : Cx} {n : Nat} {μ : Mem} {p1 : Int32} {p2 : Int32} {r : (Int32 × Mem)} (hf : f_X12_lace μ p1 p2 = some r) (hK : FinR G C F_X12_lace (some .int) (some (.int r.1)) r.2) : V G C F_X12_lace 0 [some (.ref (G.2.1 + 264)), some (.int p1), some (.int p2)] [] (pic G μ) n 0 0 := by
  unfold f_X12_lace at hf
  refine V_aload_n d_X12_lace_0 rfl rfl ?_
  refine V_iconst (v := 0) d_X12_lace_1 ic_0 ?_
  refine B_putI k_264 fl_RX12_3 pt_12_0 (Nat.le_of_ble_eq_true rfl) p_12_0 d_X12_lace_2 ?_
  refine V_aload_n d_X12_lace_5 rfl rfl ?_
  refine V_aload_n d_X12_lace_6 rfl rfl ?_
  refine V_iload_n d_X12_lace_7 rfl rfl ?_
  obtain ⟨t1, ht1, hf⟩ := ob hf
  refine B_callV1 (s_X12_noLace hG ht1) k_264 clX12 m_X12_noLace kv_RX12_317 d_X12_lace_8 rfl (Nat.le_of_ble_eq_true rfl) ⟨rfl, rfl, Nat.le_of_ble_eq_true rfl, Nat.le_of_ble_eq_true rfl, Nat.le_of_ble_eq_true rfl⟩ (fun n => ?_)
  refine V_iconst (v := 1) d_X12_lace_11 ic_1 ?_
  obtain ⟨q2, hq2, hf⟩ := ob hf
  refine B_callV1 (s_X12_throwsIf hG hq2) k_264 clX12 m_X12_throwsIf kv_RX12_263 d_X12_lace_12 rfl (Nat.le_of_ble_eq_true rfl) ⟨rfl, rfl, Nat.le_of_ble_eq_true rfl, Nat.le_of_ble_eq_true rfl, Nat.le_of_ble_eq_true rfl⟩ (fun n => ?_)
  refine V_if_ne (tgt := 40) d_X12_lace_15 (by decide) (fun c15 => ?_) (fun c15 => ?_)
  · replace hf := iteT (b2i_ne0 c15) hf
    refine V_less (ls' := [none, none, none]) trivial ?_
    exact s_X12_lace_j40 hG hf hK
  · replace hf := iteF (b2i_nt (b2i_eq0 c15)) hf
    refine V_aload_n d_X12_lace_18 rfl rfl ?_
    refine V_iload_n d_X12_lace_19 rfl rfl ?_
    refine V_iconst (v := 0) d_X12_lace_20 ic_0 ?_
    refine V_iconst (v := 5) d_X12_lace_21 ic_5 ?_
    obtain ⟨t3, ht3, hf⟩ := ob hf
    refine B_callS1 (s_X12_in hG ht3) m_X12_in ks_RX12_73 d_X12_lace_22 rfl (Nat.le_of_ble_eq_true rfl) ⟨rfl, rfl, Nat.le_of_ble_eq_true rfl, Nat.le_of_ble_eq_true rfl, Nat.le_of_ble_eq_true rfl⟩ (fun n => ?_)
    have hJj4 : ∀ j4 : Bool, j4 = (if t3 = true then (false : Bool) else true) → V G C F_X12_lace 33 [some (.ref (G.2.1 + 264)), some (.int p1), some (.int p2)] [.int (b2i j4), .ref (G.2.1 + 264)] (pic G q2.2) n 0 0 := by
      intro j4 ej4
      subst ej4
      refine V_iconst (v := 2) d_X12_lace_33 ic_2 ?_
      obtain ⟨q5, hq5, hf⟩ := ob hf
      refine B_callV1 (s_X12_throwsIf hG hq5) k_264 clX12 m_X12_throwsIf kv_RX12_263 d_X12_lace_34 rfl (Nat.le_of_ble_eq_true rfl) ⟨rfl, rfl, Nat.le_of_ble_eq_true rfl, Nat.le_of_ble_eq_true rfl, Nat.le_of_ble_eq_true rfl⟩ (fun n => ?_)
      refine V_if_eq (tgt := 44) d_X12_lace_37 (by decide) (fun c37 => ?_) (fun c37 => ?_)
      · replace hf := iteF (b2i_nt (b2i_eq0 c37)) hf
        refine V_aload_n d_X12_lace_44 rfl rfl ?_
        refine V_iload_n d_X12_lace_45 rfl rfl ?_
        refine V_iload_n d_X12_lace_46 rfl rfl ?_
        obtain ⟨t6, ht6, hf⟩ := ob hf
        refine B_callV1 (s_X12_ofLace hG ht6) k_264 clX12 m_X12_ofLace kv_RX12_70 d_X12_lace_47 rfl (Nat.le_of_ble_eq_true rfl) ⟨rfl, rfl, Nat.le_of_ble_eq_true rfl, Nat.le_of_ble_eq_true rfl, Nat.le_of_ble_eq_true rfl⟩ (fun n => ?_)
        refine V_less (ls' := [none, none, none]) trivial ?_
        exact s_X12_lace_j50 hG hf hK
      · replace hf := iteT (b2i_ne0 c37) hf
        refine V_less (ls' := [none, none, none]) trivial ?_
        exact s_X12_lace_j40 hG hf hK
    refine V_if_ne (tgt := 32) d_X12_lace_25 (by decide) (fun c25 => ?_) (fun c25 => ?_)
    · refine V_iconst (v := 0) d_X12_lace_32 ic_0 ?_
      refine V_less (ls' := [some _, some _, some _]) ⟨rfl, rfl, rfl, trivial⟩ ?_
      exact hJj4 false (by rw [if_pos (b2i_ne0 c25)])
    · refine V_iconst (v := 1) d_X12_lace_28 ic_1 ?_
      refine V_goto (tgt := 33) d_X12_lace_29 (by decide) ?_
      refine V_less (ls' := [some _, some _, some _]) ⟨rfl, rfl, rfl, trivial⟩ ?_
      exact hJj4 true (by rw [if_neg (b2i_nt (b2i_eq0 c25))])
theorem s_X12_lace {G : Gl} (hG : G.1.stackTraces = false) {μ : Mem} {p1 : Int32} {p2 : Int32} {r : (Int32 × Mem)} (hf : f_X12_lace μ p1 p2 = some r) : Rt G yX12_lace F_X12_lace (some .int) [.ref (G.2.1 + 264), .int p1, .int p2] μ (some (.int r.1)) r.2 := fun n => Sd.of hG ⟨by decide +kernel, rfl, rfl⟩ rfl (Nat.le_of_ble_eq_true rfl) rfl (fun C hK => s_X12_lace_e hG hf hK)
theorem d_X12_mud_0 : decode cX12_mud 0 = .ok (.aload_n 0, 1) := by decide +kernel
theorem d_X12_mud_1 : decode cX12_mud 1 = .ok (.iconst 0, 1) := by decide +kernel
theorem d_X12_mud_2 : decode cX12_mud 2 = .ok (.putfield 3, 3) := by decide +kernel
theorem d_X12_mud_5 : decode cX12_mud 5 = .ok (.aload_n 0, 1) := by decide +kernel
theorem d_X12_mud_6 : decode cX12_mud 6 = .ok (.iload_n 1, 1) := by decide +kernel
theorem d_X12_mud_7 : decode cX12_mud 7 = .ok (.invokestatic 320, 3) := by decide +kernel
theorem d_X12_mud_10 : decode cX12_mud 10 = .ok (.iconst 1, 1) := by decide +kernel
theorem d_X12_mud_11 : decode cX12_mud 11 = .ok (.invokevirtual 263, 3) := by decide +kernel
theorem d_X12_mud_14 : decode cX12_mud 14 = .ok (.ifCond .eq 7, 3) := by decide +kernel
theorem d_X12_mud_17 : decode cX12_mud 17 = .ok (.iconst 0, 1) := by decide +kernel
theorem d_X12_mud_18 : decode cX12_mud 18 = .ok (.goto 12, 3) := by decide +kernel
theorem d_X12_mud_21 : decode cX12_mud 21 = .ok (.aload_n 0, 1) := by decide +kernel
theorem d_X12_mud_22 : decode cX12_mud 22 = .ok (.getfield 13, 3) := by decide +kernel
theorem d_X12_mud_25 : decode cX12_mud 25 = .ok (.bipush 8, 2) := by decide +kernel
theorem d_X12_mud_27 : decode cX12_mud 27 = .ok (.iload_n 1, 1) := by decide +kernel
theorem d_X12_mud_28 : decode cX12_mud 28 = .ok (.iadd, 1) := by decide +kernel
theorem d_X12_mud_29 : decode cX12_mud 29 = .ok (.iaload, 1) := by decide +kernel
theorem d_X12_mud_30 : decode cX12_mud 30 = .ok (.ireturn, 1) := by decide +kernel
theorem s_X12_mud_j30 {G : Gl} (hG : G.1.stackTraces = false) {C : Cx} {n : Nat} {μ : Mem} {k0 : Int32} {r : (Int32 × Mem)} (hf : f_X12_mud_j30 μ k0 = some r) (hK : FinR G C F_X12_mud (some .int) (some (.int r.1)) r.2) : V G C F_X12_mud 30 [none, none] [.int k0] (pic G μ) n 0 0 := by
  unfold f_X12_mud_j30 at hf
  cases hf
  exact R_i hK d_X12_mud_30 (Nat.le_of_ble_eq_true rfl) (Nat.le_of_ble_eq_true rfl)
theorem s_X12_mud_e {G : Gl} (hG : G.1.stackTraces = false) {C : Cx} {n : Nat} {μ : Mem} {p1 : Int32} {r : (Int32 × Mem)} (hf : f_X12_mud μ p1 = some r) (hK : FinR G C F_X12_mud (some .int) (some (.int r.1)) r.2) : V G C F_X12_mud 0 [some (.ref (G.2.1 + 264)), some (.int p1)] [] (pic G μ) n 0 0 := by
  unfold f_X12_mud at hf
  refine V_aload_n d_X12_mud_0 rfl rfl ?_
  refine V_iconst (v := 0) d_X12_mud_1 ic_0 ?_
  refine B_putI k_264 fl_RX12_3 pt_12_0 (Nat.le_of_ble_eq_true rfl) p_12_0 d_X12_mud_2 ?_
  refine V_aload_n d_X12_mud_5 rfl rfl ?_
  refine V_iload_n d_X12_mud_6 rfl rfl ?_
  obtain ⟨t1, ht1, hf⟩ := ob hf
  refine B_callS1 (s_X12_noPlace hG ht1) m_X12_noPlace ks_RX12_320 d_X12_mud_7 rfl (Nat.le_of_ble_eq_true rfl) ⟨rfl, rfl, Nat.le_of_ble_eq_true rfl, Nat.le_of_ble_eq_true rfl, Nat.le_of_ble_eq_true rfl⟩ (fun n => ?_)
  refine V_iconst (v := 1) d_X12_mud_10 ic_1 ?_
  obtain ⟨q2, hq2, hf⟩ := ob hf
  refine B_callV1 (s_X12_throwsIf hG hq2) k_264 clX12 m_X12_throwsIf kv_RX12_263 d_X12_mud_11 rfl (Nat.le_of_ble_eq_true rfl) ⟨rfl, rfl, Nat.le_of_ble_eq_true rfl, Nat.le_of_ble_eq_true rfl, Nat.le_of_ble_eq_true rfl⟩ (fun n => ?_)
  refine V_if_eq (tgt := 21) d_X12_mud_14 (by decide) (fun c14 => ?_) (fun c14 => ?_)
  · replace hf := iteF (b2i_nt (b2i_eq0 c14)) hf
    refine V_aload_n d_X12_mud_21 rfl rfl ?_
    refine B_get k_264 fl_RX12_13 d_X12_mud_22 g_12_1 ?_
    refine V_bipush (v := 8) d_X12_mud_25 bp_8 ?_
    refine V_iload_n d_X12_mud_27 rfl rfl ?_
    refine V_iadd d_X12_mud_28 ?_
    obtain ⟨t3, ht3, hf⟩ := ob hf
    refine B_iald k_265 ht3 d_X12_mud_29 ?_
    refine V_less (ls' := [none, none]) trivial ?_
    exact s_X12_mud_j30 hG hf hK
  · replace hf := iteT (b2i_ne0 c14) hf
    refine V_iconst (v := 0) d_X12_mud_17 ic_0 ?_
    refine V_goto (tgt := 30) d_X12_mud_18 (by decide) ?_
    refine V_less (ls' := [none, none]) trivial ?_
    exact s_X12_mud_j30 hG hf hK
theorem s_X12_mud {G : Gl} (hG : G.1.stackTraces = false) {μ : Mem} {p1 : Int32} {r : (Int32 × Mem)} (hf : f_X12_mud μ p1 = some r) : Rt G yX12_mud F_X12_mud (some .int) [.ref (G.2.1 + 264), .int p1] μ (some (.int r.1)) r.2 := fun n => Sd.of hG ⟨by decide +kernel, rfl, rfl⟩ rfl (Nat.le_of_ble_eq_true rfl) rfl (fun C hK => s_X12_mud_e hG hf hK)
theorem d_X12_walks_0 : decode cX12_walks 0 = .ok (.aload_n 0, 1) := by decide +kernel
theorem d_X12_walks_1 : decode cX12_walks 1 = .ok (.iconst 0, 1) := by decide +kernel
theorem d_X12_walks_2 : decode cX12_walks 2 = .ok (.putfield 3, 3) := by decide +kernel
theorem d_X12_walks_5 : decode cX12_walks 5 = .ok (.aload_n 0, 1) := by decide +kernel
theorem d_X12_walks_6 : decode cX12_walks 6 = .ok (.aload_n 0, 1) := by decide +kernel
theorem d_X12_walks_7 : decode cX12_walks 7 = .ok (.iload_n 1, 1) := by decide +kernel
theorem d_X12_walks_8 : decode cX12_walks 8 = .ok (.invokevirtual 305, 3) := by decide +kernel
theorem d_X12_walks_11 : decode cX12_walks 11 = .ok (.iconst 1, 1) := by decide +kernel
theorem d_X12_walks_12 : decode cX12_walks 12 = .ok (.invokevirtual 263, 3) := by decide +kernel
theorem d_X12_walks_15 : decode cX12_walks 15 = .ok (.ifCond .ne 25, 3) := by decide +kernel
theorem d_X12_walks_18 : decode cX12_walks 18 = .ok (.aload_n 0, 1) := by decide +kernel
theorem d_X12_walks_19 : decode cX12_walks 19 = .ok (.iload_n 2, 1) := by decide +kernel
theorem d_X12_walks_20 : decode cX12_walks 20 = .ok (.iconst 0, 1) := by decide +kernel
theorem d_X12_walks_21 : decode cX12_walks 21 = .ok (.iconst 1, 1) := by decide +kernel
theorem d_X12_walks_22 : decode cX12_walks 22 = .ok (.invokestatic 73, 3) := by decide +kernel
theorem d_X12_walks_25 : decode cX12_walks 25 = .ok (.ifCond .ne 7, 3) := by decide +kernel
theorem d_X12_walks_28 : decode cX12_walks 28 = .ok (.iconst 1, 1) := by decide +kernel
theorem d_X12_walks_29 : decode cX12_walks 29 = .ok (.goto 4, 3) := by decide +kernel
theorem d_X12_walks_32 : decode cX12_walks 32 = .ok (.iconst 0, 1) := by decide +kernel
theorem d_X12_walks_33 : decode cX12_walks 33 = .ok (.iconst 2, 1) := by decide +kernel
theorem d_X12_walks_34 : decode cX12_walks 34 = .ok (.invokevirtual 263, 3) := by decide +kernel
theorem d_X12_walks_37 : decode cX12_walks 37 = .ok (.ifCond .eq 5, 3) := by decide +kernel
theorem d_X12_walks_40 : decode cX12_walks 40 = .ok (.iconst 0, 1) := by decide +kernel
theorem d_X12_walks_41 : decode cX12_walks 41 = .ok (.ireturn, 1) := by decide +kernel
theorem d_X12_walks_42 : decode cX12_walks 42 = .ok (.iload_n 2, 1) := by decide +kernel
theorem d_X12_walks_43 : decode cX12_walks 43 = .ok (.ifCond .ne 11, 3) := by decide +kernel
theorem d_X12_walks_46 : decode cX12_walks 46 = .ok (.aload_n 0, 1) := by decide +kernel
theorem d_X12_walks_47 : decode cX12_walks 47 = .ok (.iload_n 1, 1) := by decide +kernel
theorem d_X12_walks_48 : decode cX12_walks 48 = .ok (.invokevirtual 323, 3) := by decide +kernel
theorem d_X12_walks_51 : decode cX12_walks 51 = .ok (.goto 8, 3) := by decide +kernel
theorem d_X12_walks_54 : decode cX12_walks 54 = .ok (.aload_n 0, 1) := by decide +kernel
theorem d_X12_walks_55 : decode cX12_walks 55 = .ok (.iload_n 1, 1) := by decide +kernel
theorem d_X12_walks_56 : decode cX12_walks 56 = .ok (.invokevirtual 326, 3) := by decide +kernel
theorem d_X12_walks_59 : decode cX12_walks 59 = .ok (.ireturn, 1) := by decide +kernel
theorem s_X12_walks_j40 {G : Gl} (hG : G.1.stackTraces = false) {C : Cx} {n : Nat} {μ : Mem}  {r : (Int32 × Mem)} (hf : f_X12_walks_j40 μ = some r) (hK : FinR G C F_X12_walks (some .int) (some (.int r.1)) r.2) : V G C F_X12_walks 40 [none, none, none] [] (pic G μ) n 0 0 := by
  unfold f_X12_walks_j40 at hf
  refine V_iconst (v := 0) d_X12_walks_40 ic_0 ?_
  cases hf
  exact R_i hK d_X12_walks_41 (Nat.le_of_ble_eq_true rfl) (Nat.le_of_ble_eq_true rfl)
theorem s_X12_walks_j59 {G : Gl} (hG : G.1.stackTraces = false) {C : Cx} {n : Nat} {μ : Mem} {k0 : Int32} {r : (Int32 × Mem)} (hf : f_X12_walks_j59 μ k0 = some r) (hK : FinR G C F_X12_walks (some .int) (some (.int r.1)) r.2) : V G C F_X12_walks 59 [none, none, none] [.int k0] (pic G μ) n 0 0 := by
  unfold f_X12_walks_j59 at hf
  cases hf
  exact R_i hK d_X12_walks_59 (Nat.le_of_ble_eq_true rfl) (Nat.le_of_ble_eq_true rfl)
theorem s_X12_walks_e {G : Gl} (hG : G.1.stackTraces = false) {C : Cx} {n : Nat} {μ : Mem} {p1 : Int32} {p2 : Int32} {r : (Int32 × Mem)} (hf : f_X12_walks μ p1 p2 = some r) (hK : FinR G C F_X12_walks (some .int) (some (.int r.1)) r.2) : V G C F_X12_walks 0 [some (.ref (G.2.1 + 264)), some (.int p1), some (.int p2)] [] (pic G μ) n 0 0 := by
  unfold f_X12_walks at hf
  refine V_aload_n d_X12_walks_0 rfl rfl ?_
  refine V_iconst (v := 0) d_X12_walks_1 ic_0 ?_
  refine B_putI k_264 fl_RX12_3 pt_12_0 (Nat.le_of_ble_eq_true rfl) p_12_0 d_X12_walks_2 ?_
  refine V_aload_n d_X12_walks_5 rfl rfl ?_
  refine V_aload_n d_X12_walks_6 rfl rfl ?_
  refine V_iload_n d_X12_walks_7 rfl rfl ?_
  obtain ⟨t1, ht1, hf⟩ := ob hf
  refine B_callV1 (s_X12_noPerson hG ht1) k_264 clX12 m_X12_noPerson kv_RX12_305 d_X12_walks_8 rfl (Nat.le_of_ble_eq_true rfl) ⟨rfl, rfl, Nat.le_of_ble_eq_true rfl, Nat.le_of_ble_eq_true rfl, Nat.le_of_ble_eq_true rfl⟩ (fun n => ?_)
  refine V_iconst (v := 1) d_X12_walks_11 ic_1 ?_
  obtain ⟨q2, hq2, hf⟩ := ob hf
  refine B_callV1 (s_X12_throwsIf hG hq2) k_264 clX12 m_X12_throwsIf kv_RX12_263 d_X12_walks_12 rfl (Nat.le_of_ble_eq_true rfl) ⟨rfl, rfl, Nat.le_of_ble_eq_true rfl, Nat.le_of_ble_eq_true rfl, Nat.le_of_ble_eq_true rfl⟩ (fun n => ?_)
  refine V_if_ne (tgt := 40) d_X12_walks_15 (by decide) (fun c15 => ?_) (fun c15 => ?_)
  · replace hf := iteT (b2i_ne0 c15) hf
    refine V_less (ls' := [none, none, none]) trivial ?_
    exact s_X12_walks_j40 hG hf hK
  · replace hf := iteF (b2i_nt (b2i_eq0 c15)) hf
    refine V_aload_n d_X12_walks_18 rfl rfl ?_
    refine V_iload_n d_X12_walks_19 rfl rfl ?_
    refine V_iconst (v := 0) d_X12_walks_20 ic_0 ?_
    refine V_iconst (v := 1) d_X12_walks_21 ic_1 ?_
    obtain ⟨t3, ht3, hf⟩ := ob hf
    refine B_callS1 (s_X12_in hG ht3) m_X12_in ks_RX12_73 d_X12_walks_22 rfl (Nat.le_of_ble_eq_true rfl) ⟨rfl, rfl, Nat.le_of_ble_eq_true rfl, Nat.le_of_ble_eq_true rfl, Nat.le_of_ble_eq_true rfl⟩ (fun n => ?_)
    have hJj4 : ∀ j4 : Bool, j4 = (if t3 = true then (false : Bool) else true) → V G C F_X12_walks 33 [some (.ref (G.2.1 + 264)), some (.int p1), some (.int p2)] [.int (b2i j4), .ref (G.2.1 + 264)] (pic G q2.2) n 0 0 := by
      intro j4 ej4
      subst ej4
      refine V_iconst (v := 2) d_X12_walks_33 ic_2 ?_
      obtain ⟨q5, hq5, hf⟩ := ob hf
      refine B_callV1 (s_X12_throwsIf hG hq5) k_264 clX12 m_X12_throwsIf kv_RX12_263 d_X12_walks_34 rfl (Nat.le_of_ble_eq_true rfl) ⟨rfl, rfl, Nat.le_of_ble_eq_true rfl, Nat.le_of_ble_eq_true rfl, Nat.le_of_ble_eq_true rfl⟩ (fun n => ?_)
      refine V_if_eq (tgt := 42) d_X12_walks_37 (by decide) (fun c37 => ?_) (fun c37 => ?_)
      · replace hf := iteF (b2i_nt (b2i_eq0 c37)) hf
        refine V_iload_n d_X12_walks_42 rfl rfl ?_
        refine V_if_ne (tgt := 54) d_X12_walks_43 (by decide) (fun c43 => ?_) (fun c43 => ?_)
        · replace hf := iteF c43 hf
          refine V_aload_n d_X12_walks_54 rfl rfl ?_
          refine V_iload_n d_X12_walks_55 rfl rfl ?_
          obtain ⟨q6, hq6, hf⟩ := ob hf
          refine B_callV1 (s_X12_fallsBy hG hq6) k_264 clX12 m_X12_fallsBy kv_RX12_326 d_X12_walks_56 rfl (Nat.le_of_ble_eq_true rfl) ⟨rfl, rfl, Nat.le_of_ble_eq_true rfl, Nat.le_of_ble_eq_true rfl, Nat.le_of_ble_eq_true rfl⟩ (fun n => ?_)
          refine V_less (ls' := [none, none, none]) trivial ?_
          exact s_X12_walks_j59 hG hf hK
        · replace hf := iteT c43 hf
          refine V_aload_n d_X12_walks_46 rfl rfl ?_
          refine V_iload_n d_X12_walks_47 rfl rfl ?_
          obtain ⟨q7, hq7, hf⟩ := ob hf
          refine B_callV1 (s_X12_walksBy hG hq7) k_264 clX12 m_X12_walksBy kv_RX12_323 d_X12_walks_48 rfl (Nat.le_of_ble_eq_true rfl) ⟨rfl, rfl, Nat.le_of_ble_eq_true rfl, Nat.le_of_ble_eq_true rfl, Nat.le_of_ble_eq_true rfl⟩ (fun n => ?_)
          refine V_goto (tgt := 59) d_X12_walks_51 (by decide) ?_
          refine V_less (ls' := [none, none, none]) trivial ?_
          exact s_X12_walks_j59 hG hf hK
      · replace hf := iteT (b2i_ne0 c37) hf
        refine V_less (ls' := [none, none, none]) trivial ?_
        exact s_X12_walks_j40 hG hf hK
    refine V_if_ne (tgt := 32) d_X12_walks_25 (by decide) (fun c25 => ?_) (fun c25 => ?_)
    · refine V_iconst (v := 0) d_X12_walks_32 ic_0 ?_
      refine V_less (ls' := [some _, some _, some _]) ⟨rfl, rfl, rfl, trivial⟩ ?_
      exact hJj4 false (by rw [if_pos (b2i_ne0 c25)])
    · refine V_iconst (v := 1) d_X12_walks_28 ic_1 ?_
      refine V_goto (tgt := 33) d_X12_walks_29 (by decide) ?_
      refine V_less (ls' := [some _, some _, some _]) ⟨rfl, rfl, rfl, trivial⟩ ?_
      exact hJj4 true (by rw [if_neg (b2i_nt (b2i_eq0 c25))])
theorem s_X12_walks {G : Gl} (hG : G.1.stackTraces = false) {μ : Mem} {p1 : Int32} {p2 : Int32} {r : (Int32 × Mem)} (hf : f_X12_walks μ p1 p2 = some r) : Rt G yX12_walks F_X12_walks (some .int) [.ref (G.2.1 + 264), .int p1, .int p2] μ (some (.int r.1)) r.2 := fun n => Sd.of hG ⟨by decide +kernel, rfl, rfl⟩ rfl (Nat.le_of_ble_eq_true rfl) rfl (fun C hK => s_X12_walks_e hG hf hK)
theorem d_X12_grows_0 : decode cX12_grows 0 = .ok (.aload_n 0, 1) := by decide +kernel
theorem d_X12_grows_1 : decode cX12_grows 1 = .ok (.iconst 0, 1) := by decide +kernel
theorem d_X12_grows_2 : decode cX12_grows 2 = .ok (.putfield 3, 3) := by decide +kernel
theorem d_X12_grows_5 : decode cX12_grows 5 = .ok (.aload_n 0, 1) := by decide +kernel
theorem d_X12_grows_6 : decode cX12_grows 6 = .ok (.aload_n 0, 1) := by decide +kernel
theorem d_X12_grows_7 : decode cX12_grows 7 = .ok (.iload_n 1, 1) := by decide +kernel
theorem d_X12_grows_8 : decode cX12_grows 8 = .ok (.invokevirtual 317, 3) := by decide +kernel
theorem d_X12_grows_11 : decode cX12_grows 11 = .ok (.iconst 1, 1) := by decide +kernel
theorem d_X12_grows_12 : decode cX12_grows 12 = .ok (.invokevirtual 263, 3) := by decide +kernel
theorem d_X12_grows_15 : decode cX12_grows 15 = .ok (.ifCond .ne 11, 3) := by decide +kernel
theorem d_X12_grows_18 : decode cX12_grows 18 = .ok (.aload_n 0, 1) := by decide +kernel
theorem d_X12_grows_19 : decode cX12_grows 19 = .ok (.iload_n 1, 1) := by decide +kernel
theorem d_X12_grows_20 : decode cX12_grows 20 = .ok (.invokevirtual 296, 3) := by decide +kernel
theorem d_X12_grows_23 : decode cX12_grows 23 = .ok (.ifCond .ne 7, 3) := by decide +kernel
theorem d_X12_grows_26 : decode cX12_grows 26 = .ok (.iconst 0, 1) := by decide +kernel
theorem d_X12_grows_27 : decode cX12_grows 27 = .ok (.goto 8, 3) := by decide +kernel
theorem d_X12_grows_30 : decode cX12_grows 30 = .ok (.aload_n 0, 1) := by decide +kernel
theorem d_X12_grows_31 : decode cX12_grows 31 = .ok (.iload_n 1, 1) := by decide +kernel
theorem d_X12_grows_32 : decode cX12_grows 32 = .ok (.invokevirtual 329, 3) := by decide +kernel
theorem d_X12_grows_35 : decode cX12_grows 35 = .ok (.ireturn, 1) := by decide +kernel
theorem s_X12_grows_j35 {G : Gl} (hG : G.1.stackTraces = false) {C : Cx} {n : Nat} {μ : Mem} {k0 : Int32} {r : (Int32 × Mem)} (hf : f_X12_grows_j35 μ k0 = some r) (hK : FinR G C F_X12_grows (some .int) (some (.int r.1)) r.2) : V G C F_X12_grows 35 [none, none] [.int k0] (pic G μ) n 0 0 := by
  unfold f_X12_grows_j35 at hf
  cases hf
  exact R_i hK d_X12_grows_35 (Nat.le_of_ble_eq_true rfl) (Nat.le_of_ble_eq_true rfl)
theorem s_X12_grows_j26 {G : Gl} (hG : G.1.stackTraces = false) {C : Cx} {n : Nat} {μ : Mem}  {r : (Int32 × Mem)} (hf : f_X12_grows_j26 μ = some r) (hK : FinR G C F_X12_grows (some .int) (some (.int r.1)) r.2) : V G C F_X12_grows 26 [none, none] [] (pic G μ) n 0 0 := by
  unfold f_X12_grows_j26 at hf
  refine V_iconst (v := 0) d_X12_grows_26 ic_0 ?_
  refine V_goto (tgt := 35) d_X12_grows_27 (by decide) ?_
  refine V_less (ls' := [none, none]) trivial ?_
  exact s_X12_grows_j35 hG hf hK
theorem s_X12_grows_e {G : Gl} (hG : G.1.stackTraces = false) {C : Cx} {n : Nat} {μ : Mem} {p1 : Int32} {r : (Int32 × Mem)} (hf : f_X12_grows μ p1 = some r) (hK : FinR G C F_X12_grows (some .int) (some (.int r.1)) r.2) : V G C F_X12_grows 0 [some (.ref (G.2.1 + 264)), some (.int p1)] [] (pic G μ) n 0 0 := by
  unfold f_X12_grows at hf
  refine V_aload_n d_X12_grows_0 rfl rfl ?_
  refine V_iconst (v := 0) d_X12_grows_1 ic_0 ?_
  refine B_putI k_264 fl_RX12_3 pt_12_0 (Nat.le_of_ble_eq_true rfl) p_12_0 d_X12_grows_2 ?_
  refine V_aload_n d_X12_grows_5 rfl rfl ?_
  refine V_aload_n d_X12_grows_6 rfl rfl ?_
  refine V_iload_n d_X12_grows_7 rfl rfl ?_
  obtain ⟨t1, ht1, hf⟩ := ob hf
  refine B_callV1 (s_X12_noLace hG ht1) k_264 clX12 m_X12_noLace kv_RX12_317 d_X12_grows_8 rfl (Nat.le_of_ble_eq_true rfl) ⟨rfl, rfl, Nat.le_of_ble_eq_true rfl, Nat.le_of_ble_eq_true rfl, Nat.le_of_ble_eq_true rfl⟩ (fun n => ?_)
  refine V_iconst (v := 1) d_X12_grows_11 ic_1 ?_
  obtain ⟨q2, hq2, hf⟩ := ob hf
  refine B_callV1 (s_X12_throwsIf hG hq2) k_264 clX12 m_X12_throwsIf kv_RX12_263 d_X12_grows_12 rfl (Nat.le_of_ble_eq_true rfl) ⟨rfl, rfl, Nat.le_of_ble_eq_true rfl, Nat.le_of_ble_eq_true rfl, Nat.le_of_ble_eq_true rfl⟩ (fun n => ?_)
  refine V_if_ne (tgt := 26) d_X12_grows_15 (by decide) (fun c15 => ?_) (fun c15 => ?_)
  · replace hf := iteT (b2i_ne0 c15) hf
    refine V_less (ls' := [none, none]) trivial ?_
    exact s_X12_grows_j26 hG hf hK
  · replace hf := iteF (b2i_nt (b2i_eq0 c15)) hf
    refine V_aload_n d_X12_grows_18 rfl rfl ?_
    refine V_iload_n d_X12_grows_19 rfl rfl ?_
    obtain ⟨t3, ht3, hf⟩ := ob hf
    refine B_callV1 (s_X12_isPledged hG ht3) k_264 clX12 m_X12_isPledged kv_RX12_296 d_X12_grows_20 rfl (Nat.le_of_ble_eq_true rfl) ⟨rfl, rfl, Nat.le_of_ble_eq_true rfl, Nat.le_of_ble_eq_true rfl, Nat.le_of_ble_eq_true rfl⟩ (fun n => ?_)
    refine V_if_ne (tgt := 30) d_X12_grows_23 (by decide) (fun c23 => ?_) (fun c23 => ?_)
    · replace hf := iteT (b2i_ne0 c23) hf
      refine V_aload_n d_X12_grows_30 rfl rfl ?_
      refine V_iload_n d_X12_grows_31 rfl rfl ?_
      obtain ⟨q4, hq4, hf⟩ := ob hf
      refine B_callV1 (s_X12_growsBy hG hq4) k_264 clX12 m_X12_growsBy kv_RX12_329 d_X12_grows_32 rfl (Nat.le_of_ble_eq_true rfl) ⟨rfl, rfl, Nat.le_of_ble_eq_true rfl, Nat.le_of_ble_eq_true rfl, Nat.le_of_ble_eq_true rfl⟩ (fun n => ?_)
      refine V_less (ls' := [none, none]) trivial ?_
      exact s_X12_grows_j35 hG hf hK
    · replace hf := iteF (b2i_nt (b2i_eq0 c23)) hf
      refine V_less (ls' := [none, none]) trivial ?_
      exact s_X12_grows_j26 hG hf hK
theorem s_X12_grows {G : Gl} (hG : G.1.stackTraces = false) {μ : Mem} {p1 : Int32} {r : (Int32 × Mem)} (hf : f_X12_grows μ p1 = some r) : Rt G yX12_grows F_X12_grows (some .int) [.ref (G.2.1 + 264), .int p1] μ (some (.int r.1)) r.2 := fun n => Sd.of hG ⟨by decide +kernel, rfl, rfl⟩ rfl (Nat.le_of_ble_eq_true rfl) rfl (fun C hK => s_X12_grows_e hG hf hK)
theorem d_X12_tells_0 : decode cX12_tells 0 = .ok (.sipush 239, 3) := by decide +kernel
theorem d_X12_tells_3 : decode cX12_tells 3 = .ok (.istore 4, 2) := by decide +kernel
theorem d_X12_tells_5 : decode cX12_tells 5 = .ok (.iload 4, 2) := by decide +kernel
theorem d_X12_tells_7 : decode cX12_tells 7 = .ok (.iconst 4, 1) := by decide +kernel
theorem d_X12_tells_8 : decode cX12_tells 8 = .ok (.if_icmp .lt 33, 3) := by decide +kernel
theorem d_X12_tells_11 : decode cX12_tells 11 = .ok (.aload_n 0, 1) := by decide +kernel
theorem d_X12_tells_12 : decode cX12_tells 12 = .ok (.getfield 13, 3) := by decide +kernel
theorem d_X12_tells_15 : decode cX12_tells 15 = .ok (.sipush 130, 3) := by decide +kernel
theorem d_X12_tells_18 : decode cX12_tells 18 = .ok (.iload 4, 2) := by decide +kernel
theorem d_X12_tells_20 : decode cX12_tells 20 = .ok (.iadd, 1) := by decide +kernel
theorem d_X12_tells_21 : decode cX12_tells 21 = .ok (.aload_n 0, 1) := by decide +kernel
theorem d_X12_tells_22 : decode cX12_tells 22 = .ok (.getfield 13, 3) := by decide +kernel
theorem d_X12_tells_25 : decode cX12_tells 25 = .ok (.sipush 130, 3) := by decide +kernel
theorem d_X12_tells_28 : decode cX12_tells 28 = .ok (.iload 4, 2) := by decide +kernel
theorem d_X12_tells_30 : decode cX12_tells 30 = .ok (.iadd, 1) := by decide +kernel
theorem d_X12_tells_31 : decode cX12_tells 31 = .ok (.iconst 4, 1) := by decide +kernel
theorem d_X12_tells_32 : decode cX12_tells 32 = .ok (.isub, 1) := by decide +kernel
theorem d_X12_tells_33 : decode cX12_tells 33 = .ok (.iaload, 1) := by decide +kernel
theorem d_X12_tells_34 : decode cX12_tells 34 = .ok (.iastore, 1) := by decide +kernel
theorem d_X12_tells_35 : decode cX12_tells 35 = .ok (.iinc 4 (-1), 3) := by decide +kernel
theorem d_X12_tells_38 : decode cX12_tells 38 = .ok (.goto (-33), 3) := by decide +kernel
theorem d_X12_tells_41 : decode cX12_tells 41 = .ok (.aload_n 0, 1) := by decide +kernel
theorem d_X12_tells_42 : decode cX12_tells 42 = .ok (.getfield 13, 3) := by decide +kernel
theorem d_X12_tells_45 : decode cX12_tells 45 = .ok (.sipush 130, 3) := by decide +kernel
theorem d_X12_tells_48 : decode cX12_tells 48 = .ok (.aload_n 0, 1) := by decide +kernel
theorem d_X12_tells_49 : decode cX12_tells 49 = .ok (.getfield 13, 3) := by decide +kernel
theorem d_X12_tells_52 : decode cX12_tells 52 = .ok (.iconst 3, 1) := by decide +kernel
theorem d_X12_tells_53 : decode cX12_tells 53 = .ok (.iaload, 1) := by decide +kernel
theorem d_X12_tells_54 : decode cX12_tells 54 = .ok (.iastore, 1) := by decide +kernel
theorem d_X12_tells_55 : decode cX12_tells 55 = .ok (.aload_n 0, 1) := by decide +kernel
theorem d_X12_tells_56 : decode cX12_tells 56 = .ok (.getfield 13, 3) := by decide +kernel
theorem d_X12_tells_59 : decode cX12_tells 59 = .ok (.sipush 131, 3) := by decide +kernel
theorem d_X12_tells_62 : decode cX12_tells 62 = .ok (.iload_n 1, 1) := by decide +kernel
theorem d_X12_tells_63 : decode cX12_tells 63 = .ok (.iastore, 1) := by decide +kernel
theorem d_X12_tells_64 : decode cX12_tells 64 = .ok (.aload_n 0, 1) := by decide +kernel
theorem d_X12_tells_65 : decode cX12_tells 65 = .ok (.getfield 13, 3) := by decide +kernel
theorem d_X12_tells_68 : decode cX12_tells 68 = .ok (.sipush 132, 3) := by decide +kernel
theorem d_X12_tells_71 : decode cX12_tells 71 = .ok (.iload_n 2, 1) := by decide +kernel
theorem d_X12_tells_72 : decode cX12_tells 72 = .ok (.iastore, 1) := by decide +kernel
theorem d_X12_tells_73 : decode cX12_tells 73 = .ok (.aload_n 0, 1) := by decide +kernel
theorem d_X12_tells_74 : decode cX12_tells 74 = .ok (.getfield 13, 3) := by decide +kernel
theorem d_X12_tells_77 : decode cX12_tells 77 = .ok (.sipush 133, 3) := by decide +kernel
theorem d_X12_tells_80 : decode cX12_tells 80 = .ok (.iload_n 3, 1) := by decide +kernel
theorem d_X12_tells_81 : decode cX12_tells 81 = .ok (.iastore, 1) := by decide +kernel
theorem d_X12_tells_82 : decode cX12_tells 82 = .ok (.aload_n 0, 1) := by decide +kernel
theorem d_X12_tells_83 : decode cX12_tells 83 = .ok (.getfield 13, 3) := by decide +kernel
theorem d_X12_tells_86 : decode cX12_tells 86 = .ok (.bipush 6, 2) := by decide +kernel
theorem d_X12_tells_88 : decode cX12_tells 88 = .ok (.bipush 60, 2) := by decide +kernel
theorem d_X12_tells_90 : decode cX12_tells 90 = .ok (.aload_n 0, 1) := by decide +kernel
theorem d_X12_tells_91 : decode cX12_tells 91 = .ok (.getfield 13, 3) := by decide +kernel
theorem d_X12_tells_94 : decode cX12_tells 94 = .ok (.bipush 6, 2) := by decide +kernel
theorem d_X12_tells_96 : decode cX12_tells 96 = .ok (.iaload, 1) := by decide +kernel
theorem d_X12_tells_97 : decode cX12_tells 97 = .ok (.iconst 1, 1) := by decide +kernel
theorem d_X12_tells_98 : decode cX12_tells 98 = .ok (.iadd, 1) := by decide +kernel
theorem d_X12_tells_99 : decode cX12_tells 99 = .ok (.invokestatic 87, 3) := by decide +kernel
theorem d_X12_tells_102 : decode cX12_tells 102 = .ok (.iastore, 1) := by decide +kernel
theorem d_X12_tells_103 : decode cX12_tells 103 = .ok (.return_, 1) := by decide +kernel
theorem s_X12_tells_b5 {G : Gl} (hG : G.1.stackTraces = false) {C : Cx} {n : Nat} {μ : Mem} {l1 : Int32} {l2 : Int32} {l3 : Int32} {l4 : Int32} {y : ((Int32 × Mem) ⊕ Mem)} (hf : f_X12_tells_b5 μ l1 l2 l3 l4 = some y) (hK : (∀ z', y = .inl z' → ∀ n, V G C F_X12_tells 5 [some (.ref (G.2.1 + 264)), some (.int l1), some (.int l2), some (.int l3), some (.int z'.1)] [] (pic G z'.2) n 0 0) ∧ (∀ x', y = .inr x' → ∀ n, V G C F_X12_tells 41 [some (.ref (G.2.1 + 264)), some (.int l1), some (.int l2), some (.int l3), none] [] (pic G x') n 0 0)) : V G C F_X12_tells 5 [some (.ref (G.2.1 + 264)), some (.int l1), some (.int l2), some (.int l3), some (.int l4)] [] (pic G μ) n 0 0 := by
  unfold f_X12_tells_b5 at hf
  refine V_iload d_X12_tells_5 rfl ?_
  refine V_iconst (v := 4) d_X12_tells_7 ic_4 ?_
  refine V_icmp_lt (tgt := 41) d_X12_tells_8 (by decide) (fun c8 => ?_) (fun c8 => ?_)
  · replace hf := iteT c8 hf
    refine V_less (ls' := [some _, some _, some _, some _, none]) ⟨rfl, rfl, rfl, rfl, trivial⟩ ?_
    cases hf
    exact hK.2 _ rfl _
  · replace hf := iteF c8 hf
    refine V_aload_n d_X12_tells_11 rfl rfl ?_
    refine B_get k_264 fl_RX12_13 d_X12_tells_12 g_12_1 ?_
    refine V_sipush (v := 130) d_X12_tells_15 sp_130 ?_
    refine V_iload d_X12_tells_18 rfl ?_
    refine V_iadd d_X12_tells_20 ?_
    refine V_aload_n d_X12_tells_21 rfl rfl ?_
    refine B_get k_264 fl_RX12_13 d_X12_tells_22 g_12_1 ?_
    refine V_sipush (v := 130) d_X12_tells_25 sp_130 ?_
    refine V_iload d_X12_tells_28 rfl ?_
    refine V_iadd d_X12_tells_30 ?_
    refine V_iconst (v := 4) d_X12_tells_31 ic_4 ?_
    refine V_isub d_X12_tells_32 ?_
    obtain ⟨t1, ht1, hf⟩ := ob hf
    refine B_iald k_265 ht1 d_X12_tells_33 ?_
    obtain ⟨μ2, hμ2, hf⟩ := ob hf
    refine B_iast k_265 hμ2 d_X12_tells_34 ?_
    refine V_iinc (v := (l4 + (-1))) (ls' := [_, _, _, _, _]) d_X12_tells_35 rfl (by rw [ic_m1]) rfl ?_
    refine V_goto (tgt := 5) d_X12_tells_38 (by decide) ?_
    refine V_less (ls' := [some _, some _, some _, some _, some _]) ⟨rfl, rfl, rfl, rfl, rfl, trivial⟩ ?_
    cases hf
    exact hK.1 _ rfl _
theorem s_X12_tells_j41 {G : Gl} (hG : G.1.stackTraces = false) {C : Cx} {n : Nat} {μ : Mem} {l1 : Int32} {l2 : Int32} {l3 : Int32} {r : Mem} (hf : f_X12_tells_j41 μ l1 l2 l3 = some r) (hK : FinR G C F_X12_tells none none r) : V G C F_X12_tells 41 [some (.ref (G.2.1 + 264)), some (.int l1), some (.int l2), some (.int l3), none] [] (pic G μ) n 0 0 := by
  unfold f_X12_tells_j41 at hf
  refine V_aload_n d_X12_tells_41 rfl rfl ?_
  refine B_get k_264 fl_RX12_13 d_X12_tells_42 g_12_1 ?_
  refine V_sipush (v := 130) d_X12_tells_45 sp_130 ?_
  refine V_aload_n d_X12_tells_48 rfl rfl ?_
  refine B_get k_264 fl_RX12_13 d_X12_tells_49 g_12_1 ?_
  refine V_iconst (v := 3) d_X12_tells_52 ic_3 ?_
  obtain ⟨t1, ht1, hf⟩ := ob hf
  refine B_iald k_265 ht1 d_X12_tells_53 ?_
  obtain ⟨μ2, hμ2, hf⟩ := ob hf
  refine B_iast k_265 hμ2 d_X12_tells_54 ?_
  refine V_aload_n d_X12_tells_55 rfl rfl ?_
  refine B_get k_264 fl_RX12_13 d_X12_tells_56 g_12_1 ?_
  refine V_sipush (v := 131) d_X12_tells_59 sp_131 ?_
  refine V_iload_n d_X12_tells_62 rfl rfl ?_
  obtain ⟨μ3, hμ3, hf⟩ := ob hf
  refine B_iast k_265 hμ3 d_X12_tells_63 ?_
  refine V_aload_n d_X12_tells_64 rfl rfl ?_
  refine B_get k_264 fl_RX12_13 d_X12_tells_65 g_12_1 ?_
  refine V_sipush (v := 132) d_X12_tells_68 sp_132 ?_
  refine V_iload_n d_X12_tells_71 rfl rfl ?_
  obtain ⟨μ4, hμ4, hf⟩ := ob hf
  refine B_iast k_265 hμ4 d_X12_tells_72 ?_
  refine V_aload_n d_X12_tells_73 rfl rfl ?_
  refine B_get k_264 fl_RX12_13 d_X12_tells_74 g_12_1 ?_
  refine V_sipush (v := 133) d_X12_tells_77 sp_133 ?_
  refine V_iload_n d_X12_tells_80 rfl rfl ?_
  obtain ⟨μ5, hμ5, hf⟩ := ob hf
  refine B_iast k_265 hμ5 d_X12_tells_81 ?_
  refine V_aload_n d_X12_tells_82 rfl rfl ?_
  refine B_get k_264 fl_RX12_13 d_X12_tells_83 g_12_1 ?_
  refine V_bipush (v := 6) d_X12_tells_86 bp_6 ?_
  refine V_bipush (v := 60) d_X12_tells_88 bp_60 ?_
  refine V_aload_n d_X12_tells_90 rfl rfl ?_
  refine B_get k_264 fl_RX12_13 d_X12_tells_91 g_12_1 ?_
  refine V_bipush (v := 6) d_X12_tells_94 bp_6 ?_
  obtain ⟨t6, ht6, hf⟩ := ob hf
  refine B_iald k_265 ht6 d_X12_tells_96 ?_
  refine V_iconst (v := 1) d_X12_tells_97 ic_1 ?_
  refine V_iadd d_X12_tells_98 ?_
  obtain ⟨t7, ht7, hf⟩ := ob hf
  refine B_callS1 (s_J9_min_7cf53 hG ht7) m_J9_min_7cf53 ks_RX12_87 d_X12_tells_99 rfl (Nat.le_of_ble_eq_true rfl) ⟨rfl, rfl, Nat.le_of_ble_eq_true rfl, Nat.le_of_ble_eq_true rfl, Nat.le_of_ble_eq_true rfl⟩ (fun n => ?_)
  obtain ⟨μ8, hμ8, hf⟩ := ob hf
  refine B_iast k_265 hμ8 d_X12_tells_102 ?_
  cases hf
  exact R_v hK d_X12_tells_103 (Nat.le_of_ble_eq_true rfl) (Nat.le_of_ble_eq_true rfl)
theorem s_X12_tells_l5 {G : Gl} (hG : G.1.stackTraces = false) {C : Cx} {n : Nat} {μ : Mem} {l1 : Int32} {l2 : Int32} {l3 : Int32} {l4 : Int32} {r : Mem} (hf : f_X12_tells_l5 μ l1 l2 l3 l4 = some r) (hK : FinR G C F_X12_tells none none r) : V G C F_X12_tells 5 [some (.ref (G.2.1 + 264)), some (.int l1), some (.int l2), some (.int l3), some (.int l4)] [] (pic G μ) n 0 0 := by
  unfold f_X12_tells_l5 at hf
  obtain ⟨t, hl, hf⟩ := ob hf
  refine loopV (P := fun z => ∀ n, V G C F_X12_tells 5 [some (.ref (G.2.1 + 264)), some (.int l1), some (.int l2), some (.int l3), some (.int z.1)] [] (pic G z.2) n 0 0) (t := t) ?_ _ _ hl n
  intro z y' hy hI hT n
  refine s_X12_tells_b5 hG hy ⟨hI, fun x9 ex => ?_⟩
  have ex2 := hT x9 ex
  subst ex2
  intro n
  exact s_X12_tells_j41 hG hf hK
theorem s_X12_tells_e {G : Gl} (hG : G.1.stackTraces = false) {C : Cx} {n : Nat} {μ : Mem} {p1 : Int32} {p2 : Int32} {p3 : Int32} {r : Mem} (hf : f_X12_tells μ p1 p2 p3 = some r) (hK : FinR G C F_X12_tells none none r) : V G C F_X12_tells 0 [some (.ref (G.2.1 + 264)), some (.int p1), some (.int p2), some (.int p3), none] [] (pic G μ) n 0 0 := by
  unfold f_X12_tells at hf
  refine V_sipush (v := 239) d_X12_tells_0 sp_239 ?_
  refine V_istore (ls' := [_, _, _, _, _]) d_X12_tells_3 rfl rfl ?_
  refine V_less (ls' := [some _, some _, some _, some _, some _]) ⟨rfl, rfl, rfl, rfl, rfl, trivial⟩ ?_
  exact s_X12_tells_l5 hG hf hK
theorem s_X12_tells {G : Gl} (hG : G.1.stackTraces = false) {μ : Mem} {p1 : Int32} {p2 : Int32} {p3 : Int32} {r : Mem} (hf : f_X12_tells μ p1 p2 p3 = some r) : Rt G yX12_tells F_X12_tells none [.ref (G.2.1 + 264), .int p1, .int p2, .int p3] μ none r := fun n => Sd.of hG ⟨by decide +kernel, rfl, rfl⟩ rfl (Nat.le_of_ble_eq_true rfl) rfl (fun C hK => s_X12_tells_e hG hf hK)
theorem d_X12_isPaid_0 : decode cX12_isPaid 0 = .ok (.aload_n 0, 1) := by decide +kernel
theorem d_X12_isPaid_1 : decode cX12_isPaid 1 = .ok (.iload_n 1, 1) := by decide +kernel
theorem d_X12_isPaid_2 : decode cX12_isPaid 2 = .ok (.iconst 2, 1) := by decide +kernel
theorem d_X12_isPaid_3 : decode cX12_isPaid 3 = .ok (.invokevirtual 70, 3) := by decide +kernel
theorem d_X12_isPaid_6 : decode cX12_isPaid 6 = .ok (.istore_n 3, 1) := by decide +kernel
theorem d_X12_isPaid_7 : decode cX12_isPaid 7 = .ok (.aload_n 0, 1) := by decide +kernel
theorem d_X12_isPaid_8 : decode cX12_isPaid 8 = .ok (.getfield 13, 3) := by decide +kernel
theorem d_X12_isPaid_11 : decode cX12_isPaid 11 = .ok (.iload_n 2, 1) := by decide +kernel
theorem d_X12_isPaid_12 : decode cX12_isPaid 12 = .ok (.iconst 0, 1) := by decide +kernel
theorem d_X12_isPaid_13 : decode cX12_isPaid 13 = .ok (.invokestatic 63, 3) := by decide +kernel
theorem d_X12_isPaid_16 : decode cX12_isPaid 16 = .ok (.dup2, 1) := by decide +kernel
theorem d_X12_isPaid_17 : decode cX12_isPaid 17 = .ok (.iaload, 1) := by decide +kernel
theorem d_X12_isPaid_18 : decode cX12_isPaid 18 = .ok (.iload_n 3, 1) := by decide +kernel
theorem d_X12_isPaid_19 : decode cX12_isPaid 19 = .ok (.isub, 1) := by decide +kernel
theorem d_X12_isPaid_20 : decode cX12_isPaid 20 = .ok (.iastore, 1) := by decide +kernel
theorem d_X12_isPaid_21 : decode cX12_isPaid 21 = .ok (.aload_n 0, 1) := by decide +kernel
theorem d_X12_isPaid_22 : decode cX12_isPaid 22 = .ok (.aload_n 0, 1) := by decide +kernel
theorem d_X12_isPaid_23 : decode cX12_isPaid 23 = .ok (.iload_n 1, 1) := by decide +kernel
theorem d_X12_isPaid_24 : decode cX12_isPaid 24 = .ok (.iconst 1, 1) := by decide +kernel
theorem d_X12_isPaid_25 : decode cX12_isPaid 25 = .ok (.invokevirtual 70, 3) := by decide +kernel
theorem d_X12_isPaid_28 : decode cX12_isPaid 28 = .ok (.iload_n 3, 1) := by decide +kernel
theorem d_X12_isPaid_29 : decode cX12_isPaid 29 = .ok (.invokevirtual 332, 3) := by decide +kernel
theorem d_X12_isPaid_32 : decode cX12_isPaid 32 = .ok (.aload_n 0, 1) := by decide +kernel
theorem d_X12_isPaid_33 : decode cX12_isPaid 33 = .ok (.iload_n 1, 1) := by decide +kernel
theorem d_X12_isPaid_34 : decode cX12_isPaid 34 = .ok (.invokevirtual 48, 3) := by decide +kernel
theorem d_X12_isPaid_37 : decode cX12_isPaid 37 = .ok (.aload_n 0, 1) := by decide +kernel
theorem d_X12_isPaid_38 : decode cX12_isPaid 38 = .ok (.iload_n 1, 1) := by decide +kernel
theorem d_X12_isPaid_39 : decode cX12_isPaid 39 = .ok (.iconst 1, 1) := by decide +kernel
theorem d_X12_isPaid_40 : decode cX12_isPaid 40 = .ok (.iload_n 3, 1) := by decide +kernel
theorem d_X12_isPaid_41 : decode cX12_isPaid 41 = .ok (.invokevirtual 335, 3) := by decide +kernel
theorem d_X12_isPaid_44 : decode cX12_isPaid 44 = .ok (.return_, 1) := by decide +kernel
theorem s_X12_isPaid_e {G : Gl} (hG : G.1.stackTraces = false) {C : Cx} {n : Nat} {μ : Mem} {p1 : Int32} {p2 : Int32} {r : Mem} (hf : f_X12_isPaid μ p1 p2 = some r) (hK : FinR G C F_X12_isPaid none none r) : V G C F_X12_isPaid 0 [some (.ref (G.2.1 + 264)), some (.int p1), some (.int p2), none] [] (pic G μ) n 0 0 := by
  unfold f_X12_isPaid at hf
  refine V_aload_n d_X12_isPaid_0 rfl rfl ?_
  refine V_iload_n d_X12_isPaid_1 rfl rfl ?_
  refine V_iconst (v := 2) d_X12_isPaid_2 ic_2 ?_
  obtain ⟨t1, ht1, hf⟩ := ob hf
  refine B_callV1 (s_X12_ofLace hG ht1) k_264 clX12 m_X12_ofLace kv_RX12_70 d_X12_isPaid_3 rfl (Nat.le_of_ble_eq_true rfl) ⟨rfl, rfl, Nat.le_of_ble_eq_true rfl, Nat.le_of_ble_eq_true rfl, Nat.le_of_ble_eq_true rfl⟩ (fun n => ?_)
  refine V_istore_n (ls' := [_, _, _, _]) d_X12_isPaid_6 rfl rfl rfl ?_
  refine V_aload_n d_X12_isPaid_7 rfl rfl ?_
  refine B_get k_264 fl_RX12_13 d_X12_isPaid_8 g_12_1 ?_
  refine V_iload_n d_X12_isPaid_11 rfl rfl ?_
  refine V_iconst (v := 0) d_X12_isPaid_12 ic_0 ?_
  obtain ⟨t2, ht2, hf⟩ := ob hf
  refine B_callS1 (s_X12_at hG ht2) m_X12_at ks_RX12_63 d_X12_isPaid_13 rfl (Nat.le_of_ble_eq_true rfl) ⟨rfl, rfl, Nat.le_of_ble_eq_true rfl, Nat.le_of_ble_eq_true rfl, Nat.le_of_ble_eq_true rfl⟩ (fun n => ?_)
  refine V_dup2 d_X12_isPaid_16 rfl rfl ?_
  obtain ⟨t3, ht3, hf⟩ := ob hf
  refine B_iald k_265 ht3 d_X12_isPaid_17 ?_
  refine V_iload_n d_X12_isPaid_18 rfl rfl ?_
  refine V_isub d_X12_isPaid_19 ?_
  obtain ⟨μ4, hμ4, hf⟩ := ob hf
  refine B_iast k_265 hμ4 d_X12_isPaid_20 ?_
  refine V_aload_n d_X12_isPaid_21 rfl rfl ?_
  refine V_aload_n d_X12_isPaid_22 rfl rfl ?_
  refine V_iload_n d_X12_isPaid_23 rfl rfl ?_
  refine V_iconst (v := 1) d_X12_isPaid_24 ic_1 ?_
  obtain ⟨t5, ht5, hf⟩ := ob hf
  refine B_callV1 (s_X12_ofLace hG ht5) k_264 clX12 m_X12_ofLace kv_RX12_70 d_X12_isPaid_25 rfl (Nat.le_of_ble_eq_true rfl) ⟨rfl, rfl, Nat.le_of_ble_eq_true rfl, Nat.le_of_ble_eq_true rfl, Nat.le_of_ble_eq_true rfl⟩ (fun n => ?_)
  refine V_iload_n d_X12_isPaid_28 rfl rfl ?_
  obtain ⟨q6, hq6, hf⟩ := ob hf
  refine B_callV0 (s_X12_gets hG hq6) k_264 clX12 m_X12_gets kv_RX12_332 d_X12_isPaid_29 rfl (Nat.le_of_ble_eq_true rfl) ⟨rfl, rfl, Nat.le_of_ble_eq_true rfl, Nat.le_of_ble_eq_true rfl, Nat.le_of_ble_eq_true rfl⟩ (fun n => ?_)
  refine V_aload_n d_X12_isPaid_32 rfl rfl ?_
  refine V_iload_n d_X12_isPaid_33 rfl rfl ?_
  obtain ⟨q7, hq7, hf⟩ := ob hf
  refine B_callV0 (s_X12_comesBack hG hq7) k_264 clX12 m_X12_comesBack kv_RX12_48 d_X12_isPaid_34 rfl (Nat.le_of_ble_eq_true rfl) ⟨rfl, rfl, Nat.le_of_ble_eq_true rfl, Nat.le_of_ble_eq_true rfl, Nat.le_of_ble_eq_true rfl⟩ (fun n => ?_)
  refine V_aload_n d_X12_isPaid_37 rfl rfl ?_
  refine V_iload_n d_X12_isPaid_38 rfl rfl ?_
  refine V_iconst (v := 1) d_X12_isPaid_39 ic_1 ?_
  refine V_iload_n d_X12_isPaid_40 rfl rfl ?_
  obtain ⟨q8, hq8, hf⟩ := ob hf
  refine B_callV0 (s_X12_tells hG hq8) k_264 clX12 m_X12_tells kv_RX12_335 d_X12_isPaid_41 rfl (Nat.le_of_ble_eq_true rfl) ⟨rfl, rfl, Nat.le_of_ble_eq_true rfl, Nat.le_of_ble_eq_true rfl, Nat.le_of_ble_eq_true rfl⟩ (fun n => ?_)
  cases hf
  exact R_v hK d_X12_isPaid_44 (Nat.le_of_ble_eq_true rfl) (Nat.le_of_ble_eq_true rfl)
theorem s_X12_isPaid {G : Gl} (hG : G.1.stackTraces = false) {μ : Mem} {p1 : Int32} {p2 : Int32} {r : Mem} (hf : f_X12_isPaid μ p1 p2 = some r) : Rt G yX12_isPaid F_X12_isPaid none [.ref (G.2.1 + 264), .int p1, .int p2] μ none r := fun n => Sd.of hG ⟨by decide +kernel, rfl, rfl⟩ rfl (Nat.le_of_ble_eq_true rfl) rfl (fun C hK => s_X12_isPaid_e hG hf hK)
theorem d_X12_isLostNow_0 : decode cX12_isLostNow 0 = .ok (.aload_n 0, 1) := by decide +kernel
theorem d_X12_isLostNow_1 : decode cX12_isLostNow 1 = .ok (.iload_n 1, 1) := by decide +kernel
theorem d_X12_isLostNow_2 : decode cX12_isLostNow 2 = .ok (.iconst 2, 1) := by decide +kernel
theorem d_X12_isLostNow_3 : decode cX12_isLostNow 3 = .ok (.invokevirtual 70, 3) := by decide +kernel
theorem d_X12_isLostNow_6 : decode cX12_isLostNow 6 = .ok (.istore_n 2, 1) := by decide +kernel
theorem d_X12_isLostNow_7 : decode cX12_isLostNow 7 = .ok (.aload_n 0, 1) := by decide +kernel
theorem d_X12_isLostNow_8 : decode cX12_isLostNow 8 = .ok (.iload_n 1, 1) := by decide +kernel
theorem d_X12_isLostNow_9 : decode cX12_isLostNow 9 = .ok (.iconst 2, 1) := by decide +kernel
theorem d_X12_isLostNow_10 : decode cX12_isLostNow 10 = .ok (.aload_n 0, 1) := by decide +kernel
theorem d_X12_isLostNow_11 : decode cX12_isLostNow 11 = .ok (.iload_n 1, 1) := by decide +kernel
theorem d_X12_isLostNow_12 : decode cX12_isLostNow 12 = .ok (.iconst 1, 1) := by decide +kernel
theorem d_X12_isLostNow_13 : decode cX12_isLostNow 13 = .ok (.invokevirtual 70, 3) := by decide +kernel
theorem d_X12_isLostNow_16 : decode cX12_isLostNow 16 = .ok (.iconst 0, 1) := by decide +kernel
theorem d_X12_isLostNow_17 : decode cX12_isLostNow 17 = .ok (.iconst 0, 1) := by decide +kernel
theorem d_X12_isLostNow_18 : decode cX12_isLostNow 18 = .ok (.iconst 0, 1) := by decide +kernel
theorem d_X12_isLostNow_19 : decode cX12_isLostNow 19 = .ok (.invokevirtual 80, 3) := by decide +kernel
theorem d_X12_isLostNow_22 : decode cX12_isLostNow 22 = .ok (.aload_n 0, 1) := by decide +kernel
theorem d_X12_isLostNow_23 : decode cX12_isLostNow 23 = .ok (.iload_n 1, 1) := by decide +kernel
theorem d_X12_isLostNow_24 : decode cX12_isLostNow 24 = .ok (.iconst 2, 1) := by decide +kernel
theorem d_X12_isLostNow_25 : decode cX12_isLostNow 25 = .ok (.iload_n 2, 1) := by decide +kernel
theorem d_X12_isLostNow_26 : decode cX12_isLostNow 26 = .ok (.invokevirtual 335, 3) := by decide +kernel
theorem d_X12_isLostNow_29 : decode cX12_isLostNow 29 = .ok (.return_, 1) := by decide +kernel
theorem s_X12_isLostNow_e {G : Gl} (hG : G.1.stackTraces = false) {C : Cx} {n : Nat} {μ : Mem} {p1 : Int32} {r : Mem} (hf : f_X12_isLostNow μ p1 = some r) (hK : FinR G C F_X12_isLostNow none none r) : V G C F_X12_isLostNow 0 [some (.ref (G.2.1 + 264)), some (.int p1), none] [] (pic G μ) n 0 0 := by
  unfold f_X12_isLostNow at hf
  refine V_aload_n d_X12_isLostNow_0 rfl rfl ?_
  refine V_iload_n d_X12_isLostNow_1 rfl rfl ?_
  refine V_iconst (v := 2) d_X12_isLostNow_2 ic_2 ?_
  obtain ⟨t1, ht1, hf⟩ := ob hf
  refine B_callV1 (s_X12_ofLace hG ht1) k_264 clX12 m_X12_ofLace kv_RX12_70 d_X12_isLostNow_3 rfl (Nat.le_of_ble_eq_true rfl) ⟨rfl, rfl, Nat.le_of_ble_eq_true rfl, Nat.le_of_ble_eq_true rfl, Nat.le_of_ble_eq_true rfl⟩ (fun n => ?_)
  refine V_istore_n (ls' := [_, _, _]) d_X12_isLostNow_6 rfl rfl rfl ?_
  refine V_aload_n d_X12_isLostNow_7 rfl rfl ?_
  refine V_iload_n d_X12_isLostNow_8 rfl rfl ?_
  refine V_iconst (v := 2) d_X12_isLostNow_9 ic_2 ?_
  refine V_aload_n d_X12_isLostNow_10 rfl rfl ?_
  refine V_iload_n d_X12_isLostNow_11 rfl rfl ?_
  refine V_iconst (v := 1) d_X12_isLostNow_12 ic_1 ?_
  obtain ⟨t2, ht2, hf⟩ := ob hf
  refine B_callV1 (s_X12_ofLace hG ht2) k_264 clX12 m_X12_ofLace kv_RX12_70 d_X12_isLostNow_13 rfl (Nat.le_of_ble_eq_true rfl) ⟨rfl, rfl, Nat.le_of_ble_eq_true rfl, Nat.le_of_ble_eq_true rfl, Nat.le_of_ble_eq_true rfl⟩ (fun n => ?_)
  refine V_iconst (v := 0) d_X12_isLostNow_16 ic_0 ?_
  refine V_iconst (v := 0) d_X12_isLostNow_17 ic_0 ?_
  refine V_iconst (v := 0) d_X12_isLostNow_18 ic_0 ?_
  obtain ⟨q3, hq3, hf⟩ := ob hf
  refine B_callV0 (s_X12_tellsLace hG hq3) k_264 clX12 m_X12_tellsLace kv_RX12_80 d_X12_isLostNow_19 rfl (Nat.le_of_ble_eq_true rfl) ⟨rfl, rfl, Nat.le_of_ble_eq_true rfl, Nat.le_of_ble_eq_true rfl, Nat.le_of_ble_eq_true rfl⟩ (fun n => ?_)
  refine V_aload_n d_X12_isLostNow_22 rfl rfl ?_
  refine V_iload_n d_X12_isLostNow_23 rfl rfl ?_
  refine V_iconst (v := 2) d_X12_isLostNow_24 ic_2 ?_
  refine V_iload_n d_X12_isLostNow_25 rfl rfl ?_
  obtain ⟨q4, hq4, hf⟩ := ob hf
  refine B_callV0 (s_X12_tells hG hq4) k_264 clX12 m_X12_tells kv_RX12_335 d_X12_isLostNow_26 rfl (Nat.le_of_ble_eq_true rfl) ⟨rfl, rfl, Nat.le_of_ble_eq_true rfl, Nat.le_of_ble_eq_true rfl, Nat.le_of_ble_eq_true rfl⟩ (fun n => ?_)
  cases hf
  exact R_v hK d_X12_isLostNow_29 (Nat.le_of_ble_eq_true rfl) (Nat.le_of_ble_eq_true rfl)
theorem s_X12_isLostNow {G : Gl} (hG : G.1.stackTraces = false) {μ : Mem} {p1 : Int32} {r : Mem} (hf : f_X12_isLostNow μ p1 = some r) : Rt G yX12_isLostNow F_X12_isLostNow none [.ref (G.2.1 + 264), .int p1] μ none r := fun n => Sd.of hG ⟨by decide +kernel, rfl, rfl⟩ rfl (Nat.le_of_ble_eq_true rfl) rfl (fun C hK => s_X12_isLostNow_e hG hf hK)
theorem d_X12_lend_0 : decode cX12_lend 0 = .ok (.aload_n 0, 1) := by decide +kernel
theorem d_X12_lend_1 : decode cX12_lend 1 = .ok (.iconst 0, 1) := by decide +kernel
theorem d_X12_lend_2 : decode cX12_lend 2 = .ok (.putfield 3, 3) := by decide +kernel
theorem d_X12_lend_5 : decode cX12_lend 5 = .ok (.aload_n 0, 1) := by decide +kernel
theorem d_X12_lend_6 : decode cX12_lend 6 = .ok (.aload_n 0, 1) := by decide +kernel
theorem d_X12_lend_7 : decode cX12_lend 7 = .ok (.iload_n 1, 1) := by decide +kernel
theorem d_X12_lend_8 : decode cX12_lend 8 = .ok (.invokevirtual 305, 3) := by decide +kernel
theorem d_X12_lend_11 : decode cX12_lend 11 = .ok (.ifCond .ne 11, 3) := by decide +kernel
theorem d_X12_lend_14 : decode cX12_lend 14 = .ok (.aload_n 0, 1) := by decide +kernel
theorem d_X12_lend_15 : decode cX12_lend 15 = .ok (.iload_n 2, 1) := by decide +kernel
theorem d_X12_lend_16 : decode cX12_lend 16 = .ok (.invokevirtual 317, 3) := by decide +kernel
theorem d_X12_lend_19 : decode cX12_lend 19 = .ok (.ifCond .eq 7, 3) := by decide +kernel
theorem d_X12_lend_22 : decode cX12_lend 22 = .ok (.iconst 1, 1) := by decide +kernel
theorem d_X12_lend_23 : decode cX12_lend 23 = .ok (.goto 4, 3) := by decide +kernel
theorem d_X12_lend_26 : decode cX12_lend 26 = .ok (.iconst 0, 1) := by decide +kernel
theorem d_X12_lend_27 : decode cX12_lend 27 = .ok (.iconst 1, 1) := by decide +kernel
theorem d_X12_lend_28 : decode cX12_lend 28 = .ok (.invokevirtual 263, 3) := by decide +kernel
theorem d_X12_lend_31 : decode cX12_lend 31 = .ok (.ifCond .eq 5, 3) := by decide +kernel
theorem d_X12_lend_34 : decode cX12_lend 34 = .ok (.iconst 0, 1) := by decide +kernel
theorem d_X12_lend_35 : decode cX12_lend 35 = .ok (.ireturn, 1) := by decide +kernel
theorem d_X12_lend_36 : decode cX12_lend 36 = .ok (.aload_n 0, 1) := by decide +kernel
theorem d_X12_lend_37 : decode cX12_lend 37 = .ok (.iload_n 1, 1) := by decide +kernel
theorem d_X12_lend_38 : decode cX12_lend 38 = .ok (.iload_n 2, 1) := by decide +kernel
theorem d_X12_lend_39 : decode cX12_lend 39 = .ok (.invokestatic 144, 3) := by decide +kernel
theorem d_X12_lend_42 : decode cX12_lend 42 = .ok (.if_icmp .eq 37, 3) := by decide +kernel
theorem d_X12_lend_45 : decode cX12_lend 45 = .ok (.iload_n 3, 1) := by decide +kernel
theorem d_X12_lend_46 : decode cX12_lend 46 = .ok (.iconst 1, 1) := by decide +kernel
theorem d_X12_lend_47 : decode cX12_lend 47 = .ok (.sipush 999, 3) := by decide +kernel
theorem d_X12_lend_50 : decode cX12_lend 50 = .ok (.invokestatic 73, 3) := by decide +kernel
theorem d_X12_lend_53 : decode cX12_lend 53 = .ok (.ifCond .eq 26, 3) := by decide +kernel
theorem d_X12_lend_56 : decode cX12_lend 56 = .ok (.iload 4, 2) := by decide +kernel
theorem d_X12_lend_58 : decode cX12_lend 58 = .ok (.iconst 0, 1) := by decide +kernel
theorem d_X12_lend_59 : decode cX12_lend 59 = .ok (.bipush 9, 2) := by decide +kernel
theorem d_X12_lend_61 : decode cX12_lend 61 = .ok (.invokestatic 73, 3) := by decide +kernel
theorem d_X12_lend_64 : decode cX12_lend 64 = .ok (.ifCond .eq 15, 3) := by decide +kernel
theorem d_X12_lend_67 : decode cX12_lend 67 = .ok (.iload 5, 2) := by decide +kernel
theorem d_X12_lend_69 : decode cX12_lend 69 = .ok (.iconst 1, 1) := by decide +kernel
theorem d_X12_lend_70 : decode cX12_lend 70 = .ok (.sipush 9999, 3) := by decide +kernel
theorem d_X12_lend_73 : decode cX12_lend 73 = .ok (.invokestatic 73, 3) := by decide +kernel
theorem d_X12_lend_76 : decode cX12_lend 76 = .ok (.ifCond .ne 7, 3) := by decide +kernel
theorem d_X12_lend_79 : decode cX12_lend 79 = .ok (.iconst 1, 1) := by decide +kernel
theorem d_X12_lend_80 : decode cX12_lend 80 = .ok (.goto 4, 3) := by decide +kernel
theorem d_X12_lend_83 : decode cX12_lend 83 = .ok (.iconst 0, 1) := by decide +kernel
theorem d_X12_lend_84 : decode cX12_lend 84 = .ok (.iconst 2, 1) := by decide +kernel
theorem d_X12_lend_85 : decode cX12_lend 85 = .ok (.invokevirtual 263, 3) := by decide +kernel
theorem d_X12_lend_88 : decode cX12_lend 88 = .ok (.ifCond .eq 5, 3) := by decide +kernel
theorem d_X12_lend_91 : decode cX12_lend 91 = .ok (.iconst 0, 1) := by decide +kernel
theorem d_X12_lend_92 : decode cX12_lend 92 = .ok (.ireturn, 1) := by decide +kernel
theorem d_X12_lend_93 : decode cX12_lend 93 = .ok (.aload_n 0, 1) := by decide +kernel
theorem d_X12_lend_94 : decode cX12_lend 94 = .ok (.aload_n 0, 1) := by decide +kernel
theorem d_X12_lend_95 : decode cX12_lend 95 = .ok (.iload_n 2, 1) := by decide +kernel
theorem d_X12_lend_96 : decode cX12_lend 96 = .ok (.invokevirtual 138, 3) := by decide +kernel
theorem d_X12_lend_99 : decode cX12_lend 99 = .ok (.ifCond .eq 13, 3) := by decide +kernel
theorem d_X12_lend_102 : decode cX12_lend 102 = .ok (.aload_n 0, 1) := by decide +kernel
theorem d_X12_lend_103 : decode cX12_lend 103 = .ok (.iload_n 1, 1) := by decide +kernel
theorem d_X12_lend_104 : decode cX12_lend 104 = .ok (.iconst 0, 1) := by decide +kernel
theorem d_X12_lend_105 : decode cX12_lend 105 = .ok (.invokevirtual 84, 3) := by decide +kernel
theorem d_X12_lend_108 : decode cX12_lend 108 = .ok (.iload_n 3, 1) := by decide +kernel
theorem d_X12_lend_109 : decode cX12_lend 109 = .ok (.if_icmp .ge 7, 3) := by decide +kernel
theorem d_X12_lend_112 : decode cX12_lend 112 = .ok (.iconst 1, 1) := by decide +kernel
theorem d_X12_lend_113 : decode cX12_lend 113 = .ok (.goto 4, 3) := by decide +kernel
theorem d_X12_lend_116 : decode cX12_lend 116 = .ok (.iconst 0, 1) := by decide +kernel
theorem d_X12_lend_117 : decode cX12_lend 117 = .ok (.iconst 3, 1) := by decide +kernel
theorem d_X12_lend_118 : decode cX12_lend 118 = .ok (.invokevirtual 263, 3) := by decide +kernel
theorem d_X12_lend_121 : decode cX12_lend 121 = .ok (.ifCond .eq 5, 3) := by decide +kernel
theorem d_X12_lend_124 : decode cX12_lend 124 = .ok (.iconst 0, 1) := by decide +kernel
theorem d_X12_lend_125 : decode cX12_lend 125 = .ok (.ireturn, 1) := by decide +kernel
theorem d_X12_lend_126 : decode cX12_lend 126 = .ok (.aload_n 0, 1) := by decide +kernel
theorem d_X12_lend_127 : decode cX12_lend 127 = .ok (.invokevirtual 339, 3) := by decide +kernel
theorem d_X12_lend_130 : decode cX12_lend 130 = .ok (.aload_n 0, 1) := by decide +kernel
theorem d_X12_lend_131 : decode cX12_lend 131 = .ok (.getfield 13, 3) := by decide +kernel
theorem d_X12_lend_134 : decode cX12_lend 134 = .ok (.iload_n 1, 1) := by decide +kernel
theorem d_X12_lend_135 : decode cX12_lend 135 = .ok (.iconst 0, 1) := by decide +kernel
theorem d_X12_lend_136 : decode cX12_lend 136 = .ok (.invokestatic 63, 3) := by decide +kernel
theorem d_X12_lend_139 : decode cX12_lend 139 = .ok (.dup2, 1) := by decide +kernel
theorem d_X12_lend_140 : decode cX12_lend 140 = .ok (.iaload, 1) := by decide +kernel
theorem d_X12_lend_141 : decode cX12_lend 141 = .ok (.iload_n 3, 1) := by decide +kernel
theorem d_X12_lend_142 : decode cX12_lend 142 = .ok (.isub, 1) := by decide +kernel
theorem d_X12_lend_143 : decode cX12_lend 143 = .ok (.iastore, 1) := by decide +kernel
theorem d_X12_lend_144 : decode cX12_lend 144 = .ok (.aload_n 0, 1) := by decide +kernel
theorem d_X12_lend_145 : decode cX12_lend 145 = .ok (.iload_n 2, 1) := by decide +kernel
theorem d_X12_lend_146 : decode cX12_lend 146 = .ok (.invokestatic 144, 3) := by decide +kernel
theorem d_X12_lend_149 : decode cX12_lend 149 = .ok (.iload_n 3, 1) := by decide +kernel
theorem d_X12_lend_150 : decode cX12_lend 150 = .ok (.invokevirtual 332, 3) := by decide +kernel
theorem d_X12_lend_153 : decode cX12_lend 153 = .ok (.aload_n 0, 1) := by decide +kernel
theorem d_X12_lend_154 : decode cX12_lend 154 = .ok (.iload_n 2, 1) := by decide +kernel
theorem d_X12_lend_155 : decode cX12_lend 155 = .ok (.iconst 1, 1) := by decide +kernel
theorem d_X12_lend_156 : decode cX12_lend 156 = .ok (.iload_n 1, 1) := by decide +kernel
theorem d_X12_lend_157 : decode cX12_lend 157 = .ok (.iload_n 3, 1) := by decide +kernel
theorem d_X12_lend_158 : decode cX12_lend 158 = .ok (.iload 4, 2) := by decide +kernel
theorem d_X12_lend_160 : decode cX12_lend 160 = .ok (.iload 5, 2) := by decide +kernel
theorem d_X12_lend_162 : decode cX12_lend 162 = .ok (.invokevirtual 80, 3) := by decide +kernel
theorem d_X12_lend_165 : decode cX12_lend 165 = .ok (.aload_n 0, 1) := by decide +kernel
theorem d_X12_lend_166 : decode cX12_lend 166 = .ok (.iload_n 2, 1) := by decide +kernel
theorem d_X12_lend_167 : decode cX12_lend 167 = .ok (.iconst 0, 1) := by decide +kernel
theorem d_X12_lend_168 : decode cX12_lend 168 = .ok (.iload_n 3, 1) := by decide +kernel
theorem d_X12_lend_169 : decode cX12_lend 169 = .ok (.invokevirtual 335, 3) := by decide +kernel
theorem d_X12_lend_172 : decode cX12_lend 172 = .ok (.aload_n 0, 1) := by decide +kernel
theorem d_X12_lend_173 : decode cX12_lend 173 = .ok (.iload_n 1, 1) := by decide +kernel
theorem d_X12_lend_174 : decode cX12_lend 174 = .ok (.iconst 0, 1) := by decide +kernel
theorem d_X12_lend_175 : decode cX12_lend 175 = .ok (.invokevirtual 84, 3) := by decide +kernel
theorem d_X12_lend_178 : decode cX12_lend 178 = .ok (.ireturn, 1) := by decide +kernel
theorem s_X12_lend_j117 {G : Gl} (hG : G.1.stackTraces = false) {C : Cx} {n : Nat} {μ : Mem} {l1 : Int32} {l2 : Int32} {l3 : Int32} {l4 : Int32} {l5 : Int32} {k1 : Bool} {r : (Int32 × Mem)} (hf : f_X12_lend_j117 μ l1 l2 l3 l4 l5 k1 = some r) (hK : FinR G C F_X12_lend (some .int) (some (.int r.1)) r.2) : V G C F_X12_lend 117 [some (.ref (G.2.1 + 264)), some (.int l1), some (.int l2), some (.int l3), some (.int l4), some (.int l5)] [.int (b2i k1), .ref (G.2.1 + 264)] (pic G μ) n 0 0 := by
  unfold f_X12_lend_j117 at hf
  refine V_iconst (v := 3) d_X12_lend_117 ic_3 ?_
  obtain ⟨q1, hq1, hf⟩ := ob hf
  refine B_callV1 (s_X12_throwsIf hG hq1) k_264 clX12 m_X12_throwsIf kv_RX12_263 d_X12_lend_118 rfl (Nat.le_of_ble_eq_true rfl) ⟨rfl, rfl, Nat.le_of_ble_eq_true rfl, Nat.le_of_ble_eq_true rfl, Nat.le_of_ble_eq_true rfl⟩ (fun n => ?_)
  refine V_if_eq (tgt := 126) d_X12_lend_121 (by decide) (fun c121 => ?_) (fun c121 => ?_)
  · replace hf := iteF (b2i_nt (b2i_eq0 c121)) hf
    refine V_aload_n d_X12_lend_126 rfl rfl ?_
    obtain ⟨q2, hq2, hf⟩ := ob hf
    refine B_callV0 (s_X12_remembers hG hq2) k_264 clX12 m_X12_remembers kv_RX12_339 d_X12_lend_127 rfl (Nat.le_of_ble_eq_true rfl) ⟨rfl, rfl, Nat.le_of_ble_eq_true rfl, Nat.le_of_ble_eq_true rfl, Nat.le_of_ble_eq_true rfl⟩ (fun n => ?_)
    refine V_aload_n d_X12_lend_130 rfl rfl ?_
    refine B_get k_264 fl_RX12_13 d_X12_lend_131 g_12_1 ?_
    refine V_iload_n d_X12_lend_134 rfl rfl ?_
    refine V_iconst (v := 0) d_X12_lend_135 ic_0 ?_
    obtain ⟨t3, ht3, hf⟩ := ob hf
    refine B_callS1 (s_X12_at hG ht3) m_X12_at ks_RX12_63 d_X12_lend_136 rfl (Nat.le_of_ble_eq_true rfl) ⟨rfl, rfl, Nat.le_of_ble_eq_true rfl, Nat.le_of_ble_eq_true rfl, Nat.le_of_ble_eq_true rfl⟩ (fun n => ?_)
    refine V_dup2 d_X12_lend_139 rfl rfl ?_
    obtain ⟨t4, ht4, hf⟩ := ob hf
    refine B_iald k_265 ht4 d_X12_lend_140 ?_
    refine V_iload_n d_X12_lend_141 rfl rfl ?_
    refine V_isub d_X12_lend_142 ?_
    obtain ⟨μ5, hμ5, hf⟩ := ob hf
    refine B_iast k_265 hμ5 d_X12_lend_143 ?_
    refine V_aload_n d_X12_lend_144 rfl rfl ?_
    refine V_iload_n d_X12_lend_145 rfl rfl ?_
    obtain ⟨t6, ht6, hf⟩ := ob hf
    refine B_callS1 (s_X12_ownerOf hG ht6) m_X12_ownerOf ks_RX12_144 d_X12_lend_146 rfl (Nat.le_of_ble_eq_true rfl) ⟨rfl, rfl, Nat.le_of_ble_eq_true rfl, Nat.le_of_ble_eq_true rfl, Nat.le_of_ble_eq_true rfl⟩ (fun n => ?_)
    refine V_iload_n d_X12_lend_149 rfl rfl ?_
    obtain ⟨q7, hq7, hf⟩ := ob hf
    refine B_callV0 (s_X12_gets hG hq7) k_264 clX12 m_X12_gets kv_RX12_332 d_X12_lend_150 rfl (Nat.le_of_ble_eq_true rfl) ⟨rfl, rfl, Nat.le_of_ble_eq_true rfl, Nat.le_of_ble_eq_true rfl, Nat.le_of_ble_eq_true rfl⟩ (fun n => ?_)
    refine V_aload_n d_X12_lend_153 rfl rfl ?_
    refine V_iload_n d_X12_lend_154 rfl rfl ?_
    refine V_iconst (v := 1) d_X12_lend_155 ic_1 ?_
    refine V_iload_n d_X12_lend_156 rfl rfl ?_
    refine V_iload_n d_X12_lend_157 rfl rfl ?_
    refine V_iload d_X12_lend_158 rfl ?_
    refine V_iload d_X12_lend_160 rfl ?_
    obtain ⟨q8, hq8, hf⟩ := ob hf
    refine B_callV0 (s_X12_tellsLace hG hq8) k_264 clX12 m_X12_tellsLace kv_RX12_80 d_X12_lend_162 rfl (Nat.le_of_ble_eq_true rfl) ⟨rfl, rfl, Nat.le_of_ble_eq_true rfl, Nat.le_of_ble_eq_true rfl, Nat.le_of_ble_eq_true rfl⟩ (fun n => ?_)
    refine V_aload_n d_X12_lend_165 rfl rfl ?_
    refine V_iload_n d_X12_lend_166 rfl rfl ?_
    refine V_iconst (v := 0) d_X12_lend_167 ic_0 ?_
    refine V_iload_n d_X12_lend_168 rfl rfl ?_
    obtain ⟨q9, hq9, hf⟩ := ob hf
    refine B_callV0 (s_X12_tells hG hq9) k_264 clX12 m_X12_tells kv_RX12_335 d_X12_lend_169 rfl (Nat.le_of_ble_eq_true rfl) ⟨rfl, rfl, Nat.le_of_ble_eq_true rfl, Nat.le_of_ble_eq_true rfl, Nat.le_of_ble_eq_true rfl⟩ (fun n => ?_)
    refine V_aload_n d_X12_lend_172 rfl rfl ?_
    refine V_iload_n d_X12_lend_173 rfl rfl ?_
    refine V_iconst (v := 0) d_X12_lend_174 ic_0 ?_
    obtain ⟨t10, ht10, hf⟩ := ob hf
    refine B_callV1 (s_X12_of hG ht10) k_264 clX12 m_X12_of kv_RX12_84 d_X12_lend_175 rfl (Nat.le_of_ble_eq_true rfl) ⟨rfl, rfl, Nat.le_of_ble_eq_true rfl, Nat.le_of_ble_eq_true rfl, Nat.le_of_ble_eq_true rfl⟩ (fun n => ?_)
    cases hf
    exact R_i hK d_X12_lend_178 (Nat.le_of_ble_eq_true rfl) (Nat.le_of_ble_eq_true rfl)
  · replace hf := iteT (b2i_ne0 c121) hf
    refine V_iconst (v := 0) d_X12_lend_124 ic_0 ?_
    cases hf
    exact R_i hK d_X12_lend_125 (Nat.le_of_ble_eq_true rfl) (Nat.le_of_ble_eq_true rfl)
theorem s_X12_lend_j112 {G : Gl} (hG : G.1.stackTraces = false) {C : Cx} {n : Nat} {μ : Mem} {l1 : Int32} {l2 : Int32} {l3 : Int32} {l4 : Int32} {l5 : Int32} {r : (Int32 × Mem)} (hf : f_X12_lend_j112 μ l1 l2 l3 l4 l5 = some r) (hK : FinR G C F_X12_lend (some .int) (some (.int r.1)) r.2) : V G C F_X12_lend 112 [some (.ref (G.2.1 + 264)), some (.int l1), some (.int l2), some (.int l3), some (.int l4), some (.int l5)] [.ref (G.2.1 + 264)] (pic G μ) n 0 0 := by
  unfold f_X12_lend_j112 at hf
  refine V_iconst (v := 1) d_X12_lend_112 ic_1 ?_
  refine V_goto (tgt := 117) d_X12_lend_113 (by decide) ?_
  refine V_less (ls' := [some _, some _, some _, some _, some _, some _]) ⟨rfl, rfl, rfl, rfl, rfl, rfl, trivial⟩ ?_
  exact s_X12_lend_j117 hG hf hK
theorem s_X12_lend_j84 {G : Gl} (hG : G.1.stackTraces = false) {C : Cx} {n : Nat} {μ : Mem} {l1 : Int32} {l2 : Int32} {l3 : Int32} {l4 : Int32} {l5 : Int32} {k1 : Bool} {r : (Int32 × Mem)} (hf : f_X12_lend_j84 μ l1 l2 l3 l4 l5 k1 = some r) (hK : FinR G C F_X12_lend (some .int) (some (.int r.1)) r.2) : V G C F_X12_lend 84 [some (.ref (G.2.1 + 264)), some (.int l1), some (.int l2), some (.int l3), some (.int l4), some (.int l5)] [.int (b2i k1), .ref (G.2.1 + 264)] (pic G μ) n 0 0 := by
  unfold f_X12_lend_j84 at hf
  refine V_iconst (v := 2) d_X12_lend_84 ic_2 ?_
  obtain ⟨q1, hq1, hf⟩ := ob hf
  refine B_callV1 (s_X12_throwsIf hG hq1) k_264 clX12 m_X12_throwsIf kv_RX12_263 d_X12_lend_85 rfl (Nat.le_of_ble_eq_true rfl) ⟨rfl, rfl, Nat.le_of_ble_eq_true rfl, Nat.le_of_ble_eq_true rfl, Nat.le_of_ble_eq_true rfl⟩ (fun n => ?_)
  refine V_if_eq (tgt := 93) d_X12_lend_88 (by decide) (fun c88 => ?_) (fun c88 => ?_)
  · replace hf := iteF (b2i_nt (b2i_eq0 c88)) hf
    refine V_aload_n d_X12_lend_93 rfl rfl ?_
    refine V_aload_n d_X12_lend_94 rfl rfl ?_
    refine V_iload_n d_X12_lend_95 rfl rfl ?_
    obtain ⟨t2, ht2, hf⟩ := ob hf
    refine B_callV1 (s_X12_isIn hG ht2) k_264 clX12 m_X12_isIn kv_RX12_138 d_X12_lend_96 rfl (Nat.le_of_ble_eq_true rfl) ⟨rfl, rfl, Nat.le_of_ble_eq_true rfl, Nat.le_of_ble_eq_true rfl, Nat.le_of_ble_eq_true rfl⟩ (fun n => ?_)
    refine V_if_eq (tgt := 112) d_X12_lend_99 (by decide) (fun c99 => ?_) (fun c99 => ?_)
    · replace hf := iteF (b2i_nt (b2i_eq0 c99)) hf
      refine V_less (ls' := [some _, some _, some _, some _, some _, some _]) ⟨rfl, rfl, rfl, rfl, rfl, rfl, trivial⟩ ?_
      exact s_X12_lend_j112 hG hf hK
    · replace hf := iteT (b2i_ne0 c99) hf
      refine V_aload_n d_X12_lend_102 rfl rfl ?_
      refine V_iload_n d_X12_lend_103 rfl rfl ?_
      refine V_iconst (v := 0) d_X12_lend_104 ic_0 ?_
      obtain ⟨t3, ht3, hf⟩ := ob hf
      refine B_callV1 (s_X12_of hG ht3) k_264 clX12 m_X12_of kv_RX12_84 d_X12_lend_105 rfl (Nat.le_of_ble_eq_true rfl) ⟨rfl, rfl, Nat.le_of_ble_eq_true rfl, Nat.le_of_ble_eq_true rfl, Nat.le_of_ble_eq_true rfl⟩ (fun n => ?_)
      refine V_iload_n d_X12_lend_108 rfl rfl ?_
      have hJj4 : ∀ j4 : Bool, j4 = (if l3 ≤ t3 then (false : Bool) else true) → V G C F_X12_lend 117 [some (.ref (G.2.1 + 264)), some (.int l1), some (.int l2), some (.int l3), some (.int l4), some (.int l5)] [.int (b2i j4), .ref (G.2.1 + 264)] (pic G q1.2) n 0 0 := by
        intro j4 ej4
        subst ej4
        refine V_iconst (v := 3) d_X12_lend_117 ic_3 ?_
        obtain ⟨q5, hq5, hf⟩ := ob hf
        refine B_callV1 (s_X12_throwsIf hG hq5) k_264 clX12 m_X12_throwsIf kv_RX12_263 d_X12_lend_118 rfl (Nat.le_of_ble_eq_true rfl) ⟨rfl, rfl, Nat.le_of_ble_eq_true rfl, Nat.le_of_ble_eq_true rfl, Nat.le_of_ble_eq_true rfl⟩ (fun n => ?_)
        refine V_if_eq (tgt := 126) d_X12_lend_121 (by decide) (fun c121 => ?_) (fun c121 => ?_)
        · replace hf := iteF (b2i_nt (b2i_eq0 c121)) hf
          refine V_aload_n d_X12_lend_126 rfl rfl ?_
          obtain ⟨q6, hq6, hf⟩ := ob hf
          refine B_callV0 (s_X12_remembers hG hq6) k_264 clX12 m_X12_remembers kv_RX12_339 d_X12_lend_127 rfl (Nat.le_of_ble_eq_true rfl) ⟨rfl, rfl, Nat.le_of_ble_eq_true rfl, Nat.le_of_ble_eq_true rfl, Nat.le_of_ble_eq_true rfl⟩ (fun n => ?_)
          refine V_aload_n d_X12_lend_130 rfl rfl ?_
          refine B_get k_264 fl_RX12_13 d_X12_lend_131 g_12_1 ?_
          refine V_iload_n d_X12_lend_134 rfl rfl ?_
          refine V_iconst (v := 0) d_X12_lend_135 ic_0 ?_
          obtain ⟨t7, ht7, hf⟩ := ob hf
          refine B_callS1 (s_X12_at hG ht7) m_X12_at ks_RX12_63 d_X12_lend_136 rfl (Nat.le_of_ble_eq_true rfl) ⟨rfl, rfl, Nat.le_of_ble_eq_true rfl, Nat.le_of_ble_eq_true rfl, Nat.le_of_ble_eq_true rfl⟩ (fun n => ?_)
          refine V_dup2 d_X12_lend_139 rfl rfl ?_
          obtain ⟨t8, ht8, hf⟩ := ob hf
          refine B_iald k_265 ht8 d_X12_lend_140 ?_
          refine V_iload_n d_X12_lend_141 rfl rfl ?_
          refine V_isub d_X12_lend_142 ?_
          obtain ⟨μ9, hμ9, hf⟩ := ob hf
          refine B_iast k_265 hμ9 d_X12_lend_143 ?_
          refine V_aload_n d_X12_lend_144 rfl rfl ?_
          refine V_iload_n d_X12_lend_145 rfl rfl ?_
          obtain ⟨t10, ht10, hf⟩ := ob hf
          refine B_callS1 (s_X12_ownerOf hG ht10) m_X12_ownerOf ks_RX12_144 d_X12_lend_146 rfl (Nat.le_of_ble_eq_true rfl) ⟨rfl, rfl, Nat.le_of_ble_eq_true rfl, Nat.le_of_ble_eq_true rfl, Nat.le_of_ble_eq_true rfl⟩ (fun n => ?_)
          refine V_iload_n d_X12_lend_149 rfl rfl ?_
          obtain ⟨q11, hq11, hf⟩ := ob hf
          refine B_callV0 (s_X12_gets hG hq11) k_264 clX12 m_X12_gets kv_RX12_332 d_X12_lend_150 rfl (Nat.le_of_ble_eq_true rfl) ⟨rfl, rfl, Nat.le_of_ble_eq_true rfl, Nat.le_of_ble_eq_true rfl, Nat.le_of_ble_eq_true rfl⟩ (fun n => ?_)
          refine V_aload_n d_X12_lend_153 rfl rfl ?_
          refine V_iload_n d_X12_lend_154 rfl rfl ?_
          refine V_iconst (v := 1) d_X12_lend_155 ic_1 ?_
          refine V_iload_n d_X12_lend_156 rfl rfl ?_
          refine V_iload_n d_X12_lend_157 rfl rfl ?_
          refine V_iload d_X12_lend_158 rfl ?_
          refine V_iload d_X12_lend_160 rfl ?_
          obtain ⟨q12, hq12, hf⟩ := ob hf
          refine B_callV0 (s_X12_tellsLace hG hq12) k_264 clX12 m_X12_tellsLace kv_RX12_80 d_X12_lend_162 rfl (Nat.le_of_ble_eq_true rfl) ⟨rfl, rfl, Nat.le_of_ble_eq_true rfl, Nat.le_of_ble_eq_true rfl, Nat.le_of_ble_eq_true rfl⟩ (fun n => ?_)
          refine V_aload_n d_X12_lend_165 rfl rfl ?_
          refine V_iload_n d_X12_lend_166 rfl rfl ?_
          refine V_iconst (v := 0) d_X12_lend_167 ic_0 ?_
          refine V_iload_n d_X12_lend_168 rfl rfl ?_
          obtain ⟨q13, hq13, hf⟩ := ob hf
          refine B_callV0 (s_X12_tells hG hq13) k_264 clX12 m_X12_tells kv_RX12_335 d_X12_lend_169 rfl (Nat.le_of_ble_eq_true rfl) ⟨rfl, rfl, Nat.le_of_ble_eq_true rfl, Nat.le_of_ble_eq_true rfl, Nat.le_of_ble_eq_true rfl⟩ (fun n => ?_)
          refine V_aload_n d_X12_lend_172 rfl rfl ?_
          refine V_iload_n d_X12_lend_173 rfl rfl ?_
          refine V_iconst (v := 0) d_X12_lend_174 ic_0 ?_
          obtain ⟨t14, ht14, hf⟩ := ob hf
          refine B_callV1 (s_X12_of hG ht14) k_264 clX12 m_X12_of kv_RX12_84 d_X12_lend_175 rfl (Nat.le_of_ble_eq_true rfl) ⟨rfl, rfl, Nat.le_of_ble_eq_true rfl, Nat.le_of_ble_eq_true rfl, Nat.le_of_ble_eq_true rfl⟩ (fun n => ?_)
          cases hf
          exact R_i hK d_X12_lend_178 (Nat.le_of_ble_eq_true rfl) (Nat.le_of_ble_eq_true rfl)
        · replace hf := iteT (b2i_ne0 c121) hf
          refine V_iconst (v := 0) d_X12_lend_124 ic_0 ?_
          cases hf
          exact R_i hK d_X12_lend_125 (Nat.le_of_ble_eq_true rfl) (Nat.le_of_ble_eq_true rfl)
      refine V_icmp_ge (tgt := 116) d_X12_lend_109 (by decide) (fun c109 => ?_) (fun c109 => ?_)
      · refine V_iconst (v := 0) d_X12_lend_116 ic_0 ?_
        refine V_less (ls' := [some _, some _, some _, some _, some _, some _]) ⟨rfl, rfl, rfl, rfl, rfl, rfl, trivial⟩ ?_
        exact hJj4 false (by rw [if_pos c109])
      · refine V_iconst (v := 1) d_X12_lend_112 ic_1 ?_
        refine V_goto (tgt := 117) d_X12_lend_113 (by decide) ?_
        refine V_less (ls' := [some _, some _, some _, some _, some _, some _]) ⟨rfl, rfl, rfl, rfl, rfl, rfl, trivial⟩ ?_
        exact hJj4 true (by rw [if_neg c109])
  · replace hf := iteT (b2i_ne0 c88) hf
    refine V_iconst (v := 0) d_X12_lend_91 ic_0 ?_
    cases hf
    exact R_i hK d_X12_lend_92 (Nat.le_of_ble_eq_true rfl) (Nat.le_of_ble_eq_true rfl)
theorem s_X12_lend_j79 {G : Gl} (hG : G.1.stackTraces = false) {C : Cx} {n : Nat} {μ : Mem} {l1 : Int32} {l2 : Int32} {l3 : Int32} {l4 : Int32} {l5 : Int32} {r : (Int32 × Mem)} (hf : f_X12_lend_j79 μ l1 l2 l3 l4 l5 = some r) (hK : FinR G C F_X12_lend (some .int) (some (.int r.1)) r.2) : V G C F_X12_lend 79 [some (.ref (G.2.1 + 264)), some (.int l1), some (.int l2), some (.int l3), some (.int l4), some (.int l5)] [.ref (G.2.1 + 264)] (pic G μ) n 0 0 := by
  unfold f_X12_lend_j79 at hf
  refine V_iconst (v := 1) d_X12_lend_79 ic_1 ?_
  refine V_goto (tgt := 84) d_X12_lend_80 (by decide) ?_
  refine V_less (ls' := [some _, some _, some _, some _, some _, some _]) ⟨rfl, rfl, rfl, rfl, rfl, rfl, trivial⟩ ?_
  exact s_X12_lend_j84 hG hf hK
theorem s_X12_lend_j27 {G : Gl} (hG : G.1.stackTraces = false) {C : Cx} {n : Nat} {μ : Mem} {l1 : Int32} {l2 : Int32} {l3 : Int32} {l4 : Int32} {l5 : Int32} {k1 : Bool} {r : (Int32 × Mem)} (hf : f_X12_lend_j27 μ l1 l2 l3 l4 l5 k1 = some r) (hK : FinR G C F_X12_lend (some .int) (some (.int r.1)) r.2) : V G C F_X12_lend 27 [some (.ref (G.2.1 + 264)), some (.int l1), some (.int l2), some (.int l3), some (.int l4), some (.int l5)] [.int (b2i k1), .ref (G.2.1 + 264)] (pic G μ) n 0 0 := by
  unfold f_X12_lend_j27 at hf
  refine V_iconst (v := 1) d_X12_lend_27 ic_1 ?_
  obtain ⟨q1, hq1, hf⟩ := ob hf
  refine B_callV1 (s_X12_throwsIf hG hq1) k_264 clX12 m_X12_throwsIf kv_RX12_263 d_X12_lend_28 rfl (Nat.le_of_ble_eq_true rfl) ⟨rfl, rfl, Nat.le_of_ble_eq_true rfl, Nat.le_of_ble_eq_true rfl, Nat.le_of_ble_eq_true rfl⟩ (fun n => ?_)
  refine V_if_eq (tgt := 36) d_X12_lend_31 (by decide) (fun c31 => ?_) (fun c31 => ?_)
  · replace hf := iteF (b2i_nt (b2i_eq0 c31)) hf
    refine V_aload_n d_X12_lend_36 rfl rfl ?_
    refine V_iload_n d_X12_lend_37 rfl rfl ?_
    refine V_iload_n d_X12_lend_38 rfl rfl ?_
    obtain ⟨t2, ht2, hf⟩ := ob hf
    refine B_callS1 (s_X12_ownerOf hG ht2) m_X12_ownerOf ks_RX12_144 d_X12_lend_39 rfl (Nat.le_of_ble_eq_true rfl) ⟨rfl, rfl, Nat.le_of_ble_eq_true rfl, Nat.le_of_ble_eq_true rfl, Nat.le_of_ble_eq_true rfl⟩ (fun n => ?_)
    refine V_icmp_eq (tgt := 79) d_X12_lend_42 (by decide) (fun c42 => ?_) (fun c42 => ?_)
    · replace hf := iteT c42 hf
      refine V_less (ls' := [some _, some _, some _, some _, some _, some _]) ⟨rfl, rfl, rfl, rfl, rfl, rfl, trivial⟩ ?_
      exact s_X12_lend_j79 hG hf hK
    · replace hf := iteF c42 hf
      refine V_iload_n d_X12_lend_45 rfl rfl ?_
      refine V_iconst (v := 1) d_X12_lend_46 ic_1 ?_
      refine V_sipush (v := 999) d_X12_lend_47 sp_999 ?_
      obtain ⟨t3, ht3, hf⟩ := ob hf
      refine B_callS1 (s_X12_in hG ht3) m_X12_in ks_RX12_73 d_X12_lend_50 rfl (Nat.le_of_ble_eq_true rfl) ⟨rfl, rfl, Nat.le_of_ble_eq_true rfl, Nat.le_of_ble_eq_true rfl, Nat.le_of_ble_eq_true rfl⟩ (fun n => ?_)
      refine V_if_eq (tgt := 79) d_X12_lend_53 (by decide) (fun c53 => ?_) (fun c53 => ?_)
      · replace hf := iteF (b2i_nt (b2i_eq0 c53)) hf
        refine V_less (ls' := [some _, some _, some _, some _, some _, some _]) ⟨rfl, rfl, rfl, rfl, rfl, rfl, trivial⟩ ?_
        exact s_X12_lend_j79 hG hf hK
      · replace hf := iteT (b2i_ne0 c53) hf
        refine V_iload d_X12_lend_56 rfl ?_
        refine V_iconst (v := 0) d_X12_lend_58 ic_0 ?_
        refine V_bipush (v := 9) d_X12_lend_59 bp_9 ?_
        obtain ⟨t4, ht4, hf⟩ := ob hf
        refine B_callS1 (s_X12_in hG ht4) m_X12_in ks_RX12_73 d_X12_lend_61 rfl (Nat.le_of_ble_eq_true rfl) ⟨rfl, rfl, Nat.le_of_ble_eq_true rfl, Nat.le_of_ble_eq_true rfl, Nat.le_of_ble_eq_true rfl⟩ (fun n => ?_)
        refine V_if_eq (tgt := 79) d_X12_lend_64 (by decide) (fun c64 => ?_) (fun c64 => ?_)
        · replace hf := iteF (b2i_nt (b2i_eq0 c64)) hf
          refine V_less (ls' := [some _, some _, some _, some _, some _, some _]) ⟨rfl, rfl, rfl, rfl, rfl, rfl, trivial⟩ ?_
          exact s_X12_lend_j79 hG hf hK
        · replace hf := iteT (b2i_ne0 c64) hf
          refine V_iload d_X12_lend_67 rfl ?_
          refine V_iconst (v := 1) d_X12_lend_69 ic_1 ?_
          refine V_sipush (v := 9999) d_X12_lend_70 sp_9999 ?_
          obtain ⟨t5, ht5, hf⟩ := ob hf
          refine B_callS1 (s_X12_in hG ht5) m_X12_in ks_RX12_73 d_X12_lend_73 rfl (Nat.le_of_ble_eq_true rfl) ⟨rfl, rfl, Nat.le_of_ble_eq_true rfl, Nat.le_of_ble_eq_true rfl, Nat.le_of_ble_eq_true rfl⟩ (fun n => ?_)
          have hJj6 : ∀ j6 : Bool, j6 = (if t5 = true then (false : Bool) else true) → V G C F_X12_lend 84 [some (.ref (G.2.1 + 264)), some (.int l1), some (.int l2), some (.int l3), some (.int l4), some (.int l5)] [.int (b2i j6), .ref (G.2.1 + 264)] (pic G q1.2) n 0 0 := by
            intro j6 ej6
            subst ej6
            refine V_iconst (v := 2) d_X12_lend_84 ic_2 ?_
            obtain ⟨q7, hq7, hf⟩ := ob hf
            refine B_callV1 (s_X12_throwsIf hG hq7) k_264 clX12 m_X12_throwsIf kv_RX12_263 d_X12_lend_85 rfl (Nat.le_of_ble_eq_true rfl) ⟨rfl, rfl, Nat.le_of_ble_eq_true rfl, Nat.le_of_ble_eq_true rfl, Nat.le_of_ble_eq_true rfl⟩ (fun n => ?_)
            refine V_if_eq (tgt := 93) d_X12_lend_88 (by decide) (fun c88 => ?_) (fun c88 => ?_)
            · replace hf := iteF (b2i_nt (b2i_eq0 c88)) hf
              refine V_aload_n d_X12_lend_93 rfl rfl ?_
              refine V_aload_n d_X12_lend_94 rfl rfl ?_
              refine V_iload_n d_X12_lend_95 rfl rfl ?_
              obtain ⟨t8, ht8, hf⟩ := ob hf
              refine B_callV1 (s_X12_isIn hG ht8) k_264 clX12 m_X12_isIn kv_RX12_138 d_X12_lend_96 rfl (Nat.le_of_ble_eq_true rfl) ⟨rfl, rfl, Nat.le_of_ble_eq_true rfl, Nat.le_of_ble_eq_true rfl, Nat.le_of_ble_eq_true rfl⟩ (fun n => ?_)
              refine V_if_eq (tgt := 112) d_X12_lend_99 (by decide) (fun c99 => ?_) (fun c99 => ?_)
              · replace hf := iteF (b2i_nt (b2i_eq0 c99)) hf
                refine V_less (ls' := [some _, some _, some _, some _, some _, some _]) ⟨rfl, rfl, rfl, rfl, rfl, rfl, trivial⟩ ?_
                exact s_X12_lend_j112 hG hf hK
              · replace hf := iteT (b2i_ne0 c99) hf
                refine V_aload_n d_X12_lend_102 rfl rfl ?_
                refine V_iload_n d_X12_lend_103 rfl rfl ?_
                refine V_iconst (v := 0) d_X12_lend_104 ic_0 ?_
                obtain ⟨t9, ht9, hf⟩ := ob hf
                refine B_callV1 (s_X12_of hG ht9) k_264 clX12 m_X12_of kv_RX12_84 d_X12_lend_105 rfl (Nat.le_of_ble_eq_true rfl) ⟨rfl, rfl, Nat.le_of_ble_eq_true rfl, Nat.le_of_ble_eq_true rfl, Nat.le_of_ble_eq_true rfl⟩ (fun n => ?_)
                refine V_iload_n d_X12_lend_108 rfl rfl ?_
                have hJj10 : ∀ j10 : Bool, j10 = (if l3 ≤ t9 then (false : Bool) else true) → V G C F_X12_lend 117 [some (.ref (G.2.1 + 264)), some (.int l1), some (.int l2), some (.int l3), some (.int l4), some (.int l5)] [.int (b2i j10), .ref (G.2.1 + 264)] (pic G q7.2) n 0 0 := by
                  intro j10 ej10
                  subst ej10
                  refine V_iconst (v := 3) d_X12_lend_117 ic_3 ?_
                  obtain ⟨q11, hq11, hf⟩ := ob hf
                  refine B_callV1 (s_X12_throwsIf hG hq11) k_264 clX12 m_X12_throwsIf kv_RX12_263 d_X12_lend_118 rfl (Nat.le_of_ble_eq_true rfl) ⟨rfl, rfl, Nat.le_of_ble_eq_true rfl, Nat.le_of_ble_eq_true rfl, Nat.le_of_ble_eq_true rfl⟩ (fun n => ?_)
                  refine V_if_eq (tgt := 126) d_X12_lend_121 (by decide) (fun c121 => ?_) (fun c121 => ?_)
                  · replace hf := iteF (b2i_nt (b2i_eq0 c121)) hf
                    refine V_aload_n d_X12_lend_126 rfl rfl ?_
                    obtain ⟨q12, hq12, hf⟩ := ob hf
                    refine B_callV0 (s_X12_remembers hG hq12) k_264 clX12 m_X12_remembers kv_RX12_339 d_X12_lend_127 rfl (Nat.le_of_ble_eq_true rfl) ⟨rfl, rfl, Nat.le_of_ble_eq_true rfl, Nat.le_of_ble_eq_true rfl, Nat.le_of_ble_eq_true rfl⟩ (fun n => ?_)
                    refine V_aload_n d_X12_lend_130 rfl rfl ?_
                    refine B_get k_264 fl_RX12_13 d_X12_lend_131 g_12_1 ?_
                    refine V_iload_n d_X12_lend_134 rfl rfl ?_
                    refine V_iconst (v := 0) d_X12_lend_135 ic_0 ?_
                    obtain ⟨t13, ht13, hf⟩ := ob hf
                    refine B_callS1 (s_X12_at hG ht13) m_X12_at ks_RX12_63 d_X12_lend_136 rfl (Nat.le_of_ble_eq_true rfl) ⟨rfl, rfl, Nat.le_of_ble_eq_true rfl, Nat.le_of_ble_eq_true rfl, Nat.le_of_ble_eq_true rfl⟩ (fun n => ?_)
                    refine V_dup2 d_X12_lend_139 rfl rfl ?_
                    obtain ⟨t14, ht14, hf⟩ := ob hf
                    refine B_iald k_265 ht14 d_X12_lend_140 ?_
                    refine V_iload_n d_X12_lend_141 rfl rfl ?_
                    refine V_isub d_X12_lend_142 ?_
                    obtain ⟨μ15, hμ15, hf⟩ := ob hf
                    refine B_iast k_265 hμ15 d_X12_lend_143 ?_
                    refine V_aload_n d_X12_lend_144 rfl rfl ?_
                    refine V_iload_n d_X12_lend_145 rfl rfl ?_
                    obtain ⟨t16, ht16, hf⟩ := ob hf
                    refine B_callS1 (s_X12_ownerOf hG ht16) m_X12_ownerOf ks_RX12_144 d_X12_lend_146 rfl (Nat.le_of_ble_eq_true rfl) ⟨rfl, rfl, Nat.le_of_ble_eq_true rfl, Nat.le_of_ble_eq_true rfl, Nat.le_of_ble_eq_true rfl⟩ (fun n => ?_)
                    refine V_iload_n d_X12_lend_149 rfl rfl ?_
                    obtain ⟨q17, hq17, hf⟩ := ob hf
                    refine B_callV0 (s_X12_gets hG hq17) k_264 clX12 m_X12_gets kv_RX12_332 d_X12_lend_150 rfl (Nat.le_of_ble_eq_true rfl) ⟨rfl, rfl, Nat.le_of_ble_eq_true rfl, Nat.le_of_ble_eq_true rfl, Nat.le_of_ble_eq_true rfl⟩ (fun n => ?_)
                    refine V_aload_n d_X12_lend_153 rfl rfl ?_
                    refine V_iload_n d_X12_lend_154 rfl rfl ?_
                    refine V_iconst (v := 1) d_X12_lend_155 ic_1 ?_
                    refine V_iload_n d_X12_lend_156 rfl rfl ?_
                    refine V_iload_n d_X12_lend_157 rfl rfl ?_
                    refine V_iload d_X12_lend_158 rfl ?_
                    refine V_iload d_X12_lend_160 rfl ?_
                    obtain ⟨q18, hq18, hf⟩ := ob hf
                    refine B_callV0 (s_X12_tellsLace hG hq18) k_264 clX12 m_X12_tellsLace kv_RX12_80 d_X12_lend_162 rfl (Nat.le_of_ble_eq_true rfl) ⟨rfl, rfl, Nat.le_of_ble_eq_true rfl, Nat.le_of_ble_eq_true rfl, Nat.le_of_ble_eq_true rfl⟩ (fun n => ?_)
                    refine V_aload_n d_X12_lend_165 rfl rfl ?_
                    refine V_iload_n d_X12_lend_166 rfl rfl ?_
                    refine V_iconst (v := 0) d_X12_lend_167 ic_0 ?_
                    refine V_iload_n d_X12_lend_168 rfl rfl ?_
                    obtain ⟨q19, hq19, hf⟩ := ob hf
                    refine B_callV0 (s_X12_tells hG hq19) k_264 clX12 m_X12_tells kv_RX12_335 d_X12_lend_169 rfl (Nat.le_of_ble_eq_true rfl) ⟨rfl, rfl, Nat.le_of_ble_eq_true rfl, Nat.le_of_ble_eq_true rfl, Nat.le_of_ble_eq_true rfl⟩ (fun n => ?_)
                    refine V_aload_n d_X12_lend_172 rfl rfl ?_
                    refine V_iload_n d_X12_lend_173 rfl rfl ?_
                    refine V_iconst (v := 0) d_X12_lend_174 ic_0 ?_
                    obtain ⟨t20, ht20, hf⟩ := ob hf
                    refine B_callV1 (s_X12_of hG ht20) k_264 clX12 m_X12_of kv_RX12_84 d_X12_lend_175 rfl (Nat.le_of_ble_eq_true rfl) ⟨rfl, rfl, Nat.le_of_ble_eq_true rfl, Nat.le_of_ble_eq_true rfl, Nat.le_of_ble_eq_true rfl⟩ (fun n => ?_)
                    cases hf
                    exact R_i hK d_X12_lend_178 (Nat.le_of_ble_eq_true rfl) (Nat.le_of_ble_eq_true rfl)
                  · replace hf := iteT (b2i_ne0 c121) hf
                    refine V_iconst (v := 0) d_X12_lend_124 ic_0 ?_
                    cases hf
                    exact R_i hK d_X12_lend_125 (Nat.le_of_ble_eq_true rfl) (Nat.le_of_ble_eq_true rfl)
                refine V_icmp_ge (tgt := 116) d_X12_lend_109 (by decide) (fun c109 => ?_) (fun c109 => ?_)
                · refine V_iconst (v := 0) d_X12_lend_116 ic_0 ?_
                  refine V_less (ls' := [some _, some _, some _, some _, some _, some _]) ⟨rfl, rfl, rfl, rfl, rfl, rfl, trivial⟩ ?_
                  exact hJj10 false (by rw [if_pos c109])
                · refine V_iconst (v := 1) d_X12_lend_112 ic_1 ?_
                  refine V_goto (tgt := 117) d_X12_lend_113 (by decide) ?_
                  refine V_less (ls' := [some _, some _, some _, some _, some _, some _]) ⟨rfl, rfl, rfl, rfl, rfl, rfl, trivial⟩ ?_
                  exact hJj10 true (by rw [if_neg c109])
            · replace hf := iteT (b2i_ne0 c88) hf
              refine V_iconst (v := 0) d_X12_lend_91 ic_0 ?_
              cases hf
              exact R_i hK d_X12_lend_92 (Nat.le_of_ble_eq_true rfl) (Nat.le_of_ble_eq_true rfl)
          refine V_if_ne (tgt := 83) d_X12_lend_76 (by decide) (fun c76 => ?_) (fun c76 => ?_)
          · refine V_iconst (v := 0) d_X12_lend_83 ic_0 ?_
            refine V_less (ls' := [some _, some _, some _, some _, some _, some _]) ⟨rfl, rfl, rfl, rfl, rfl, rfl, trivial⟩ ?_
            exact hJj6 false (by rw [if_pos (b2i_ne0 c76)])
          · refine V_iconst (v := 1) d_X12_lend_79 ic_1 ?_
            refine V_goto (tgt := 84) d_X12_lend_80 (by decide) ?_
            refine V_less (ls' := [some _, some _, some _, some _, some _, some _]) ⟨rfl, rfl, rfl, rfl, rfl, rfl, trivial⟩ ?_
            exact hJj6 true (by rw [if_neg (b2i_nt (b2i_eq0 c76))])
  · replace hf := iteT (b2i_ne0 c31) hf
    refine V_iconst (v := 0) d_X12_lend_34 ic_0 ?_
    cases hf
    exact R_i hK d_X12_lend_35 (Nat.le_of_ble_eq_true rfl) (Nat.le_of_ble_eq_true rfl)
theorem s_X12_lend_j22 {G : Gl} (hG : G.1.stackTraces = false) {C : Cx} {n : Nat} {μ : Mem} {l1 : Int32} {l2 : Int32} {l3 : Int32} {l4 : Int32} {l5 : Int32} {r : (Int32 × Mem)} (hf : f_X12_lend_j22 μ l1 l2 l3 l4 l5 = some r) (hK : FinR G C F_X12_lend (some .int) (some (.int r.1)) r.2) : V G C F_X12_lend 22 [some (.ref (G.2.1 + 264)), some (.int l1), some (.int l2), some (.int l3), some (.int l4), some (.int l5)] [.ref (G.2.1 + 264)] (pic G μ) n 0 0 := by
  unfold f_X12_lend_j22 at hf
  refine V_iconst (v := 1) d_X12_lend_22 ic_1 ?_
  refine V_goto (tgt := 27) d_X12_lend_23 (by decide) ?_
  refine V_less (ls' := [some _, some _, some _, some _, some _, some _]) ⟨rfl, rfl, rfl, rfl, rfl, rfl, trivial⟩ ?_
  exact s_X12_lend_j27 hG hf hK
theorem s_X12_lend_e {G : Gl} (hG : G.1.stackTraces = false) {C : Cx} {n : Nat} {μ : Mem} {p1 : Int32} {p2 : Int32} {p3 : Int32} {p4 : Int32} {p5 : Int32} {r : (Int32 × Mem)} (hf : f_X12_lend μ p1 p2 p3 p4 p5 = some r) (hK : FinR G C F_X12_lend (some .int) (some (.int r.1)) r.2) : V G C F_X12_lend 0 [some (.ref (G.2.1 + 264)), some (.int p1), some (.int p2), some (.int p3), some (.int p4), some (.int p5)] [] (pic G μ) n 0 0 := by
  unfold f_X12_lend at hf
  refine V_aload_n d_X12_lend_0 rfl rfl ?_
  refine V_iconst (v := 0) d_X12_lend_1 ic_0 ?_
  refine B_putI k_264 fl_RX12_3 pt_12_0 (Nat.le_of_ble_eq_true rfl) p_12_0 d_X12_lend_2 ?_
  refine V_aload_n d_X12_lend_5 rfl rfl ?_
  refine V_aload_n d_X12_lend_6 rfl rfl ?_
  refine V_iload_n d_X12_lend_7 rfl rfl ?_
  obtain ⟨t1, ht1, hf⟩ := ob hf
  refine B_callV1 (s_X12_noPerson hG ht1) k_264 clX12 m_X12_noPerson kv_RX12_305 d_X12_lend_8 rfl (Nat.le_of_ble_eq_true rfl) ⟨rfl, rfl, Nat.le_of_ble_eq_true rfl, Nat.le_of_ble_eq_true rfl, Nat.le_of_ble_eq_true rfl⟩ (fun n => ?_)
  refine V_if_ne (tgt := 22) d_X12_lend_11 (by decide) (fun c11 => ?_) (fun c11 => ?_)
  · replace hf := iteT (b2i_ne0 c11) hf
    refine V_less (ls' := [some _, some _, some _, some _, some _, some _]) ⟨rfl, rfl, rfl, rfl, rfl, rfl, trivial⟩ ?_
    exact s_X12_lend_j22 hG hf hK
  · replace hf := iteF (b2i_nt (b2i_eq0 c11)) hf
    refine V_aload_n d_X12_lend_14 rfl rfl ?_
    refine V_iload_n d_X12_lend_15 rfl rfl ?_
    obtain ⟨t2, ht2, hf⟩ := ob hf
    refine B_callV1 (s_X12_noLace hG ht2) k_264 clX12 m_X12_noLace kv_RX12_317 d_X12_lend_16 rfl (Nat.le_of_ble_eq_true rfl) ⟨rfl, rfl, Nat.le_of_ble_eq_true rfl, Nat.le_of_ble_eq_true rfl, Nat.le_of_ble_eq_true rfl⟩ (fun n => ?_)
    have hJj3 : ∀ j3 : Bool, j3 = (if t2 = true then (true : Bool) else false) → V G C F_X12_lend 27 [some (.ref (G.2.1 + 264)), some (.int p1), some (.int p2), some (.int p3), some (.int p4), some (.int p5)] [.int (b2i j3), .ref (G.2.1 + 264)] (pic G (mset μ 264 0 0)) n 0 0 := by
      intro j3 ej3
      subst ej3
      refine V_iconst (v := 1) d_X12_lend_27 ic_1 ?_
      obtain ⟨q4, hq4, hf⟩ := ob hf
      refine B_callV1 (s_X12_throwsIf hG hq4) k_264 clX12 m_X12_throwsIf kv_RX12_263 d_X12_lend_28 rfl (Nat.le_of_ble_eq_true rfl) ⟨rfl, rfl, Nat.le_of_ble_eq_true rfl, Nat.le_of_ble_eq_true rfl, Nat.le_of_ble_eq_true rfl⟩ (fun n => ?_)
      refine V_if_eq (tgt := 36) d_X12_lend_31 (by decide) (fun c31 => ?_) (fun c31 => ?_)
      · replace hf := iteF (b2i_nt (b2i_eq0 c31)) hf
        refine V_aload_n d_X12_lend_36 rfl rfl ?_
        refine V_iload_n d_X12_lend_37 rfl rfl ?_
        refine V_iload_n d_X12_lend_38 rfl rfl ?_
        obtain ⟨t5, ht5, hf⟩ := ob hf
        refine B_callS1 (s_X12_ownerOf hG ht5) m_X12_ownerOf ks_RX12_144 d_X12_lend_39 rfl (Nat.le_of_ble_eq_true rfl) ⟨rfl, rfl, Nat.le_of_ble_eq_true rfl, Nat.le_of_ble_eq_true rfl, Nat.le_of_ble_eq_true rfl⟩ (fun n => ?_)
        refine V_icmp_eq (tgt := 79) d_X12_lend_42 (by decide) (fun c42 => ?_) (fun c42 => ?_)
        · replace hf := iteT c42 hf
          refine V_less (ls' := [some _, some _, some _, some _, some _, some _]) ⟨rfl, rfl, rfl, rfl, rfl, rfl, trivial⟩ ?_
          exact s_X12_lend_j79 hG hf hK
        · replace hf := iteF c42 hf
          refine V_iload_n d_X12_lend_45 rfl rfl ?_
          refine V_iconst (v := 1) d_X12_lend_46 ic_1 ?_
          refine V_sipush (v := 999) d_X12_lend_47 sp_999 ?_
          obtain ⟨t6, ht6, hf⟩ := ob hf
          refine B_callS1 (s_X12_in hG ht6) m_X12_in ks_RX12_73 d_X12_lend_50 rfl (Nat.le_of_ble_eq_true rfl) ⟨rfl, rfl, Nat.le_of_ble_eq_true rfl, Nat.le_of_ble_eq_true rfl, Nat.le_of_ble_eq_true rfl⟩ (fun n => ?_)
          refine V_if_eq (tgt := 79) d_X12_lend_53 (by decide) (fun c53 => ?_) (fun c53 => ?_)
          · replace hf := iteF (b2i_nt (b2i_eq0 c53)) hf
            refine V_less (ls' := [some _, some _, some _, some _, some _, some _]) ⟨rfl, rfl, rfl, rfl, rfl, rfl, trivial⟩ ?_
            exact s_X12_lend_j79 hG hf hK
          · replace hf := iteT (b2i_ne0 c53) hf
            refine V_iload d_X12_lend_56 rfl ?_
            refine V_iconst (v := 0) d_X12_lend_58 ic_0 ?_
            refine V_bipush (v := 9) d_X12_lend_59 bp_9 ?_
            obtain ⟨t7, ht7, hf⟩ := ob hf
            refine B_callS1 (s_X12_in hG ht7) m_X12_in ks_RX12_73 d_X12_lend_61 rfl (Nat.le_of_ble_eq_true rfl) ⟨rfl, rfl, Nat.le_of_ble_eq_true rfl, Nat.le_of_ble_eq_true rfl, Nat.le_of_ble_eq_true rfl⟩ (fun n => ?_)
            refine V_if_eq (tgt := 79) d_X12_lend_64 (by decide) (fun c64 => ?_) (fun c64 => ?_)
            · replace hf := iteF (b2i_nt (b2i_eq0 c64)) hf
              refine V_less (ls' := [some _, some _, some _, some _, some _, some _]) ⟨rfl, rfl, rfl, rfl, rfl, rfl, trivial⟩ ?_
              exact s_X12_lend_j79 hG hf hK
            · replace hf := iteT (b2i_ne0 c64) hf
              refine V_iload d_X12_lend_67 rfl ?_
              refine V_iconst (v := 1) d_X12_lend_69 ic_1 ?_
              refine V_sipush (v := 9999) d_X12_lend_70 sp_9999 ?_
              obtain ⟨t8, ht8, hf⟩ := ob hf
              refine B_callS1 (s_X12_in hG ht8) m_X12_in ks_RX12_73 d_X12_lend_73 rfl (Nat.le_of_ble_eq_true rfl) ⟨rfl, rfl, Nat.le_of_ble_eq_true rfl, Nat.le_of_ble_eq_true rfl, Nat.le_of_ble_eq_true rfl⟩ (fun n => ?_)
              have hJj9 : ∀ j9 : Bool, j9 = (if t8 = true then (false : Bool) else true) → V G C F_X12_lend 84 [some (.ref (G.2.1 + 264)), some (.int p1), some (.int p2), some (.int p3), some (.int p4), some (.int p5)] [.int (b2i j9), .ref (G.2.1 + 264)] (pic G q4.2) n 0 0 := by
                intro j9 ej9
                subst ej9
                refine V_iconst (v := 2) d_X12_lend_84 ic_2 ?_
                obtain ⟨q10, hq10, hf⟩ := ob hf
                refine B_callV1 (s_X12_throwsIf hG hq10) k_264 clX12 m_X12_throwsIf kv_RX12_263 d_X12_lend_85 rfl (Nat.le_of_ble_eq_true rfl) ⟨rfl, rfl, Nat.le_of_ble_eq_true rfl, Nat.le_of_ble_eq_true rfl, Nat.le_of_ble_eq_true rfl⟩ (fun n => ?_)
                refine V_if_eq (tgt := 93) d_X12_lend_88 (by decide) (fun c88 => ?_) (fun c88 => ?_)
                · replace hf := iteF (b2i_nt (b2i_eq0 c88)) hf
                  refine V_aload_n d_X12_lend_93 rfl rfl ?_
                  refine V_aload_n d_X12_lend_94 rfl rfl ?_
                  refine V_iload_n d_X12_lend_95 rfl rfl ?_
                  obtain ⟨t11, ht11, hf⟩ := ob hf
                  refine B_callV1 (s_X12_isIn hG ht11) k_264 clX12 m_X12_isIn kv_RX12_138 d_X12_lend_96 rfl (Nat.le_of_ble_eq_true rfl) ⟨rfl, rfl, Nat.le_of_ble_eq_true rfl, Nat.le_of_ble_eq_true rfl, Nat.le_of_ble_eq_true rfl⟩ (fun n => ?_)
                  refine V_if_eq (tgt := 112) d_X12_lend_99 (by decide) (fun c99 => ?_) (fun c99 => ?_)
                  · replace hf := iteF (b2i_nt (b2i_eq0 c99)) hf
                    refine V_less (ls' := [some _, some _, some _, some _, some _, some _]) ⟨rfl, rfl, rfl, rfl, rfl, rfl, trivial⟩ ?_
                    exact s_X12_lend_j112 hG hf hK
                  · replace hf := iteT (b2i_ne0 c99) hf
                    refine V_aload_n d_X12_lend_102 rfl rfl ?_
                    refine V_iload_n d_X12_lend_103 rfl rfl ?_
                    refine V_iconst (v := 0) d_X12_lend_104 ic_0 ?_
                    obtain ⟨t12, ht12, hf⟩ := ob hf
                    refine B_callV1 (s_X12_of hG ht12) k_264 clX12 m_X12_of kv_RX12_84 d_X12_lend_105 rfl (Nat.le_of_ble_eq_true rfl) ⟨rfl, rfl, Nat.le_of_ble_eq_true rfl, Nat.le_of_ble_eq_true rfl, Nat.le_of_ble_eq_true rfl⟩ (fun n => ?_)
                    refine V_iload_n d_X12_lend_108 rfl rfl ?_
                    have hJj13 : ∀ j13 : Bool, j13 = (if p3 ≤ t12 then (false : Bool) else true) → V G C F_X12_lend 117 [some (.ref (G.2.1 + 264)), some (.int p1), some (.int p2), some (.int p3), some (.int p4), some (.int p5)] [.int (b2i j13), .ref (G.2.1 + 264)] (pic G q10.2) n 0 0 := by
                      intro j13 ej13
                      subst ej13
                      refine V_iconst (v := 3) d_X12_lend_117 ic_3 ?_
                      obtain ⟨q14, hq14, hf⟩ := ob hf
                      refine B_callV1 (s_X12_throwsIf hG hq14) k_264 clX12 m_X12_throwsIf kv_RX12_263 d_X12_lend_118 rfl (Nat.le_of_ble_eq_true rfl) ⟨rfl, rfl, Nat.le_of_ble_eq_true rfl, Nat.le_of_ble_eq_true rfl, Nat.le_of_ble_eq_true rfl⟩ (fun n => ?_)
                      refine V_if_eq (tgt := 126) d_X12_lend_121 (by decide) (fun c121 => ?_) (fun c121 => ?_)
                      · replace hf := iteF (b2i_nt (b2i_eq0 c121)) hf
                        refine V_aload_n d_X12_lend_126 rfl rfl ?_
                        obtain ⟨q15, hq15, hf⟩ := ob hf
                        refine B_callV0 (s_X12_remembers hG hq15) k_264 clX12 m_X12_remembers kv_RX12_339 d_X12_lend_127 rfl (Nat.le_of_ble_eq_true rfl) ⟨rfl, rfl, Nat.le_of_ble_eq_true rfl, Nat.le_of_ble_eq_true rfl, Nat.le_of_ble_eq_true rfl⟩ (fun n => ?_)
                        refine V_aload_n d_X12_lend_130 rfl rfl ?_
                        refine B_get k_264 fl_RX12_13 d_X12_lend_131 g_12_1 ?_
                        refine V_iload_n d_X12_lend_134 rfl rfl ?_
                        refine V_iconst (v := 0) d_X12_lend_135 ic_0 ?_
                        obtain ⟨t16, ht16, hf⟩ := ob hf
                        refine B_callS1 (s_X12_at hG ht16) m_X12_at ks_RX12_63 d_X12_lend_136 rfl (Nat.le_of_ble_eq_true rfl) ⟨rfl, rfl, Nat.le_of_ble_eq_true rfl, Nat.le_of_ble_eq_true rfl, Nat.le_of_ble_eq_true rfl⟩ (fun n => ?_)
                        refine V_dup2 d_X12_lend_139 rfl rfl ?_
                        obtain ⟨t17, ht17, hf⟩ := ob hf
                        refine B_iald k_265 ht17 d_X12_lend_140 ?_
                        refine V_iload_n d_X12_lend_141 rfl rfl ?_
                        refine V_isub d_X12_lend_142 ?_
                        obtain ⟨μ18, hμ18, hf⟩ := ob hf
                        refine B_iast k_265 hμ18 d_X12_lend_143 ?_
                        refine V_aload_n d_X12_lend_144 rfl rfl ?_
                        refine V_iload_n d_X12_lend_145 rfl rfl ?_
                        obtain ⟨t19, ht19, hf⟩ := ob hf
                        refine B_callS1 (s_X12_ownerOf hG ht19) m_X12_ownerOf ks_RX12_144 d_X12_lend_146 rfl (Nat.le_of_ble_eq_true rfl) ⟨rfl, rfl, Nat.le_of_ble_eq_true rfl, Nat.le_of_ble_eq_true rfl, Nat.le_of_ble_eq_true rfl⟩ (fun n => ?_)
                        refine V_iload_n d_X12_lend_149 rfl rfl ?_
                        obtain ⟨q20, hq20, hf⟩ := ob hf
                        refine B_callV0 (s_X12_gets hG hq20) k_264 clX12 m_X12_gets kv_RX12_332 d_X12_lend_150 rfl (Nat.le_of_ble_eq_true rfl) ⟨rfl, rfl, Nat.le_of_ble_eq_true rfl, Nat.le_of_ble_eq_true rfl, Nat.le_of_ble_eq_true rfl⟩ (fun n => ?_)
                        refine V_aload_n d_X12_lend_153 rfl rfl ?_
                        refine V_iload_n d_X12_lend_154 rfl rfl ?_
                        refine V_iconst (v := 1) d_X12_lend_155 ic_1 ?_
                        refine V_iload_n d_X12_lend_156 rfl rfl ?_
                        refine V_iload_n d_X12_lend_157 rfl rfl ?_
                        refine V_iload d_X12_lend_158 rfl ?_
                        refine V_iload d_X12_lend_160 rfl ?_
                        obtain ⟨q21, hq21, hf⟩ := ob hf
                        refine B_callV0 (s_X12_tellsLace hG hq21) k_264 clX12 m_X12_tellsLace kv_RX12_80 d_X12_lend_162 rfl (Nat.le_of_ble_eq_true rfl) ⟨rfl, rfl, Nat.le_of_ble_eq_true rfl, Nat.le_of_ble_eq_true rfl, Nat.le_of_ble_eq_true rfl⟩ (fun n => ?_)
                        refine V_aload_n d_X12_lend_165 rfl rfl ?_
                        refine V_iload_n d_X12_lend_166 rfl rfl ?_
                        refine V_iconst (v := 0) d_X12_lend_167 ic_0 ?_
                        refine V_iload_n d_X12_lend_168 rfl rfl ?_
                        obtain ⟨q22, hq22, hf⟩ := ob hf
                        refine B_callV0 (s_X12_tells hG hq22) k_264 clX12 m_X12_tells kv_RX12_335 d_X12_lend_169 rfl (Nat.le_of_ble_eq_true rfl) ⟨rfl, rfl, Nat.le_of_ble_eq_true rfl, Nat.le_of_ble_eq_true rfl, Nat.le_of_ble_eq_true rfl⟩ (fun n => ?_)
                        refine V_aload_n d_X12_lend_172 rfl rfl ?_
                        refine V_iload_n d_X12_lend_173 rfl rfl ?_
                        refine V_iconst (v := 0) d_X12_lend_174 ic_0 ?_
                        obtain ⟨t23, ht23, hf⟩ := ob hf
                        refine B_callV1 (s_X12_of hG ht23) k_264 clX12 m_X12_of kv_RX12_84 d_X12_lend_175 rfl (Nat.le_of_ble_eq_true rfl) ⟨rfl, rfl, Nat.le_of_ble_eq_true rfl, Nat.le_of_ble_eq_true rfl, Nat.le_of_ble_eq_true rfl⟩ (fun n => ?_)
                        cases hf
                        exact R_i hK d_X12_lend_178 (Nat.le_of_ble_eq_true rfl) (Nat.le_of_ble_eq_true rfl)
                      · replace hf := iteT (b2i_ne0 c121) hf
                        refine V_iconst (v := 0) d_X12_lend_124 ic_0 ?_
                        cases hf
                        exact R_i hK d_X12_lend_125 (Nat.le_of_ble_eq_true rfl) (Nat.le_of_ble_eq_true rfl)
                    refine V_icmp_ge (tgt := 116) d_X12_lend_109 (by decide) (fun c109 => ?_) (fun c109 => ?_)
                    · refine V_iconst (v := 0) d_X12_lend_116 ic_0 ?_
                      refine V_less (ls' := [some _, some _, some _, some _, some _, some _]) ⟨rfl, rfl, rfl, rfl, rfl, rfl, trivial⟩ ?_
                      exact hJj13 false (by rw [if_pos c109])
                    · refine V_iconst (v := 1) d_X12_lend_112 ic_1 ?_
                      refine V_goto (tgt := 117) d_X12_lend_113 (by decide) ?_
                      refine V_less (ls' := [some _, some _, some _, some _, some _, some _]) ⟨rfl, rfl, rfl, rfl, rfl, rfl, trivial⟩ ?_
                      exact hJj13 true (by rw [if_neg c109])
                · replace hf := iteT (b2i_ne0 c88) hf
                  refine V_iconst (v := 0) d_X12_lend_91 ic_0 ?_
                  cases hf
                  exact R_i hK d_X12_lend_92 (Nat.le_of_ble_eq_true rfl) (Nat.le_of_ble_eq_true rfl)
              refine V_if_ne (tgt := 83) d_X12_lend_76 (by decide) (fun c76 => ?_) (fun c76 => ?_)
              · refine V_iconst (v := 0) d_X12_lend_83 ic_0 ?_
                refine V_less (ls' := [some _, some _, some _, some _, some _, some _]) ⟨rfl, rfl, rfl, rfl, rfl, rfl, trivial⟩ ?_
                exact hJj9 false (by rw [if_pos (b2i_ne0 c76)])
              · refine V_iconst (v := 1) d_X12_lend_79 ic_1 ?_
                refine V_goto (tgt := 84) d_X12_lend_80 (by decide) ?_
                refine V_less (ls' := [some _, some _, some _, some _, some _, some _]) ⟨rfl, rfl, rfl, rfl, rfl, rfl, trivial⟩ ?_
                exact hJj9 true (by rw [if_neg (b2i_nt (b2i_eq0 c76))])
      · replace hf := iteT (b2i_ne0 c31) hf
        refine V_iconst (v := 0) d_X12_lend_34 ic_0 ?_
        cases hf
        exact R_i hK d_X12_lend_35 (Nat.le_of_ble_eq_true rfl) (Nat.le_of_ble_eq_true rfl)
    refine V_if_eq (tgt := 26) d_X12_lend_19 (by decide) (fun c19 => ?_) (fun c19 => ?_)
    · refine V_iconst (v := 0) d_X12_lend_26 ic_0 ?_
      refine V_less (ls' := [some _, some _, some _, some _, some _, some _]) ⟨rfl, rfl, rfl, rfl, rfl, rfl, trivial⟩ ?_
      exact hJj3 false (by rw [if_neg (b2i_nt (b2i_eq0 c19))])
    · refine V_iconst (v := 1) d_X12_lend_22 ic_1 ?_
      refine V_goto (tgt := 27) d_X12_lend_23 (by decide) ?_
      refine V_less (ls' := [some _, some _, some _, some _, some _, some _]) ⟨rfl, rfl, rfl, rfl, rfl, rfl, trivial⟩ ?_
      exact hJj3 true (by rw [if_pos (b2i_ne0 c19)])
theorem s_X12_lend {G : Gl} (hG : G.1.stackTraces = false) {μ : Mem} {p1 : Int32} {p2 : Int32} {p3 : Int32} {p4 : Int32} {p5 : Int32} {r : (Int32 × Mem)} (hf : f_X12_lend μ p1 p2 p3 p4 p5 = some r) : Rt G yX12_lend F_X12_lend (some .int) [.ref (G.2.1 + 264), .int p1, .int p2, .int p3, .int p4, .int p5] μ (some (.int r.1)) r.2 := fun n => Sd.of hG ⟨by decide +kernel, rfl, rfl⟩ rfl (Nat.le_of_ble_eq_true rfl) rfl (fun C hK => s_X12_lend_e hG hf hK)
theorem d_X12_pay_0 : decode cX12_pay 0 = .ok (.aload_n 0, 1) := by decide +kernel
theorem d_X12_pay_1 : decode cX12_pay 1 = .ok (.iconst 0, 1) := by decide +kernel
theorem d_X12_pay_2 : decode cX12_pay 2 = .ok (.putfield 3, 3) := by decide +kernel
theorem d_X12_pay_5 : decode cX12_pay 5 = .ok (.aload_n 0, 1) := by decide +kernel
theorem d_X12_pay_6 : decode cX12_pay 6 = .ok (.aload_n 0, 1) := by decide +kernel
theorem d_X12_pay_7 : decode cX12_pay 7 = .ok (.iload_n 1, 1) := by decide +kernel
theorem d_X12_pay_8 : decode cX12_pay 8 = .ok (.invokevirtual 317, 3) := by decide +kernel
theorem d_X12_pay_11 : decode cX12_pay 11 = .ok (.iconst 1, 1) := by decide +kernel
theorem d_X12_pay_12 : decode cX12_pay 12 = .ok (.invokevirtual 263, 3) := by decide +kernel
theorem d_X12_pay_15 : decode cX12_pay 15 = .ok (.ifCond .ne 42, 3) := by decide +kernel
theorem d_X12_pay_18 : decode cX12_pay 18 = .ok (.aload_n 0, 1) := by decide +kernel
theorem d_X12_pay_19 : decode cX12_pay 19 = .ok (.aload_n 0, 1) := by decide +kernel
theorem d_X12_pay_20 : decode cX12_pay 20 = .ok (.iload_n 1, 1) := by decide +kernel
theorem d_X12_pay_21 : decode cX12_pay 21 = .ok (.invokevirtual 296, 3) := by decide +kernel
theorem d_X12_pay_24 : decode cX12_pay 24 = .ok (.ifCond .eq 21, 3) := by decide +kernel
theorem d_X12_pay_27 : decode cX12_pay 27 = .ok (.aload_n 0, 1) := by decide +kernel
theorem d_X12_pay_28 : decode cX12_pay 28 = .ok (.iload_n 1, 1) := by decide +kernel
theorem d_X12_pay_29 : decode cX12_pay 29 = .ok (.invokestatic 144, 3) := by decide +kernel
theorem d_X12_pay_32 : decode cX12_pay 32 = .ok (.iconst 0, 1) := by decide +kernel
theorem d_X12_pay_33 : decode cX12_pay 33 = .ok (.invokevirtual 84, 3) := by decide +kernel
theorem d_X12_pay_36 : decode cX12_pay 36 = .ok (.aload_n 0, 1) := by decide +kernel
theorem d_X12_pay_37 : decode cX12_pay 37 = .ok (.iload_n 1, 1) := by decide +kernel
theorem d_X12_pay_38 : decode cX12_pay 38 = .ok (.iconst 2, 1) := by decide +kernel
theorem d_X12_pay_39 : decode cX12_pay 39 = .ok (.invokevirtual 70, 3) := by decide +kernel
theorem d_X12_pay_42 : decode cX12_pay 42 = .ok (.if_icmp .ge 7, 3) := by decide +kernel
theorem d_X12_pay_45 : decode cX12_pay 45 = .ok (.iconst 1, 1) := by decide +kernel
theorem d_X12_pay_46 : decode cX12_pay 46 = .ok (.goto 4, 3) := by decide +kernel
theorem d_X12_pay_49 : decode cX12_pay 49 = .ok (.iconst 0, 1) := by decide +kernel
theorem d_X12_pay_50 : decode cX12_pay 50 = .ok (.iconst 2, 1) := by decide +kernel
theorem d_X12_pay_51 : decode cX12_pay 51 = .ok (.invokevirtual 263, 3) := by decide +kernel
theorem d_X12_pay_54 : decode cX12_pay 54 = .ok (.ifCond .eq 5, 3) := by decide +kernel
theorem d_X12_pay_57 : decode cX12_pay 57 = .ok (.iconst 0, 1) := by decide +kernel
theorem d_X12_pay_58 : decode cX12_pay 58 = .ok (.ireturn, 1) := by decide +kernel
theorem d_X12_pay_59 : decode cX12_pay 59 = .ok (.aload_n 0, 1) := by decide +kernel
theorem d_X12_pay_60 : decode cX12_pay 60 = .ok (.invokevirtual 339, 3) := by decide +kernel
theorem d_X12_pay_63 : decode cX12_pay 63 = .ok (.aload_n 0, 1) := by decide +kernel
theorem d_X12_pay_64 : decode cX12_pay 64 = .ok (.iload_n 1, 1) := by decide +kernel
theorem d_X12_pay_65 : decode cX12_pay 65 = .ok (.iconst 2, 1) := by decide +kernel
theorem d_X12_pay_66 : decode cX12_pay 66 = .ok (.invokevirtual 70, 3) := by decide +kernel
theorem d_X12_pay_69 : decode cX12_pay 69 = .ok (.istore_n 2, 1) := by decide +kernel
theorem d_X12_pay_70 : decode cX12_pay 70 = .ok (.aload_n 0, 1) := by decide +kernel
theorem d_X12_pay_71 : decode cX12_pay 71 = .ok (.iload_n 1, 1) := by decide +kernel
theorem d_X12_pay_72 : decode cX12_pay 72 = .ok (.iload_n 1, 1) := by decide +kernel
theorem d_X12_pay_73 : decode cX12_pay 73 = .ok (.invokestatic 144, 3) := by decide +kernel
theorem d_X12_pay_76 : decode cX12_pay 76 = .ok (.invokevirtual 342, 3) := by decide +kernel
theorem d_X12_pay_79 : decode cX12_pay 79 = .ok (.iload_n 2, 1) := by decide +kernel
theorem d_X12_pay_80 : decode cX12_pay 80 = .ok (.ireturn, 1) := by decide +kernel
theorem s_X12_pay_j57 {G : Gl} (hG : G.1.stackTraces = false) {C : Cx} {n : Nat} {μ : Mem}  {r : (Int32 × Mem)} (hf : f_X12_pay_j57 μ = some r) (hK : FinR G C F_X12_pay (some .int) (some (.int r.1)) r.2) : V G C F_X12_pay 57 [none, none, none] [] (pic G μ) n 0 0 := by
  unfold f_X12_pay_j57 at hf
  refine V_iconst (v := 0) d_X12_pay_57 ic_0 ?_
  cases hf
  exact R_i hK d_X12_pay_58 (Nat.le_of_ble_eq_true rfl) (Nat.le_of_ble_eq_true rfl)
theorem s_X12_pay_j50 {G : Gl} (hG : G.1.stackTraces = false) {C : Cx} {n : Nat} {μ : Mem} {l1 : Int32} {k1 : Bool} {r : (Int32 × Mem)} (hf : f_X12_pay_j50 μ l1 k1 = some r) (hK : FinR G C F_X12_pay (some .int) (some (.int r.1)) r.2) : V G C F_X12_pay 50 [some (.ref (G.2.1 + 264)), some (.int l1), none] [.int (b2i k1), .ref (G.2.1 + 264)] (pic G μ) n 0 0 := by
  unfold f_X12_pay_j50 at hf
  refine V_iconst (v := 2) d_X12_pay_50 ic_2 ?_
  obtain ⟨q1, hq1, hf⟩ := ob hf
  refine B_callV1 (s_X12_throwsIf hG hq1) k_264 clX12 m_X12_throwsIf kv_RX12_263 d_X12_pay_51 rfl (Nat.le_of_ble_eq_true rfl) ⟨rfl, rfl, Nat.le_of_ble_eq_true rfl, Nat.le_of_ble_eq_true rfl, Nat.le_of_ble_eq_true rfl⟩ (fun n => ?_)
  refine V_if_eq (tgt := 59) d_X12_pay_54 (by decide) (fun c54 => ?_) (fun c54 => ?_)
  · replace hf := iteF (b2i_nt (b2i_eq0 c54)) hf
    refine V_aload_n d_X12_pay_59 rfl rfl ?_
    obtain ⟨q2, hq2, hf⟩ := ob hf
    refine B_callV0 (s_X12_remembers hG hq2) k_264 clX12 m_X12_remembers kv_RX12_339 d_X12_pay_60 rfl (Nat.le_of_ble_eq_true rfl) ⟨rfl, rfl, Nat.le_of_ble_eq_true rfl, Nat.le_of_ble_eq_true rfl, Nat.le_of_ble_eq_true rfl⟩ (fun n => ?_)
    refine V_aload_n d_X12_pay_63 rfl rfl ?_
    refine V_iload_n d_X12_pay_64 rfl rfl ?_
    refine V_iconst (v := 2) d_X12_pay_65 ic_2 ?_
    obtain ⟨t3, ht3, hf⟩ := ob hf
    refine B_callV1 (s_X12_ofLace hG ht3) k_264 clX12 m_X12_ofLace kv_RX12_70 d_X12_pay_66 rfl (Nat.le_of_ble_eq_true rfl) ⟨rfl, rfl, Nat.le_of_ble_eq_true rfl, Nat.le_of_ble_eq_true rfl, Nat.le_of_ble_eq_true rfl⟩ (fun n => ?_)
    refine V_istore_n (ls' := [_, _, _]) d_X12_pay_69 rfl rfl rfl ?_
    refine V_aload_n d_X12_pay_70 rfl rfl ?_
    refine V_iload_n d_X12_pay_71 rfl rfl ?_
    refine V_iload_n d_X12_pay_72 rfl rfl ?_
    obtain ⟨t4, ht4, hf⟩ := ob hf
    refine B_callS1 (s_X12_ownerOf hG ht4) m_X12_ownerOf ks_RX12_144 d_X12_pay_73 rfl (Nat.le_of_ble_eq_true rfl) ⟨rfl, rfl, Nat.le_of_ble_eq_true rfl, Nat.le_of_ble_eq_true rfl, Nat.le_of_ble_eq_true rfl⟩ (fun n => ?_)
    obtain ⟨q5, hq5, hf⟩ := ob hf
    refine B_callV0 (s_X12_isPaid hG hq5) k_264 clX12 m_X12_isPaid kv_RX12_342 d_X12_pay_76 rfl (Nat.le_of_ble_eq_true rfl) ⟨rfl, rfl, Nat.le_of_ble_eq_true rfl, Nat.le_of_ble_eq_true rfl, Nat.le_of_ble_eq_true rfl⟩ (fun n => ?_)
    refine V_iload_n d_X12_pay_79 rfl rfl ?_
    cases hf
    exact R_i hK d_X12_pay_80 (Nat.le_of_ble_eq_true rfl) (Nat.le_of_ble_eq_true rfl)
  · replace hf := iteT (b2i_ne0 c54) hf
    refine V_less (ls' := [none, none, none]) trivial ?_
    exact s_X12_pay_j57 hG hf hK
theorem s_X12_pay_j45 {G : Gl} (hG : G.1.stackTraces = false) {C : Cx} {n : Nat} {μ : Mem} {l1 : Int32} {r : (Int32 × Mem)} (hf : f_X12_pay_j45 μ l1 = some r) (hK : FinR G C F_X12_pay (some .int) (some (.int r.1)) r.2) : V G C F_X12_pay 45 [some (.ref (G.2.1 + 264)), some (.int l1), none] [.ref (G.2.1 + 264)] (pic G μ) n 0 0 := by
  unfold f_X12_pay_j45 at hf
  refine V_iconst (v := 1) d_X12_pay_45 ic_1 ?_
  refine V_goto (tgt := 50) d_X12_pay_46 (by decide) ?_
  refine V_less (ls' := [some _, some _, none]) ⟨rfl, rfl, trivial⟩ ?_
  exact s_X12_pay_j50 hG hf hK
theorem s_X12_pay_e {G : Gl} (hG : G.1.stackTraces = false) {C : Cx} {n : Nat} {μ : Mem} {p1 : Int32} {r : (Int32 × Mem)} (hf : f_X12_pay μ p1 = some r) (hK : FinR G C F_X12_pay (some .int) (some (.int r.1)) r.2) : V G C F_X12_pay 0 [some (.ref (G.2.1 + 264)), some (.int p1), none] [] (pic G μ) n 0 0 := by
  unfold f_X12_pay at hf
  refine V_aload_n d_X12_pay_0 rfl rfl ?_
  refine V_iconst (v := 0) d_X12_pay_1 ic_0 ?_
  refine B_putI k_264 fl_RX12_3 pt_12_0 (Nat.le_of_ble_eq_true rfl) p_12_0 d_X12_pay_2 ?_
  refine V_aload_n d_X12_pay_5 rfl rfl ?_
  refine V_aload_n d_X12_pay_6 rfl rfl ?_
  refine V_iload_n d_X12_pay_7 rfl rfl ?_
  obtain ⟨t1, ht1, hf⟩ := ob hf
  refine B_callV1 (s_X12_noLace hG ht1) k_264 clX12 m_X12_noLace kv_RX12_317 d_X12_pay_8 rfl (Nat.le_of_ble_eq_true rfl) ⟨rfl, rfl, Nat.le_of_ble_eq_true rfl, Nat.le_of_ble_eq_true rfl, Nat.le_of_ble_eq_true rfl⟩ (fun n => ?_)
  refine V_iconst (v := 1) d_X12_pay_11 ic_1 ?_
  obtain ⟨q2, hq2, hf⟩ := ob hf
  refine B_callV1 (s_X12_throwsIf hG hq2) k_264 clX12 m_X12_throwsIf kv_RX12_263 d_X12_pay_12 rfl (Nat.le_of_ble_eq_true rfl) ⟨rfl, rfl, Nat.le_of_ble_eq_true rfl, Nat.le_of_ble_eq_true rfl, Nat.le_of_ble_eq_true rfl⟩ (fun n => ?_)
  refine V_if_ne (tgt := 57) d_X12_pay_15 (by decide) (fun c15 => ?_) (fun c15 => ?_)
  · replace hf := iteT (b2i_ne0 c15) hf
    refine V_less (ls' := [none, none, none]) trivial ?_
    exact s_X12_pay_j57 hG hf hK
  · replace hf := iteF (b2i_nt (b2i_eq0 c15)) hf
    refine V_aload_n d_X12_pay_18 rfl rfl ?_
    refine V_aload_n d_X12_pay_19 rfl rfl ?_
    refine V_iload_n d_X12_pay_20 rfl rfl ?_
    obtain ⟨t3, ht3, hf⟩ := ob hf
    refine B_callV1 (s_X12_isPledged hG ht3) k_264 clX12 m_X12_isPledged kv_RX12_296 d_X12_pay_21 rfl (Nat.le_of_ble_eq_true rfl) ⟨rfl, rfl, Nat.le_of_ble_eq_true rfl, Nat.le_of_ble_eq_true rfl, Nat.le_of_ble_eq_true rfl⟩ (fun n => ?_)
    refine V_if_eq (tgt := 45) d_X12_pay_24 (by decide) (fun c24 => ?_) (fun c24 => ?_)
    · replace hf := iteF (b2i_nt (b2i_eq0 c24)) hf
      refine V_less (ls' := [some _, some _, none]) ⟨rfl, rfl, trivial⟩ ?_
      exact s_X12_pay_j45 hG hf hK
    · replace hf := iteT (b2i_ne0 c24) hf
      refine V_aload_n d_X12_pay_27 rfl rfl ?_
      refine V_iload_n d_X12_pay_28 rfl rfl ?_
      obtain ⟨t4, ht4, hf⟩ := ob hf
      refine B_callS1 (s_X12_ownerOf hG ht4) m_X12_ownerOf ks_RX12_144 d_X12_pay_29 rfl (Nat.le_of_ble_eq_true rfl) ⟨rfl, rfl, Nat.le_of_ble_eq_true rfl, Nat.le_of_ble_eq_true rfl, Nat.le_of_ble_eq_true rfl⟩ (fun n => ?_)
      refine V_iconst (v := 0) d_X12_pay_32 ic_0 ?_
      obtain ⟨t5, ht5, hf⟩ := ob hf
      refine B_callV1 (s_X12_of hG ht5) k_264 clX12 m_X12_of kv_RX12_84 d_X12_pay_33 rfl (Nat.le_of_ble_eq_true rfl) ⟨rfl, rfl, Nat.le_of_ble_eq_true rfl, Nat.le_of_ble_eq_true rfl, Nat.le_of_ble_eq_true rfl⟩ (fun n => ?_)
      refine V_aload_n d_X12_pay_36 rfl rfl ?_
      refine V_iload_n d_X12_pay_37 rfl rfl ?_
      refine V_iconst (v := 2) d_X12_pay_38 ic_2 ?_
      obtain ⟨t6, ht6, hf⟩ := ob hf
      refine B_callV1 (s_X12_ofLace hG ht6) k_264 clX12 m_X12_ofLace kv_RX12_70 d_X12_pay_39 rfl (Nat.le_of_ble_eq_true rfl) ⟨rfl, rfl, Nat.le_of_ble_eq_true rfl, Nat.le_of_ble_eq_true rfl, Nat.le_of_ble_eq_true rfl⟩ (fun n => ?_)
      have hJj7 : ∀ j7 : Bool, j7 = (if t6 ≤ t5 then (false : Bool) else true) → V G C F_X12_pay 50 [some (.ref (G.2.1 + 264)), some (.int p1), none] [.int (b2i j7), .ref (G.2.1 + 264)] (pic G q2.2) n 0 0 := by
        intro j7 ej7
        subst ej7
        refine V_iconst (v := 2) d_X12_pay_50 ic_2 ?_
        obtain ⟨q8, hq8, hf⟩ := ob hf
        refine B_callV1 (s_X12_throwsIf hG hq8) k_264 clX12 m_X12_throwsIf kv_RX12_263 d_X12_pay_51 rfl (Nat.le_of_ble_eq_true rfl) ⟨rfl, rfl, Nat.le_of_ble_eq_true rfl, Nat.le_of_ble_eq_true rfl, Nat.le_of_ble_eq_true rfl⟩ (fun n => ?_)
        refine V_if_eq (tgt := 59) d_X12_pay_54 (by decide) (fun c54 => ?_) (fun c54 => ?_)
        · replace hf := iteF (b2i_nt (b2i_eq0 c54)) hf
          refine V_aload_n d_X12_pay_59 rfl rfl ?_
          obtain ⟨q9, hq9, hf⟩ := ob hf
          refine B_callV0 (s_X12_remembers hG hq9) k_264 clX12 m_X12_remembers kv_RX12_339 d_X12_pay_60 rfl (Nat.le_of_ble_eq_true rfl) ⟨rfl, rfl, Nat.le_of_ble_eq_true rfl, Nat.le_of_ble_eq_true rfl, Nat.le_of_ble_eq_true rfl⟩ (fun n => ?_)
          refine V_aload_n d_X12_pay_63 rfl rfl ?_
          refine V_iload_n d_X12_pay_64 rfl rfl ?_
          refine V_iconst (v := 2) d_X12_pay_65 ic_2 ?_
          obtain ⟨t10, ht10, hf⟩ := ob hf
          refine B_callV1 (s_X12_ofLace hG ht10) k_264 clX12 m_X12_ofLace kv_RX12_70 d_X12_pay_66 rfl (Nat.le_of_ble_eq_true rfl) ⟨rfl, rfl, Nat.le_of_ble_eq_true rfl, Nat.le_of_ble_eq_true rfl, Nat.le_of_ble_eq_true rfl⟩ (fun n => ?_)
          refine V_istore_n (ls' := [_, _, _]) d_X12_pay_69 rfl rfl rfl ?_
          refine V_aload_n d_X12_pay_70 rfl rfl ?_
          refine V_iload_n d_X12_pay_71 rfl rfl ?_
          refine V_iload_n d_X12_pay_72 rfl rfl ?_
          obtain ⟨t11, ht11, hf⟩ := ob hf
          refine B_callS1 (s_X12_ownerOf hG ht11) m_X12_ownerOf ks_RX12_144 d_X12_pay_73 rfl (Nat.le_of_ble_eq_true rfl) ⟨rfl, rfl, Nat.le_of_ble_eq_true rfl, Nat.le_of_ble_eq_true rfl, Nat.le_of_ble_eq_true rfl⟩ (fun n => ?_)
          obtain ⟨q12, hq12, hf⟩ := ob hf
          refine B_callV0 (s_X12_isPaid hG hq12) k_264 clX12 m_X12_isPaid kv_RX12_342 d_X12_pay_76 rfl (Nat.le_of_ble_eq_true rfl) ⟨rfl, rfl, Nat.le_of_ble_eq_true rfl, Nat.le_of_ble_eq_true rfl, Nat.le_of_ble_eq_true rfl⟩ (fun n => ?_)
          refine V_iload_n d_X12_pay_79 rfl rfl ?_
          cases hf
          exact R_i hK d_X12_pay_80 (Nat.le_of_ble_eq_true rfl) (Nat.le_of_ble_eq_true rfl)
        · replace hf := iteT (b2i_ne0 c54) hf
          refine V_less (ls' := [none, none, none]) trivial ?_
          exact s_X12_pay_j57 hG hf hK
      refine V_icmp_ge (tgt := 49) d_X12_pay_42 (by decide) (fun c42 => ?_) (fun c42 => ?_)
      · refine V_iconst (v := 0) d_X12_pay_49 ic_0 ?_
        refine V_less (ls' := [some _, some _, none]) ⟨rfl, rfl, trivial⟩ ?_
        exact hJj7 false (by rw [if_pos c42])
      · refine V_iconst (v := 1) d_X12_pay_45 ic_1 ?_
        refine V_goto (tgt := 50) d_X12_pay_46 (by decide) ?_
        refine V_less (ls' := [some _, some _, none]) ⟨rfl, rfl, trivial⟩ ?_
        exact hJj7 true (by rw [if_neg c42])
theorem s_X12_pay {G : Gl} (hG : G.1.stackTraces = false) {μ : Mem} {p1 : Int32} {r : (Int32 × Mem)} (hf : f_X12_pay μ p1 = some r) : Rt G yX12_pay F_X12_pay (some .int) [.ref (G.2.1 + 264), .int p1] μ (some (.int r.1)) r.2 := fun n => Sd.of hG ⟨by decide +kernel, rfl, rfl⟩ rfl (Nat.le_of_ble_eq_true rfl) rfl (fun C hK => s_X12_pay_e hG hf hK)
theorem d_X12_surety_0 : decode cX12_surety 0 = .ok (.aload_n 0, 1) := by decide +kernel
theorem d_X12_surety_1 : decode cX12_surety 1 = .ok (.iconst 0, 1) := by decide +kernel
theorem d_X12_surety_2 : decode cX12_surety 2 = .ok (.putfield 3, 3) := by decide +kernel
theorem d_X12_surety_5 : decode cX12_surety 5 = .ok (.aload_n 0, 1) := by decide +kernel
theorem d_X12_surety_6 : decode cX12_surety 6 = .ok (.aload_n 0, 1) := by decide +kernel
theorem d_X12_surety_7 : decode cX12_surety 7 = .ok (.iload_n 1, 1) := by decide +kernel
theorem d_X12_surety_8 : decode cX12_surety 8 = .ok (.invokevirtual 317, 3) := by decide +kernel
theorem d_X12_surety_11 : decode cX12_surety 11 = .ok (.ifCond .ne 16, 3) := by decide +kernel
theorem d_X12_surety_14 : decode cX12_surety 14 = .ok (.iload_n 2, 1) := by decide +kernel
theorem d_X12_surety_15 : decode cX12_surety 15 = .ok (.iconst (-1), 1) := by decide +kernel
theorem d_X12_surety_16 : decode cX12_surety 16 = .ok (.if_icmp .eq 15, 3) := by decide +kernel
theorem d_X12_surety_19 : decode cX12_surety 19 = .ok (.aload_n 0, 1) := by decide +kernel
theorem d_X12_surety_20 : decode cX12_surety 20 = .ok (.iload_n 2, 1) := by decide +kernel
theorem d_X12_surety_21 : decode cX12_surety 21 = .ok (.invokevirtual 305, 3) := by decide +kernel
theorem d_X12_surety_24 : decode cX12_surety 24 = .ok (.ifCond .eq 7, 3) := by decide +kernel
theorem d_X12_surety_27 : decode cX12_surety 27 = .ok (.iconst 1, 1) := by decide +kernel
theorem d_X12_surety_28 : decode cX12_surety 28 = .ok (.goto 4, 3) := by decide +kernel
theorem d_X12_surety_31 : decode cX12_surety 31 = .ok (.iconst 0, 1) := by decide +kernel
theorem d_X12_surety_32 : decode cX12_surety 32 = .ok (.iconst 1, 1) := by decide +kernel
theorem d_X12_surety_33 : decode cX12_surety 33 = .ok (.invokevirtual 263, 3) := by decide +kernel
theorem d_X12_surety_36 : decode cX12_surety 36 = .ok (.ifCond .eq 5, 3) := by decide +kernel
theorem d_X12_surety_39 : decode cX12_surety 39 = .ok (.iconst 0, 1) := by decide +kernel
theorem d_X12_surety_40 : decode cX12_surety 40 = .ok (.ireturn, 1) := by decide +kernel
theorem d_X12_surety_41 : decode cX12_surety 41 = .ok (.aload_n 0, 1) := by decide +kernel
theorem d_X12_surety_42 : decode cX12_surety 42 = .ok (.iload_n 2, 1) := by decide +kernel
theorem d_X12_surety_43 : decode cX12_surety 43 = .ok (.iconst (-1), 1) := by decide +kernel
theorem d_X12_surety_44 : decode cX12_surety 44 = .ok (.if_icmp .eq 25, 3) := by decide +kernel
theorem d_X12_surety_47 : decode cX12_surety 47 = .ok (.iload_n 2, 1) := by decide +kernel
theorem d_X12_surety_48 : decode cX12_surety 48 = .ok (.iload_n 1, 1) := by decide +kernel
theorem d_X12_surety_49 : decode cX12_surety 49 = .ok (.invokestatic 144, 3) := by decide +kernel
theorem d_X12_surety_52 : decode cX12_surety 52 = .ok (.if_icmp .eq 13, 3) := by decide +kernel
theorem d_X12_surety_55 : decode cX12_surety 55 = .ok (.iload_n 2, 1) := by decide +kernel
theorem d_X12_surety_56 : decode cX12_surety 56 = .ok (.aload_n 0, 1) := by decide +kernel
theorem d_X12_surety_57 : decode cX12_surety 57 = .ok (.iload_n 1, 1) := by decide +kernel
theorem d_X12_surety_58 : decode cX12_surety 58 = .ok (.iconst 1, 1) := by decide +kernel
theorem d_X12_surety_59 : decode cX12_surety 59 = .ok (.invokevirtual 70, 3) := by decide +kernel
theorem d_X12_surety_62 : decode cX12_surety 62 = .ok (.if_icmp .ne 7, 3) := by decide +kernel
theorem d_X12_surety_65 : decode cX12_surety 65 = .ok (.iconst 1, 1) := by decide +kernel
theorem d_X12_surety_66 : decode cX12_surety 66 = .ok (.goto 4, 3) := by decide +kernel
theorem d_X12_surety_69 : decode cX12_surety 69 = .ok (.iconst 0, 1) := by decide +kernel
theorem d_X12_surety_70 : decode cX12_surety 70 = .ok (.iconst 2, 1) := by decide +kernel
theorem d_X12_surety_71 : decode cX12_surety 71 = .ok (.invokevirtual 263, 3) := by decide +kernel
theorem d_X12_surety_74 : decode cX12_surety 74 = .ok (.ifCond .ne 24, 3) := by decide +kernel
theorem d_X12_surety_77 : decode cX12_surety 77 = .ok (.aload_n 0, 1) := by decide +kernel
theorem d_X12_surety_78 : decode cX12_surety 78 = .ok (.aload_n 0, 1) := by decide +kernel
theorem d_X12_surety_79 : decode cX12_surety 79 = .ok (.iload_n 1, 1) := by decide +kernel
theorem d_X12_surety_80 : decode cX12_surety 80 = .ok (.invokevirtual 296, 3) := by decide +kernel
theorem d_X12_surety_83 : decode cX12_surety 83 = .ok (.ifCond .ne 7, 3) := by decide +kernel
theorem d_X12_surety_86 : decode cX12_surety 86 = .ok (.iconst 1, 1) := by decide +kernel
theorem d_X12_surety_87 : decode cX12_surety 87 = .ok (.goto 4, 3) := by decide +kernel
theorem d_X12_surety_90 : decode cX12_surety 90 = .ok (.iconst 0, 1) := by decide +kernel
theorem d_X12_surety_91 : decode cX12_surety 91 = .ok (.iconst 3, 1) := by decide +kernel
theorem d_X12_surety_92 : decode cX12_surety 92 = .ok (.invokevirtual 263, 3) := by decide +kernel
theorem d_X12_surety_95 : decode cX12_surety 95 = .ok (.ifCond .eq 5, 3) := by decide +kernel
theorem d_X12_surety_98 : decode cX12_surety 98 = .ok (.iconst 0, 1) := by decide +kernel
theorem d_X12_surety_99 : decode cX12_surety 99 = .ok (.ireturn, 1) := by decide +kernel
theorem d_X12_surety_100 : decode cX12_surety 100 = .ok (.aload_n 0, 1) := by decide +kernel
theorem d_X12_surety_101 : decode cX12_surety 101 = .ok (.invokevirtual 339, 3) := by decide +kernel
theorem d_X12_surety_104 : decode cX12_surety 104 = .ok (.aload_n 0, 1) := by decide +kernel
theorem d_X12_surety_105 : decode cX12_surety 105 = .ok (.iload_n 1, 1) := by decide +kernel
theorem d_X12_surety_106 : decode cX12_surety 106 = .ok (.iconst 5, 1) := by decide +kernel
theorem d_X12_surety_107 : decode cX12_surety 107 = .ok (.invokevirtual 70, 3) := by decide +kernel
theorem d_X12_surety_110 : decode cX12_surety 110 = .ok (.istore_n 3, 1) := by decide +kernel
theorem d_X12_surety_111 : decode cX12_surety 111 = .ok (.aload_n 0, 1) := by decide +kernel
theorem d_X12_surety_112 : decode cX12_surety 112 = .ok (.getfield 13, 3) := by decide +kernel
theorem d_X12_surety_115 : decode cX12_surety 115 = .ok (.iload_n 1, 1) := by decide +kernel
theorem d_X12_surety_116 : decode cX12_surety 116 = .ok (.iconst 5, 1) := by decide +kernel
theorem d_X12_surety_117 : decode cX12_surety 117 = .ok (.invokestatic 67, 3) := by decide +kernel
theorem d_X12_surety_120 : decode cX12_surety 120 = .ok (.iload_n 2, 1) := by decide +kernel
theorem d_X12_surety_121 : decode cX12_surety 121 = .ok (.iastore, 1) := by decide +kernel
theorem d_X12_surety_122 : decode cX12_surety 122 = .ok (.iload_n 3, 1) := by decide +kernel
theorem d_X12_surety_123 : decode cX12_surety 123 = .ok (.ireturn, 1) := by decide +kernel
theorem s_X12_surety_j98 {G : Gl} (hG : G.1.stackTraces = false) {C : Cx} {n : Nat} {μ : Mem}  {r : (Int32 × Mem)} (hf : f_X12_surety_j98 μ = some r) (hK : FinR G C F_X12_surety (some .int) (some (.int r.1)) r.2) : V G C F_X12_surety 98 [none, none, none, none] [] (pic G μ) n 0 0 := by
  unfold f_X12_surety_j98 at hf
  refine V_iconst (v := 0) d_X12_surety_98 ic_0 ?_
  cases hf
  exact R_i hK d_X12_surety_99 (Nat.le_of_ble_eq_true rfl) (Nat.le_of_ble_eq_true rfl)
theorem s_X12_surety_j70 {G : Gl} (hG : G.1.stackTraces = false) {C : Cx} {n : Nat} {μ : Mem} {l1 : Int32} {l2 : Int32} {k1 : Bool} {r : (Int32 × Mem)} (hf : f_X12_surety_j70 μ l1 l2 k1 = some r) (hK : FinR G C F_X12_surety (some .int) (some (.int r.1)) r.2) : V G C F_X12_surety 70 [some (.ref (G.2.1 + 264)), some (.int l1), some (.int l2), none] [.int (b2i k1), .ref (G.2.1 + 264)] (pic G μ) n 0 0 := by
  unfold f_X12_surety_j70 at hf
  refine V_iconst (v := 2) d_X12_surety_70 ic_2 ?_
  obtain ⟨q1, hq1, hf⟩ := ob hf
  refine B_callV1 (s_X12_throwsIf hG hq1) k_264 clX12 m_X12_throwsIf kv_RX12_263 d_X12_surety_71 rfl (Nat.le_of_ble_eq_true rfl) ⟨rfl, rfl, Nat.le_of_ble_eq_true rfl, Nat.le_of_ble_eq_true rfl, Nat.le_of_ble_eq_true rfl⟩ (fun n => ?_)
  refine V_if_ne (tgt := 98) d_X12_surety_74 (by decide) (fun c74 => ?_) (fun c74 => ?_)
  · replace hf := iteT (b2i_ne0 c74) hf
    refine V_less (ls' := [none, none, none, none]) trivial ?_
    exact s_X12_surety_j98 hG hf hK
  · replace hf := iteF (b2i_nt (b2i_eq0 c74)) hf
    refine V_aload_n d_X12_surety_77 rfl rfl ?_
    refine V_aload_n d_X12_surety_78 rfl rfl ?_
    refine V_iload_n d_X12_surety_79 rfl rfl ?_
    obtain ⟨t2, ht2, hf⟩ := ob hf
    refine B_callV1 (s_X12_isPledged hG ht2) k_264 clX12 m_X12_isPledged kv_RX12_296 d_X12_surety_80 rfl (Nat.le_of_ble_eq_true rfl) ⟨rfl, rfl, Nat.le_of_ble_eq_true rfl, Nat.le_of_ble_eq_true rfl, Nat.le_of_ble_eq_true rfl⟩ (fun n => ?_)
    have hJj3 : ∀ j3 : Bool, j3 = (if t2 = true then (false : Bool) else true) → V G C F_X12_surety 91 [some (.ref (G.2.1 + 264)), some (.int l1), some (.int l2), none] [.int (b2i j3), .ref (G.2.1 + 264)] (pic G q1.2) n 0 0 := by
      intro j3 ej3
      subst ej3
      refine V_iconst (v := 3) d_X12_surety_91 ic_3 ?_
      obtain ⟨q4, hq4, hf⟩ := ob hf
      refine B_callV1 (s_X12_throwsIf hG hq4) k_264 clX12 m_X12_throwsIf kv_RX12_263 d_X12_surety_92 rfl (Nat.le_of_ble_eq_true rfl) ⟨rfl, rfl, Nat.le_of_ble_eq_true rfl, Nat.le_of_ble_eq_true rfl, Nat.le_of_ble_eq_true rfl⟩ (fun n => ?_)
      refine V_if_eq (tgt := 100) d_X12_surety_95 (by decide) (fun c95 => ?_) (fun c95 => ?_)
      · replace hf := iteF (b2i_nt (b2i_eq0 c95)) hf
        refine V_aload_n d_X12_surety_100 rfl rfl ?_
        obtain ⟨q5, hq5, hf⟩ := ob hf
        refine B_callV0 (s_X12_remembers hG hq5) k_264 clX12 m_X12_remembers kv_RX12_339 d_X12_surety_101 rfl (Nat.le_of_ble_eq_true rfl) ⟨rfl, rfl, Nat.le_of_ble_eq_true rfl, Nat.le_of_ble_eq_true rfl, Nat.le_of_ble_eq_true rfl⟩ (fun n => ?_)
        refine V_aload_n d_X12_surety_104 rfl rfl ?_
        refine V_iload_n d_X12_surety_105 rfl rfl ?_
        refine V_iconst (v := 5) d_X12_surety_106 ic_5 ?_
        obtain ⟨t6, ht6, hf⟩ := ob hf
        refine B_callV1 (s_X12_ofLace hG ht6) k_264 clX12 m_X12_ofLace kv_RX12_70 d_X12_surety_107 rfl (Nat.le_of_ble_eq_true rfl) ⟨rfl, rfl, Nat.le_of_ble_eq_true rfl, Nat.le_of_ble_eq_true rfl, Nat.le_of_ble_eq_true rfl⟩ (fun n => ?_)
        refine V_istore_n (ls' := [_, _, _, _]) d_X12_surety_110 rfl rfl rfl ?_
        refine V_aload_n d_X12_surety_111 rfl rfl ?_
        refine B_get k_264 fl_RX12_13 d_X12_surety_112 g_12_1 ?_
        refine V_iload_n d_X12_surety_115 rfl rfl ?_
        refine V_iconst (v := 5) d_X12_surety_116 ic_5 ?_
        obtain ⟨t7, ht7, hf⟩ := ob hf
        refine B_callS1 (s_X12_laceAt hG ht7) m_X12_laceAt ks_RX12_67 d_X12_surety_117 rfl (Nat.le_of_ble_eq_true rfl) ⟨rfl, rfl, Nat.le_of_ble_eq_true rfl, Nat.le_of_ble_eq_true rfl, Nat.le_of_ble_eq_true rfl⟩ (fun n => ?_)
        refine V_iload_n d_X12_surety_120 rfl rfl ?_
        obtain ⟨μ8, hμ8, hf⟩ := ob hf
        refine B_iast k_265 hμ8 d_X12_surety_121 ?_
        refine V_iload_n d_X12_surety_122 rfl rfl ?_
        cases hf
        exact R_i hK d_X12_surety_123 (Nat.le_of_ble_eq_true rfl) (Nat.le_of_ble_eq_true rfl)
      · replace hf := iteT (b2i_ne0 c95) hf
        refine V_less (ls' := [none, none, none, none]) trivial ?_
        exact s_X12_surety_j98 hG hf hK
    refine V_if_ne (tgt := 90) d_X12_surety_83 (by decide) (fun c83 => ?_) (fun c83 => ?_)
    · refine V_iconst (v := 0) d_X12_surety_90 ic_0 ?_
      refine V_less (ls' := [some _, some _, some _, none]) ⟨rfl, rfl, rfl, trivial⟩ ?_
      exact hJj3 false (by rw [if_pos (b2i_ne0 c83)])
    · refine V_iconst (v := 1) d_X12_surety_86 ic_1 ?_
      refine V_goto (tgt := 91) d_X12_surety_87 (by decide) ?_
      refine V_less (ls' := [some _, some _, some _, none]) ⟨rfl, rfl, rfl, trivial⟩ ?_
      exact hJj3 true (by rw [if_neg (b2i_nt (b2i_eq0 c83))])
theorem s_X12_surety_j69 {G : Gl} (hG : G.1.stackTraces = false) {C : Cx} {n : Nat} {μ : Mem} {l1 : Int32} {l2 : Int32} {r : (Int32 × Mem)} (hf : f_X12_surety_j69 μ l1 l2 = some r) (hK : FinR G C F_X12_surety (some .int) (some (.int r.1)) r.2) : V G C F_X12_surety 69 [some (.ref (G.2.1 + 264)), some (.int l1), some (.int l2), none] [.ref (G.2.1 + 264)] (pic G μ) n 0 0 := by
  unfold f_X12_surety_j69 at hf
  refine V_iconst (v := 0) d_X12_surety_69 ic_0 ?_
  refine V_less (ls' := [some _, some _, some _, none]) ⟨rfl, rfl, rfl, trivial⟩ ?_
  exact s_X12_surety_j70 hG hf hK
theorem s_X12_surety_j65 {G : Gl} (hG : G.1.stackTraces = false) {C : Cx} {n : Nat} {μ : Mem} {l1 : Int32} {l2 : Int32} {r : (Int32 × Mem)} (hf : f_X12_surety_j65 μ l1 l2 = some r) (hK : FinR G C F_X12_surety (some .int) (some (.int r.1)) r.2) : V G C F_X12_surety 65 [some (.ref (G.2.1 + 264)), some (.int l1), some (.int l2), none] [.ref (G.2.1 + 264)] (pic G μ) n 0 0 := by
  unfold f_X12_surety_j65 at hf
  refine V_iconst (v := 1) d_X12_surety_65 ic_1 ?_
  refine V_goto (tgt := 70) d_X12_surety_66 (by decide) ?_
  refine V_less (ls' := [some _, some _, some _, none]) ⟨rfl, rfl, rfl, trivial⟩ ?_
  exact s_X12_surety_j70 hG hf hK
theorem s_X12_surety_j32 {G : Gl} (hG : G.1.stackTraces = false) {C : Cx} {n : Nat} {μ : Mem} {l1 : Int32} {l2 : Int32} {k1 : Bool} {r : (Int32 × Mem)} (hf : f_X12_surety_j32 μ l1 l2 k1 = some r) (hK : FinR G C F_X12_surety (some .int) (some (.int r.1)) r.2) : V G C F_X12_surety 32 [some (.ref (G.2.1 + 264)), some (.int l1), some (.int l2), none] [.int (b2i k1), .ref (G.2.1 + 264)] (pic G μ) n 0 0 := by
  unfold f_X12_surety_j32 at hf
  refine V_iconst (v := 1) d_X12_surety_32 ic_1 ?_
  obtain ⟨q1, hq1, hf⟩ := ob hf
  refine B_callV1 (s_X12_throwsIf hG hq1) k_264 clX12 m_X12_throwsIf kv_RX12_263 d_X12_surety_33 rfl (Nat.le_of_ble_eq_true rfl) ⟨rfl, rfl, Nat.le_of_ble_eq_true rfl, Nat.le_of_ble_eq_true rfl, Nat.le_of_ble_eq_true rfl⟩ (fun n => ?_)
  refine V_if_eq (tgt := 41) d_X12_surety_36 (by decide) (fun c36 => ?_) (fun c36 => ?_)
  · replace hf := iteF (b2i_nt (b2i_eq0 c36)) hf
    refine V_aload_n d_X12_surety_41 rfl rfl ?_
    refine V_iload_n d_X12_surety_42 rfl rfl ?_
    refine V_iconst (v := (-1)) d_X12_surety_43 ic_m1 ?_
    refine V_icmp_eq (tgt := 69) d_X12_surety_44 (by decide) (fun c44 => ?_) (fun c44 => ?_)
    · replace hf := iteT c44 hf
      refine V_less (ls' := [some _, some _, some _, none]) ⟨rfl, rfl, rfl, trivial⟩ ?_
      exact s_X12_surety_j69 hG hf hK
    · replace hf := iteF c44 hf
      refine V_iload_n d_X12_surety_47 rfl rfl ?_
      refine V_iload_n d_X12_surety_48 rfl rfl ?_
      obtain ⟨t2, ht2, hf⟩ := ob hf
      refine B_callS1 (s_X12_ownerOf hG ht2) m_X12_ownerOf ks_RX12_144 d_X12_surety_49 rfl (Nat.le_of_ble_eq_true rfl) ⟨rfl, rfl, Nat.le_of_ble_eq_true rfl, Nat.le_of_ble_eq_true rfl, Nat.le_of_ble_eq_true rfl⟩ (fun n => ?_)
      refine V_icmp_eq (tgt := 65) d_X12_surety_52 (by decide) (fun c52 => ?_) (fun c52 => ?_)
      · replace hf := iteT c52 hf
        refine V_less (ls' := [some _, some _, some _, none]) ⟨rfl, rfl, rfl, trivial⟩ ?_
        exact s_X12_surety_j65 hG hf hK
      · replace hf := iteF c52 hf
        refine V_iload_n d_X12_surety_55 rfl rfl ?_
        refine V_aload_n d_X12_surety_56 rfl rfl ?_
        refine V_iload_n d_X12_surety_57 rfl rfl ?_
        refine V_iconst (v := 1) d_X12_surety_58 ic_1 ?_
        obtain ⟨t3, ht3, hf⟩ := ob hf
        refine B_callV1 (s_X12_ofLace hG ht3) k_264 clX12 m_X12_ofLace kv_RX12_70 d_X12_surety_59 rfl (Nat.le_of_ble_eq_true rfl) ⟨rfl, rfl, Nat.le_of_ble_eq_true rfl, Nat.le_of_ble_eq_true rfl, Nat.le_of_ble_eq_true rfl⟩ (fun n => ?_)
        have hJj4 : ∀ j4 : Bool, j4 = (if l2 = t3 then (true : Bool) else false) → V G C F_X12_surety 70 [some (.ref (G.2.1 + 264)), some (.int l1), some (.int l2), none] [.int (b2i j4), .ref (G.2.1 + 264)] (pic G q1.2) n 0 0 := by
          intro j4 ej4
          subst ej4
          refine V_iconst (v := 2) d_X12_surety_70 ic_2 ?_
          obtain ⟨q5, hq5, hf⟩ := ob hf
          refine B_callV1 (s_X12_throwsIf hG hq5) k_264 clX12 m_X12_throwsIf kv_RX12_263 d_X12_surety_71 rfl (Nat.le_of_ble_eq_true rfl) ⟨rfl, rfl, Nat.le_of_ble_eq_true rfl, Nat.le_of_ble_eq_true rfl, Nat.le_of_ble_eq_true rfl⟩ (fun n => ?_)
          refine V_if_ne (tgt := 98) d_X12_surety_74 (by decide) (fun c74 => ?_) (fun c74 => ?_)
          · replace hf := iteT (b2i_ne0 c74) hf
            refine V_less (ls' := [none, none, none, none]) trivial ?_
            exact s_X12_surety_j98 hG hf hK
          · replace hf := iteF (b2i_nt (b2i_eq0 c74)) hf
            refine V_aload_n d_X12_surety_77 rfl rfl ?_
            refine V_aload_n d_X12_surety_78 rfl rfl ?_
            refine V_iload_n d_X12_surety_79 rfl rfl ?_
            obtain ⟨t6, ht6, hf⟩ := ob hf
            refine B_callV1 (s_X12_isPledged hG ht6) k_264 clX12 m_X12_isPledged kv_RX12_296 d_X12_surety_80 rfl (Nat.le_of_ble_eq_true rfl) ⟨rfl, rfl, Nat.le_of_ble_eq_true rfl, Nat.le_of_ble_eq_true rfl, Nat.le_of_ble_eq_true rfl⟩ (fun n => ?_)
            have hJj7 : ∀ j7 : Bool, j7 = (if t6 = true then (false : Bool) else true) → V G C F_X12_surety 91 [some (.ref (G.2.1 + 264)), some (.int l1), some (.int l2), none] [.int (b2i j7), .ref (G.2.1 + 264)] (pic G q5.2) n 0 0 := by
              intro j7 ej7
              subst ej7
              refine V_iconst (v := 3) d_X12_surety_91 ic_3 ?_
              obtain ⟨q8, hq8, hf⟩ := ob hf
              refine B_callV1 (s_X12_throwsIf hG hq8) k_264 clX12 m_X12_throwsIf kv_RX12_263 d_X12_surety_92 rfl (Nat.le_of_ble_eq_true rfl) ⟨rfl, rfl, Nat.le_of_ble_eq_true rfl, Nat.le_of_ble_eq_true rfl, Nat.le_of_ble_eq_true rfl⟩ (fun n => ?_)
              refine V_if_eq (tgt := 100) d_X12_surety_95 (by decide) (fun c95 => ?_) (fun c95 => ?_)
              · replace hf := iteF (b2i_nt (b2i_eq0 c95)) hf
                refine V_aload_n d_X12_surety_100 rfl rfl ?_
                obtain ⟨q9, hq9, hf⟩ := ob hf
                refine B_callV0 (s_X12_remembers hG hq9) k_264 clX12 m_X12_remembers kv_RX12_339 d_X12_surety_101 rfl (Nat.le_of_ble_eq_true rfl) ⟨rfl, rfl, Nat.le_of_ble_eq_true rfl, Nat.le_of_ble_eq_true rfl, Nat.le_of_ble_eq_true rfl⟩ (fun n => ?_)
                refine V_aload_n d_X12_surety_104 rfl rfl ?_
                refine V_iload_n d_X12_surety_105 rfl rfl ?_
                refine V_iconst (v := 5) d_X12_surety_106 ic_5 ?_
                obtain ⟨t10, ht10, hf⟩ := ob hf
                refine B_callV1 (s_X12_ofLace hG ht10) k_264 clX12 m_X12_ofLace kv_RX12_70 d_X12_surety_107 rfl (Nat.le_of_ble_eq_true rfl) ⟨rfl, rfl, Nat.le_of_ble_eq_true rfl, Nat.le_of_ble_eq_true rfl, Nat.le_of_ble_eq_true rfl⟩ (fun n => ?_)
                refine V_istore_n (ls' := [_, _, _, _]) d_X12_surety_110 rfl rfl rfl ?_
                refine V_aload_n d_X12_surety_111 rfl rfl ?_
                refine B_get k_264 fl_RX12_13 d_X12_surety_112 g_12_1 ?_
                refine V_iload_n d_X12_surety_115 rfl rfl ?_
                refine V_iconst (v := 5) d_X12_surety_116 ic_5 ?_
                obtain ⟨t11, ht11, hf⟩ := ob hf
                refine B_callS1 (s_X12_laceAt hG ht11) m_X12_laceAt ks_RX12_67 d_X12_surety_117 rfl (Nat.le_of_ble_eq_true rfl) ⟨rfl, rfl, Nat.le_of_ble_eq_true rfl, Nat.le_of_ble_eq_true rfl, Nat.le_of_ble_eq_true rfl⟩ (fun n => ?_)
                refine V_iload_n d_X12_surety_120 rfl rfl ?_
                obtain ⟨μ12, hμ12, hf⟩ := ob hf
                refine B_iast k_265 hμ12 d_X12_surety_121 ?_
                refine V_iload_n d_X12_surety_122 rfl rfl ?_
                cases hf
                exact R_i hK d_X12_surety_123 (Nat.le_of_ble_eq_true rfl) (Nat.le_of_ble_eq_true rfl)
              · replace hf := iteT (b2i_ne0 c95) hf
                refine V_less (ls' := [none, none, none, none]) trivial ?_
                exact s_X12_surety_j98 hG hf hK
            refine V_if_ne (tgt := 90) d_X12_surety_83 (by decide) (fun c83 => ?_) (fun c83 => ?_)
            · refine V_iconst (v := 0) d_X12_surety_90 ic_0 ?_
              refine V_less (ls' := [some _, some _, some _, none]) ⟨rfl, rfl, rfl, trivial⟩ ?_
              exact hJj7 false (by rw [if_pos (b2i_ne0 c83)])
            · refine V_iconst (v := 1) d_X12_surety_86 ic_1 ?_
              refine V_goto (tgt := 91) d_X12_surety_87 (by decide) ?_
              refine V_less (ls' := [some _, some _, some _, none]) ⟨rfl, rfl, rfl, trivial⟩ ?_
              exact hJj7 true (by rw [if_neg (b2i_nt (b2i_eq0 c83))])
        refine V_icmp_ne (tgt := 69) d_X12_surety_62 (by decide) (fun c62 => ?_) (fun c62 => ?_)
        · refine V_iconst (v := 0) d_X12_surety_69 ic_0 ?_
          refine V_less (ls' := [some _, some _, some _, none]) ⟨rfl, rfl, rfl, trivial⟩ ?_
          exact hJj4 false (by rw [if_neg c62])
        · refine V_iconst (v := 1) d_X12_surety_65 ic_1 ?_
          refine V_goto (tgt := 70) d_X12_surety_66 (by decide) ?_
          refine V_less (ls' := [some _, some _, some _, none]) ⟨rfl, rfl, rfl, trivial⟩ ?_
          exact hJj4 true (by rw [if_pos c62])
  · replace hf := iteT (b2i_ne0 c36) hf
    refine V_iconst (v := 0) d_X12_surety_39 ic_0 ?_
    cases hf
    exact R_i hK d_X12_surety_40 (Nat.le_of_ble_eq_true rfl) (Nat.le_of_ble_eq_true rfl)
theorem s_X12_surety_j27 {G : Gl} (hG : G.1.stackTraces = false) {C : Cx} {n : Nat} {μ : Mem} {l1 : Int32} {l2 : Int32} {r : (Int32 × Mem)} (hf : f_X12_surety_j27 μ l1 l2 = some r) (hK : FinR G C F_X12_surety (some .int) (some (.int r.1)) r.2) : V G C F_X12_surety 27 [some (.ref (G.2.1 + 264)), some (.int l1), some (.int l2), none] [.ref (G.2.1 + 264)] (pic G μ) n 0 0 := by
  unfold f_X12_surety_j27 at hf
  refine V_iconst (v := 1) d_X12_surety_27 ic_1 ?_
  refine V_goto (tgt := 32) d_X12_surety_28 (by decide) ?_
  refine V_less (ls' := [some _, some _, some _, none]) ⟨rfl, rfl, rfl, trivial⟩ ?_
  exact s_X12_surety_j32 hG hf hK
theorem s_X12_surety_j31 {G : Gl} (hG : G.1.stackTraces = false) {C : Cx} {n : Nat} {μ : Mem} {l1 : Int32} {l2 : Int32} {r : (Int32 × Mem)} (hf : f_X12_surety_j31 μ l1 l2 = some r) (hK : FinR G C F_X12_surety (some .int) (some (.int r.1)) r.2) : V G C F_X12_surety 31 [some (.ref (G.2.1 + 264)), some (.int l1), some (.int l2), none] [.ref (G.2.1 + 264)] (pic G μ) n 0 0 := by
  unfold f_X12_surety_j31 at hf
  refine V_iconst (v := 0) d_X12_surety_31 ic_0 ?_
  refine V_less (ls' := [some _, some _, some _, none]) ⟨rfl, rfl, rfl, trivial⟩ ?_
  exact s_X12_surety_j32 hG hf hK
theorem s_X12_surety_e {G : Gl} (hG : G.1.stackTraces = false) {C : Cx} {n : Nat} {μ : Mem} {p1 : Int32} {p2 : Int32} {r : (Int32 × Mem)} (hf : f_X12_surety μ p1 p2 = some r) (hK : FinR G C F_X12_surety (some .int) (some (.int r.1)) r.2) : V G C F_X12_surety 0 [some (.ref (G.2.1 + 264)), some (.int p1), some (.int p2), none] [] (pic G μ) n 0 0 := by
  unfold f_X12_surety at hf
  refine V_aload_n d_X12_surety_0 rfl rfl ?_
  refine V_iconst (v := 0) d_X12_surety_1 ic_0 ?_
  refine B_putI k_264 fl_RX12_3 pt_12_0 (Nat.le_of_ble_eq_true rfl) p_12_0 d_X12_surety_2 ?_
  refine V_aload_n d_X12_surety_5 rfl rfl ?_
  refine V_aload_n d_X12_surety_6 rfl rfl ?_
  refine V_iload_n d_X12_surety_7 rfl rfl ?_
  obtain ⟨t1, ht1, hf⟩ := ob hf
  refine B_callV1 (s_X12_noLace hG ht1) k_264 clX12 m_X12_noLace kv_RX12_317 d_X12_surety_8 rfl (Nat.le_of_ble_eq_true rfl) ⟨rfl, rfl, Nat.le_of_ble_eq_true rfl, Nat.le_of_ble_eq_true rfl, Nat.le_of_ble_eq_true rfl⟩ (fun n => ?_)
  refine V_if_ne (tgt := 27) d_X12_surety_11 (by decide) (fun c11 => ?_) (fun c11 => ?_)
  · replace hf := iteT (b2i_ne0 c11) hf
    refine V_less (ls' := [some _, some _, some _, none]) ⟨rfl, rfl, rfl, trivial⟩ ?_
    exact s_X12_surety_j27 hG hf hK
  · replace hf := iteF (b2i_nt (b2i_eq0 c11)) hf
    refine V_iload_n d_X12_surety_14 rfl rfl ?_
    refine V_iconst (v := (-1)) d_X12_surety_15 ic_m1 ?_
    refine V_icmp_eq (tgt := 31) d_X12_surety_16 (by decide) (fun c16 => ?_) (fun c16 => ?_)
    · replace hf := iteT c16 hf
      refine V_less (ls' := [some _, some _, some _, none]) ⟨rfl, rfl, rfl, trivial⟩ ?_
      exact s_X12_surety_j31 hG hf hK
    · replace hf := iteF c16 hf
      refine V_aload_n d_X12_surety_19 rfl rfl ?_
      refine V_iload_n d_X12_surety_20 rfl rfl ?_
      obtain ⟨t2, ht2, hf⟩ := ob hf
      refine B_callV1 (s_X12_noPerson hG ht2) k_264 clX12 m_X12_noPerson kv_RX12_305 d_X12_surety_21 rfl (Nat.le_of_ble_eq_true rfl) ⟨rfl, rfl, Nat.le_of_ble_eq_true rfl, Nat.le_of_ble_eq_true rfl, Nat.le_of_ble_eq_true rfl⟩ (fun n => ?_)
      have hJj3 : ∀ j3 : Bool, j3 = (if t2 = true then (true : Bool) else false) → V G C F_X12_surety 32 [some (.ref (G.2.1 + 264)), some (.int p1), some (.int p2), none] [.int (b2i j3), .ref (G.2.1 + 264)] (pic G (mset μ 264 0 0)) n 0 0 := by
        intro j3 ej3
        subst ej3
        refine V_iconst (v := 1) d_X12_surety_32 ic_1 ?_
        obtain ⟨q4, hq4, hf⟩ := ob hf
        refine B_callV1 (s_X12_throwsIf hG hq4) k_264 clX12 m_X12_throwsIf kv_RX12_263 d_X12_surety_33 rfl (Nat.le_of_ble_eq_true rfl) ⟨rfl, rfl, Nat.le_of_ble_eq_true rfl, Nat.le_of_ble_eq_true rfl, Nat.le_of_ble_eq_true rfl⟩ (fun n => ?_)
        refine V_if_eq (tgt := 41) d_X12_surety_36 (by decide) (fun c36 => ?_) (fun c36 => ?_)
        · replace hf := iteF (b2i_nt (b2i_eq0 c36)) hf
          refine V_aload_n d_X12_surety_41 rfl rfl ?_
          refine V_iload_n d_X12_surety_42 rfl rfl ?_
          refine V_iconst (v := (-1)) d_X12_surety_43 ic_m1 ?_
          refine V_icmp_eq (tgt := 69) d_X12_surety_44 (by decide) (fun c44 => ?_) (fun c44 => ?_)
          · replace hf := iteT c44 hf
            refine V_less (ls' := [some _, some _, some _, none]) ⟨rfl, rfl, rfl, trivial⟩ ?_
            exact s_X12_surety_j69 hG hf hK
          · replace hf := iteF c44 hf
            refine V_iload_n d_X12_surety_47 rfl rfl ?_
            refine V_iload_n d_X12_surety_48 rfl rfl ?_
            obtain ⟨t5, ht5, hf⟩ := ob hf
            refine B_callS1 (s_X12_ownerOf hG ht5) m_X12_ownerOf ks_RX12_144 d_X12_surety_49 rfl (Nat.le_of_ble_eq_true rfl) ⟨rfl, rfl, Nat.le_of_ble_eq_true rfl, Nat.le_of_ble_eq_true rfl, Nat.le_of_ble_eq_true rfl⟩ (fun n => ?_)
            refine V_icmp_eq (tgt := 65) d_X12_surety_52 (by decide) (fun c52 => ?_) (fun c52 => ?_)
            · replace hf := iteT c52 hf
              refine V_less (ls' := [some _, some _, some _, none]) ⟨rfl, rfl, rfl, trivial⟩ ?_
              exact s_X12_surety_j65 hG hf hK
            · replace hf := iteF c52 hf
              refine V_iload_n d_X12_surety_55 rfl rfl ?_
              refine V_aload_n d_X12_surety_56 rfl rfl ?_
              refine V_iload_n d_X12_surety_57 rfl rfl ?_
              refine V_iconst (v := 1) d_X12_surety_58 ic_1 ?_
              obtain ⟨t6, ht6, hf⟩ := ob hf
              refine B_callV1 (s_X12_ofLace hG ht6) k_264 clX12 m_X12_ofLace kv_RX12_70 d_X12_surety_59 rfl (Nat.le_of_ble_eq_true rfl) ⟨rfl, rfl, Nat.le_of_ble_eq_true rfl, Nat.le_of_ble_eq_true rfl, Nat.le_of_ble_eq_true rfl⟩ (fun n => ?_)
              have hJj7 : ∀ j7 : Bool, j7 = (if p2 = t6 then (true : Bool) else false) → V G C F_X12_surety 70 [some (.ref (G.2.1 + 264)), some (.int p1), some (.int p2), none] [.int (b2i j7), .ref (G.2.1 + 264)] (pic G q4.2) n 0 0 := by
                intro j7 ej7
                subst ej7
                refine V_iconst (v := 2) d_X12_surety_70 ic_2 ?_
                obtain ⟨q8, hq8, hf⟩ := ob hf
                refine B_callV1 (s_X12_throwsIf hG hq8) k_264 clX12 m_X12_throwsIf kv_RX12_263 d_X12_surety_71 rfl (Nat.le_of_ble_eq_true rfl) ⟨rfl, rfl, Nat.le_of_ble_eq_true rfl, Nat.le_of_ble_eq_true rfl, Nat.le_of_ble_eq_true rfl⟩ (fun n => ?_)
                refine V_if_ne (tgt := 98) d_X12_surety_74 (by decide) (fun c74 => ?_) (fun c74 => ?_)
                · replace hf := iteT (b2i_ne0 c74) hf
                  refine V_less (ls' := [none, none, none, none]) trivial ?_
                  exact s_X12_surety_j98 hG hf hK
                · replace hf := iteF (b2i_nt (b2i_eq0 c74)) hf
                  refine V_aload_n d_X12_surety_77 rfl rfl ?_
                  refine V_aload_n d_X12_surety_78 rfl rfl ?_
                  refine V_iload_n d_X12_surety_79 rfl rfl ?_
                  obtain ⟨t9, ht9, hf⟩ := ob hf
                  refine B_callV1 (s_X12_isPledged hG ht9) k_264 clX12 m_X12_isPledged kv_RX12_296 d_X12_surety_80 rfl (Nat.le_of_ble_eq_true rfl) ⟨rfl, rfl, Nat.le_of_ble_eq_true rfl, Nat.le_of_ble_eq_true rfl, Nat.le_of_ble_eq_true rfl⟩ (fun n => ?_)
                  have hJj10 : ∀ j10 : Bool, j10 = (if t9 = true then (false : Bool) else true) → V G C F_X12_surety 91 [some (.ref (G.2.1 + 264)), some (.int p1), some (.int p2), none] [.int (b2i j10), .ref (G.2.1 + 264)] (pic G q8.2) n 0 0 := by
                    intro j10 ej10
                    subst ej10
                    refine V_iconst (v := 3) d_X12_surety_91 ic_3 ?_
                    obtain ⟨q11, hq11, hf⟩ := ob hf
                    refine B_callV1 (s_X12_throwsIf hG hq11) k_264 clX12 m_X12_throwsIf kv_RX12_263 d_X12_surety_92 rfl (Nat.le_of_ble_eq_true rfl) ⟨rfl, rfl, Nat.le_of_ble_eq_true rfl, Nat.le_of_ble_eq_true rfl, Nat.le_of_ble_eq_true rfl⟩ (fun n => ?_)
                    refine V_if_eq (tgt := 100) d_X12_surety_95 (by decide) (fun c95 => ?_) (fun c95 => ?_)
                    · replace hf := iteF (b2i_nt (b2i_eq0 c95)) hf
                      refine V_aload_n d_X12_surety_100 rfl rfl ?_
                      obtain ⟨q12, hq12, hf⟩ := ob hf
                      refine B_callV0 (s_X12_remembers hG hq12) k_264 clX12 m_X12_remembers kv_RX12_339 d_X12_surety_101 rfl (Nat.le_of_ble_eq_true rfl) ⟨rfl, rfl, Nat.le_of_ble_eq_true rfl, Nat.le_of_ble_eq_true rfl, Nat.le_of_ble_eq_true rfl⟩ (fun n => ?_)
                      refine V_aload_n d_X12_surety_104 rfl rfl ?_
                      refine V_iload_n d_X12_surety_105 rfl rfl ?_
                      refine V_iconst (v := 5) d_X12_surety_106 ic_5 ?_
                      obtain ⟨t13, ht13, hf⟩ := ob hf
                      refine B_callV1 (s_X12_ofLace hG ht13) k_264 clX12 m_X12_ofLace kv_RX12_70 d_X12_surety_107 rfl (Nat.le_of_ble_eq_true rfl) ⟨rfl, rfl, Nat.le_of_ble_eq_true rfl, Nat.le_of_ble_eq_true rfl, Nat.le_of_ble_eq_true rfl⟩ (fun n => ?_)
                      refine V_istore_n (ls' := [_, _, _, _]) d_X12_surety_110 rfl rfl rfl ?_
                      refine V_aload_n d_X12_surety_111 rfl rfl ?_
                      refine B_get k_264 fl_RX12_13 d_X12_surety_112 g_12_1 ?_
                      refine V_iload_n d_X12_surety_115 rfl rfl ?_
                      refine V_iconst (v := 5) d_X12_surety_116 ic_5 ?_
                      obtain ⟨t14, ht14, hf⟩ := ob hf
                      refine B_callS1 (s_X12_laceAt hG ht14) m_X12_laceAt ks_RX12_67 d_X12_surety_117 rfl (Nat.le_of_ble_eq_true rfl) ⟨rfl, rfl, Nat.le_of_ble_eq_true rfl, Nat.le_of_ble_eq_true rfl, Nat.le_of_ble_eq_true rfl⟩ (fun n => ?_)
                      refine V_iload_n d_X12_surety_120 rfl rfl ?_
                      obtain ⟨μ15, hμ15, hf⟩ := ob hf
                      refine B_iast k_265 hμ15 d_X12_surety_121 ?_
                      refine V_iload_n d_X12_surety_122 rfl rfl ?_
                      cases hf
                      exact R_i hK d_X12_surety_123 (Nat.le_of_ble_eq_true rfl) (Nat.le_of_ble_eq_true rfl)
                    · replace hf := iteT (b2i_ne0 c95) hf
                      refine V_less (ls' := [none, none, none, none]) trivial ?_
                      exact s_X12_surety_j98 hG hf hK
                  refine V_if_ne (tgt := 90) d_X12_surety_83 (by decide) (fun c83 => ?_) (fun c83 => ?_)
                  · refine V_iconst (v := 0) d_X12_surety_90 ic_0 ?_
                    refine V_less (ls' := [some _, some _, some _, none]) ⟨rfl, rfl, rfl, trivial⟩ ?_
                    exact hJj10 false (by rw [if_pos (b2i_ne0 c83)])
                  · refine V_iconst (v := 1) d_X12_surety_86 ic_1 ?_
                    refine V_goto (tgt := 91) d_X12_surety_87 (by decide) ?_
                    refine V_less (ls' := [some _, some _, some _, none]) ⟨rfl, rfl, rfl, trivial⟩ ?_
                    exact hJj10 true (by rw [if_neg (b2i_nt (b2i_eq0 c83))])
              refine V_icmp_ne (tgt := 69) d_X12_surety_62 (by decide) (fun c62 => ?_) (fun c62 => ?_)
              · refine V_iconst (v := 0) d_X12_surety_69 ic_0 ?_
                refine V_less (ls' := [some _, some _, some _, none]) ⟨rfl, rfl, rfl, trivial⟩ ?_
                exact hJj7 false (by rw [if_neg c62])
              · refine V_iconst (v := 1) d_X12_surety_65 ic_1 ?_
                refine V_goto (tgt := 70) d_X12_surety_66 (by decide) ?_
                refine V_less (ls' := [some _, some _, some _, none]) ⟨rfl, rfl, rfl, trivial⟩ ?_
                exact hJj7 true (by rw [if_pos c62])
        · replace hf := iteT (b2i_ne0 c36) hf
          refine V_iconst (v := 0) d_X12_surety_39 ic_0 ?_
          cases hf
          exact R_i hK d_X12_surety_40 (Nat.le_of_ble_eq_true rfl) (Nat.le_of_ble_eq_true rfl)
      refine V_if_eq (tgt := 31) d_X12_surety_24 (by decide) (fun c24 => ?_) (fun c24 => ?_)
      · refine V_iconst (v := 0) d_X12_surety_31 ic_0 ?_
        refine V_less (ls' := [some _, some _, some _, none]) ⟨rfl, rfl, rfl, trivial⟩ ?_
        exact hJj3 false (by rw [if_neg (b2i_nt (b2i_eq0 c24))])
      · refine V_iconst (v := 1) d_X12_surety_27 ic_1 ?_
        refine V_goto (tgt := 32) d_X12_surety_28 (by decide) ?_
        refine V_less (ls' := [some _, some _, some _, none]) ⟨rfl, rfl, rfl, trivial⟩ ?_
        exact hJj3 true (by rw [if_pos (b2i_ne0 c24)])
theorem s_X12_surety {G : Gl} (hG : G.1.stackTraces = false) {μ : Mem} {p1 : Int32} {p2 : Int32} {r : (Int32 × Mem)} (hf : f_X12_surety μ p1 p2 = some r) : Rt G yX12_surety F_X12_surety (some .int) [.ref (G.2.1 + 264), .int p1, .int p2] μ (some (.int r.1)) r.2 := fun n => Sd.of hG ⟨by decide +kernel, rfl, rfl⟩ rfl (Nat.le_of_ble_eq_true rfl) rfl (fun C hK => s_X12_surety_e hG hf hK)
theorem d_X12_give_0 : decode cX12_give 0 = .ok (.aload_n 0, 1) := by decide +kernel
theorem d_X12_give_1 : decode cX12_give 1 = .ok (.iconst 0, 1) := by decide +kernel
theorem d_X12_give_2 : decode cX12_give 2 = .ok (.putfield 3, 3) := by decide +kernel
theorem d_X12_give_5 : decode cX12_give 5 = .ok (.aload_n 0, 1) := by decide +kernel
theorem d_X12_give_6 : decode cX12_give 6 = .ok (.aload_n 0, 1) := by decide +kernel
theorem d_X12_give_7 : decode cX12_give 7 = .ok (.iload_n 1, 1) := by decide +kernel
theorem d_X12_give_8 : decode cX12_give 8 = .ok (.invokevirtual 317, 3) := by decide +kernel
theorem d_X12_give_11 : decode cX12_give 11 = .ok (.ifCond .ne 11, 3) := by decide +kernel
theorem d_X12_give_14 : decode cX12_give 14 = .ok (.aload_n 0, 1) := by decide +kernel
theorem d_X12_give_15 : decode cX12_give 15 = .ok (.iload_n 2, 1) := by decide +kernel
theorem d_X12_give_16 : decode cX12_give 16 = .ok (.invokevirtual 305, 3) := by decide +kernel
theorem d_X12_give_19 : decode cX12_give 19 = .ok (.ifCond .eq 7, 3) := by decide +kernel
theorem d_X12_give_22 : decode cX12_give 22 = .ok (.iconst 1, 1) := by decide +kernel
theorem d_X12_give_23 : decode cX12_give 23 = .ok (.goto 4, 3) := by decide +kernel
theorem d_X12_give_26 : decode cX12_give 26 = .ok (.iconst 0, 1) := by decide +kernel
theorem d_X12_give_27 : decode cX12_give 27 = .ok (.iconst 1, 1) := by decide +kernel
theorem d_X12_give_28 : decode cX12_give 28 = .ok (.invokevirtual 263, 3) := by decide +kernel
theorem d_X12_give_31 : decode cX12_give 31 = .ok (.ifCond .eq 5, 3) := by decide +kernel
theorem d_X12_give_34 : decode cX12_give 34 = .ok (.iconst 0, 1) := by decide +kernel
theorem d_X12_give_35 : decode cX12_give 35 = .ok (.ireturn, 1) := by decide +kernel
theorem d_X12_give_36 : decode cX12_give 36 = .ok (.aload_n 0, 1) := by decide +kernel
theorem d_X12_give_37 : decode cX12_give 37 = .ok (.iload_n 2, 1) := by decide +kernel
theorem d_X12_give_38 : decode cX12_give 38 = .ok (.iload_n 1, 1) := by decide +kernel
theorem d_X12_give_39 : decode cX12_give 39 = .ok (.invokestatic 144, 3) := by decide +kernel
theorem d_X12_give_42 : decode cX12_give 42 = .ok (.if_icmp .eq 23, 3) := by decide +kernel
theorem d_X12_give_45 : decode cX12_give 45 = .ok (.iload_n 2, 1) := by decide +kernel
theorem d_X12_give_46 : decode cX12_give 46 = .ok (.aload_n 0, 1) := by decide +kernel
theorem d_X12_give_47 : decode cX12_give 47 = .ok (.iload_n 1, 1) := by decide +kernel
theorem d_X12_give_48 : decode cX12_give 48 = .ok (.iconst 1, 1) := by decide +kernel
theorem d_X12_give_49 : decode cX12_give 49 = .ok (.invokevirtual 70, 3) := by decide +kernel
theorem d_X12_give_52 : decode cX12_give 52 = .ok (.if_icmp .eq 13, 3) := by decide +kernel
theorem d_X12_give_55 : decode cX12_give 55 = .ok (.iload_n 2, 1) := by decide +kernel
theorem d_X12_give_56 : decode cX12_give 56 = .ok (.aload_n 0, 1) := by decide +kernel
theorem d_X12_give_57 : decode cX12_give 57 = .ok (.iload_n 1, 1) := by decide +kernel
theorem d_X12_give_58 : decode cX12_give 58 = .ok (.iconst 5, 1) := by decide +kernel
theorem d_X12_give_59 : decode cX12_give 59 = .ok (.invokevirtual 70, 3) := by decide +kernel
theorem d_X12_give_62 : decode cX12_give 62 = .ok (.if_icmp .ne 7, 3) := by decide +kernel
theorem d_X12_give_65 : decode cX12_give 65 = .ok (.iconst 1, 1) := by decide +kernel
theorem d_X12_give_66 : decode cX12_give 66 = .ok (.goto 4, 3) := by decide +kernel
theorem d_X12_give_69 : decode cX12_give 69 = .ok (.iconst 0, 1) := by decide +kernel
theorem d_X12_give_70 : decode cX12_give 70 = .ok (.iconst 2, 1) := by decide +kernel
theorem d_X12_give_71 : decode cX12_give 71 = .ok (.invokevirtual 263, 3) := by decide +kernel
theorem d_X12_give_74 : decode cX12_give 74 = .ok (.ifCond .eq 5, 3) := by decide +kernel
theorem d_X12_give_77 : decode cX12_give 77 = .ok (.iconst 0, 1) := by decide +kernel
theorem d_X12_give_78 : decode cX12_give 78 = .ok (.ireturn, 1) := by decide +kernel
theorem d_X12_give_79 : decode cX12_give 79 = .ok (.aload_n 0, 1) := by decide +kernel
theorem d_X12_give_80 : decode cX12_give 80 = .ok (.aload_n 0, 1) := by decide +kernel
theorem d_X12_give_81 : decode cX12_give 81 = .ok (.iload_n 1, 1) := by decide +kernel
theorem d_X12_give_82 : decode cX12_give 82 = .ok (.invokevirtual 296, 3) := by decide +kernel
theorem d_X12_give_85 : decode cX12_give 85 = .ok (.ifCond .eq 18, 3) := by decide +kernel
theorem d_X12_give_88 : decode cX12_give 88 = .ok (.aload_n 0, 1) := by decide +kernel
theorem d_X12_give_89 : decode cX12_give 89 = .ok (.iload_n 2, 1) := by decide +kernel
theorem d_X12_give_90 : decode cX12_give 90 = .ok (.iconst 0, 1) := by decide +kernel
theorem d_X12_give_91 : decode cX12_give 91 = .ok (.invokevirtual 84, 3) := by decide +kernel
theorem d_X12_give_94 : decode cX12_give 94 = .ok (.aload_n 0, 1) := by decide +kernel
theorem d_X12_give_95 : decode cX12_give 95 = .ok (.iload_n 1, 1) := by decide +kernel
theorem d_X12_give_96 : decode cX12_give 96 = .ok (.iconst 2, 1) := by decide +kernel
theorem d_X12_give_97 : decode cX12_give 97 = .ok (.invokevirtual 70, 3) := by decide +kernel
theorem d_X12_give_100 : decode cX12_give 100 = .ok (.if_icmp .ge 7, 3) := by decide +kernel
theorem d_X12_give_103 : decode cX12_give 103 = .ok (.iconst 1, 1) := by decide +kernel
theorem d_X12_give_104 : decode cX12_give 104 = .ok (.goto 4, 3) := by decide +kernel
theorem d_X12_give_107 : decode cX12_give 107 = .ok (.iconst 0, 1) := by decide +kernel
theorem d_X12_give_108 : decode cX12_give 108 = .ok (.iconst 3, 1) := by decide +kernel
theorem d_X12_give_109 : decode cX12_give 109 = .ok (.invokevirtual 263, 3) := by decide +kernel
theorem d_X12_give_112 : decode cX12_give 112 = .ok (.ifCond .eq 5, 3) := by decide +kernel
theorem d_X12_give_115 : decode cX12_give 115 = .ok (.iconst 0, 1) := by decide +kernel
theorem d_X12_give_116 : decode cX12_give 116 = .ok (.ireturn, 1) := by decide +kernel
theorem d_X12_give_117 : decode cX12_give 117 = .ok (.aload_n 0, 1) := by decide +kernel
theorem d_X12_give_118 : decode cX12_give 118 = .ok (.invokevirtual 339, 3) := by decide +kernel
theorem d_X12_give_121 : decode cX12_give 121 = .ok (.aload_n 0, 1) := by decide +kernel
theorem d_X12_give_122 : decode cX12_give 122 = .ok (.iload_n 1, 1) := by decide +kernel
theorem d_X12_give_123 : decode cX12_give 123 = .ok (.iconst 1, 1) := by decide +kernel
theorem d_X12_give_124 : decode cX12_give 124 = .ok (.invokevirtual 70, 3) := by decide +kernel
theorem d_X12_give_127 : decode cX12_give 127 = .ok (.istore_n 3, 1) := by decide +kernel
theorem d_X12_give_128 : decode cX12_give 128 = .ok (.aload_n 0, 1) := by decide +kernel
theorem d_X12_give_129 : decode cX12_give 129 = .ok (.getfield 13, 3) := by decide +kernel
theorem d_X12_give_132 : decode cX12_give 132 = .ok (.iload_n 2, 1) := by decide +kernel
theorem d_X12_give_133 : decode cX12_give 133 = .ok (.iconst 0, 1) := by decide +kernel
theorem d_X12_give_134 : decode cX12_give 134 = .ok (.invokestatic 63, 3) := by decide +kernel
theorem d_X12_give_137 : decode cX12_give 137 = .ok (.dup2, 1) := by decide +kernel
theorem d_X12_give_138 : decode cX12_give 138 = .ok (.iaload, 1) := by decide +kernel
theorem d_X12_give_139 : decode cX12_give 139 = .ok (.aload_n 0, 1) := by decide +kernel
theorem d_X12_give_140 : decode cX12_give 140 = .ok (.iload_n 1, 1) := by decide +kernel
theorem d_X12_give_141 : decode cX12_give 141 = .ok (.iconst 2, 1) := by decide +kernel
theorem d_X12_give_142 : decode cX12_give 142 = .ok (.invokevirtual 70, 3) := by decide +kernel
theorem d_X12_give_145 : decode cX12_give 145 = .ok (.isub, 1) := by decide +kernel
theorem d_X12_give_146 : decode cX12_give 146 = .ok (.iastore, 1) := by decide +kernel
theorem d_X12_give_147 : decode cX12_give 147 = .ok (.aload_n 0, 1) := by decide +kernel
theorem d_X12_give_148 : decode cX12_give 148 = .ok (.iload_n 3, 1) := by decide +kernel
theorem d_X12_give_149 : decode cX12_give 149 = .ok (.aload_n 0, 1) := by decide +kernel
theorem d_X12_give_150 : decode cX12_give 150 = .ok (.iload_n 1, 1) := by decide +kernel
theorem d_X12_give_151 : decode cX12_give 151 = .ok (.iconst 2, 1) := by decide +kernel
theorem d_X12_give_152 : decode cX12_give 152 = .ok (.invokevirtual 70, 3) := by decide +kernel
theorem d_X12_give_155 : decode cX12_give 155 = .ok (.invokevirtual 332, 3) := by decide +kernel
theorem d_X12_give_158 : decode cX12_give 158 = .ok (.aload_n 0, 1) := by decide +kernel
theorem d_X12_give_159 : decode cX12_give 159 = .ok (.getfield 13, 3) := by decide +kernel
theorem d_X12_give_162 : decode cX12_give 162 = .ok (.iload_n 1, 1) := by decide +kernel
theorem d_X12_give_163 : decode cX12_give 163 = .ok (.iconst 1, 1) := by decide +kernel
theorem d_X12_give_164 : decode cX12_give 164 = .ok (.invokestatic 67, 3) := by decide +kernel
theorem d_X12_give_167 : decode cX12_give 167 = .ok (.iload_n 2, 1) := by decide +kernel
theorem d_X12_give_168 : decode cX12_give 168 = .ok (.iastore, 1) := by decide +kernel
theorem d_X12_give_169 : decode cX12_give 169 = .ok (.iload_n 3, 1) := by decide +kernel
theorem d_X12_give_170 : decode cX12_give 170 = .ok (.ireturn, 1) := by decide +kernel
theorem s_X12_give_j108 {G : Gl} (hG : G.1.stackTraces = false) {C : Cx} {n : Nat} {μ : Mem} {l1 : Int32} {l2 : Int32} {k1 : Bool} {r : (Int32 × Mem)} (hf : f_X12_give_j108 μ l1 l2 k1 = some r) (hK : FinR G C F_X12_give (some .int) (some (.int r.1)) r.2) : V G C F_X12_give 108 [some (.ref (G.2.1 + 264)), some (.int l1), some (.int l2), none] [.int (b2i k1), .ref (G.2.1 + 264)] (pic G μ) n 0 0 := by
  unfold f_X12_give_j108 at hf
  refine V_iconst (v := 3) d_X12_give_108 ic_3 ?_
  obtain ⟨q1, hq1, hf⟩ := ob hf
  refine B_callV1 (s_X12_throwsIf hG hq1) k_264 clX12 m_X12_throwsIf kv_RX12_263 d_X12_give_109 rfl (Nat.le_of_ble_eq_true rfl) ⟨rfl, rfl, Nat.le_of_ble_eq_true rfl, Nat.le_of_ble_eq_true rfl, Nat.le_of_ble_eq_true rfl⟩ (fun n => ?_)
  refine V_if_eq (tgt := 117) d_X12_give_112 (by decide) (fun c112 => ?_) (fun c112 => ?_)
  · replace hf := iteF (b2i_nt (b2i_eq0 c112)) hf
    refine V_aload_n d_X12_give_117 rfl rfl ?_
    obtain ⟨q2, hq2, hf⟩ := ob hf
    refine B_callV0 (s_X12_remembers hG hq2) k_264 clX12 m_X12_remembers kv_RX12_339 d_X12_give_118 rfl (Nat.le_of_ble_eq_true rfl) ⟨rfl, rfl, Nat.le_of_ble_eq_true rfl, Nat.le_of_ble_eq_true rfl, Nat.le_of_ble_eq_true rfl⟩ (fun n => ?_)
    refine V_aload_n d_X12_give_121 rfl rfl ?_
    refine V_iload_n d_X12_give_122 rfl rfl ?_
    refine V_iconst (v := 1) d_X12_give_123 ic_1 ?_
    obtain ⟨t3, ht3, hf⟩ := ob hf
    refine B_callV1 (s_X12_ofLace hG ht3) k_264 clX12 m_X12_ofLace kv_RX12_70 d_X12_give_124 rfl (Nat.le_of_ble_eq_true rfl) ⟨rfl, rfl, Nat.le_of_ble_eq_true rfl, Nat.le_of_ble_eq_true rfl, Nat.le_of_ble_eq_true rfl⟩ (fun n => ?_)
    refine V_istore_n (ls' := [_, _, _, _]) d_X12_give_127 rfl rfl rfl ?_
    refine V_aload_n d_X12_give_128 rfl rfl ?_
    refine B_get k_264 fl_RX12_13 d_X12_give_129 g_12_1 ?_
    refine V_iload_n d_X12_give_132 rfl rfl ?_
    refine V_iconst (v := 0) d_X12_give_133 ic_0 ?_
    obtain ⟨t4, ht4, hf⟩ := ob hf
    refine B_callS1 (s_X12_at hG ht4) m_X12_at ks_RX12_63 d_X12_give_134 rfl (Nat.le_of_ble_eq_true rfl) ⟨rfl, rfl, Nat.le_of_ble_eq_true rfl, Nat.le_of_ble_eq_true rfl, Nat.le_of_ble_eq_true rfl⟩ (fun n => ?_)
    refine V_dup2 d_X12_give_137 rfl rfl ?_
    obtain ⟨t5, ht5, hf⟩ := ob hf
    refine B_iald k_265 ht5 d_X12_give_138 ?_
    refine V_aload_n d_X12_give_139 rfl rfl ?_
    refine V_iload_n d_X12_give_140 rfl rfl ?_
    refine V_iconst (v := 2) d_X12_give_141 ic_2 ?_
    obtain ⟨t6, ht6, hf⟩ := ob hf
    refine B_callV1 (s_X12_ofLace hG ht6) k_264 clX12 m_X12_ofLace kv_RX12_70 d_X12_give_142 rfl (Nat.le_of_ble_eq_true rfl) ⟨rfl, rfl, Nat.le_of_ble_eq_true rfl, Nat.le_of_ble_eq_true rfl, Nat.le_of_ble_eq_true rfl⟩ (fun n => ?_)
    refine V_isub d_X12_give_145 ?_
    obtain ⟨μ7, hμ7, hf⟩ := ob hf
    refine B_iast k_265 hμ7 d_X12_give_146 ?_
    refine V_aload_n d_X12_give_147 rfl rfl ?_
    refine V_iload_n d_X12_give_148 rfl rfl ?_
    refine V_aload_n d_X12_give_149 rfl rfl ?_
    refine V_iload_n d_X12_give_150 rfl rfl ?_
    refine V_iconst (v := 2) d_X12_give_151 ic_2 ?_
    obtain ⟨t8, ht8, hf⟩ := ob hf
    refine B_callV1 (s_X12_ofLace hG ht8) k_264 clX12 m_X12_ofLace kv_RX12_70 d_X12_give_152 rfl (Nat.le_of_ble_eq_true rfl) ⟨rfl, rfl, Nat.le_of_ble_eq_true rfl, Nat.le_of_ble_eq_true rfl, Nat.le_of_ble_eq_true rfl⟩ (fun n => ?_)
    obtain ⟨q9, hq9, hf⟩ := ob hf
    refine B_callV0 (s_X12_gets hG hq9) k_264 clX12 m_X12_gets kv_RX12_332 d_X12_give_155 rfl (Nat.le_of_ble_eq_true rfl) ⟨rfl, rfl, Nat.le_of_ble_eq_true rfl, Nat.le_of_ble_eq_true rfl, Nat.le_of_ble_eq_true rfl⟩ (fun n => ?_)
    refine V_aload_n d_X12_give_158 rfl rfl ?_
    refine B_get k_264 fl_RX12_13 d_X12_give_159 g_12_1 ?_
    refine V_iload_n d_X12_give_162 rfl rfl ?_
    refine V_iconst (v := 1) d_X12_give_163 ic_1 ?_
    obtain ⟨t10, ht10, hf⟩ := ob hf
    refine B_callS1 (s_X12_laceAt hG ht10) m_X12_laceAt ks_RX12_67 d_X12_give_164 rfl (Nat.le_of_ble_eq_true rfl) ⟨rfl, rfl, Nat.le_of_ble_eq_true rfl, Nat.le_of_ble_eq_true rfl, Nat.le_of_ble_eq_true rfl⟩ (fun n => ?_)
    refine V_iload_n d_X12_give_167 rfl rfl ?_
    obtain ⟨μ11, hμ11, hf⟩ := ob hf
    refine B_iast k_265 hμ11 d_X12_give_168 ?_
    refine V_iload_n d_X12_give_169 rfl rfl ?_
    cases hf
    exact R_i hK d_X12_give_170 (Nat.le_of_ble_eq_true rfl) (Nat.le_of_ble_eq_true rfl)
  · replace hf := iteT (b2i_ne0 c112) hf
    refine V_iconst (v := 0) d_X12_give_115 ic_0 ?_
    cases hf
    exact R_i hK d_X12_give_116 (Nat.le_of_ble_eq_true rfl) (Nat.le_of_ble_eq_true rfl)
theorem s_X12_give_j103 {G : Gl} (hG : G.1.stackTraces = false) {C : Cx} {n : Nat} {μ : Mem} {l1 : Int32} {l2 : Int32} {r : (Int32 × Mem)} (hf : f_X12_give_j103 μ l1 l2 = some r) (hK : FinR G C F_X12_give (some .int) (some (.int r.1)) r.2) : V G C F_X12_give 103 [some (.ref (G.2.1 + 264)), some (.int l1), some (.int l2), none] [.ref (G.2.1 + 264)] (pic G μ) n 0 0 := by
  unfold f_X12_give_j103 at hf
  refine V_iconst (v := 1) d_X12_give_103 ic_1 ?_
  refine V_goto (tgt := 108) d_X12_give_104 (by decide) ?_
  refine V_less (ls' := [some _, some _, some _, none]) ⟨rfl, rfl, rfl, trivial⟩ ?_
  exact s_X12_give_j108 hG hf hK
theorem s_X12_give_j70 {G : Gl} (hG : G.1.stackTraces = false) {C : Cx} {n : Nat} {μ : Mem} {l1 : Int32} {l2 : Int32} {k1 : Bool} {r : (Int32 × Mem)} (hf : f_X12_give_j70 μ l1 l2 k1 = some r) (hK : FinR G C F_X12_give (some .int) (some (.int r.1)) r.2) : V G C F_X12_give 70 [some (.ref (G.2.1 + 264)), some (.int l1), some (.int l2), none] [.int (b2i k1), .ref (G.2.1 + 264)] (pic G μ) n 0 0 := by
  unfold f_X12_give_j70 at hf
  refine V_iconst (v := 2) d_X12_give_70 ic_2 ?_
  obtain ⟨q1, hq1, hf⟩ := ob hf
  refine B_callV1 (s_X12_throwsIf hG hq1) k_264 clX12 m_X12_throwsIf kv_RX12_263 d_X12_give_71 rfl (Nat.le_of_ble_eq_true rfl) ⟨rfl, rfl, Nat.le_of_ble_eq_true rfl, Nat.le_of_ble_eq_true rfl, Nat.le_of_ble_eq_true rfl⟩ (fun n => ?_)
  refine V_if_eq (tgt := 79) d_X12_give_74 (by decide) (fun c74 => ?_) (fun c74 => ?_)
  · replace hf := iteF (b2i_nt (b2i_eq0 c74)) hf
    refine V_aload_n d_X12_give_79 rfl rfl ?_
    refine V_aload_n d_X12_give_80 rfl rfl ?_
    refine V_iload_n d_X12_give_81 rfl rfl ?_
    obtain ⟨t2, ht2, hf⟩ := ob hf
    refine B_callV1 (s_X12_isPledged hG ht2) k_264 clX12 m_X12_isPledged kv_RX12_296 d_X12_give_82 rfl (Nat.le_of_ble_eq_true rfl) ⟨rfl, rfl, Nat.le_of_ble_eq_true rfl, Nat.le_of_ble_eq_true rfl, Nat.le_of_ble_eq_true rfl⟩ (fun n => ?_)
    refine V_if_eq (tgt := 103) d_X12_give_85 (by decide) (fun c85 => ?_) (fun c85 => ?_)
    · replace hf := iteF (b2i_nt (b2i_eq0 c85)) hf
      refine V_less (ls' := [some _, some _, some _, none]) ⟨rfl, rfl, rfl, trivial⟩ ?_
      exact s_X12_give_j103 hG hf hK
    · replace hf := iteT (b2i_ne0 c85) hf
      refine V_aload_n d_X12_give_88 rfl rfl ?_
      refine V_iload_n d_X12_give_89 rfl rfl ?_
      refine V_iconst (v := 0) d_X12_give_90 ic_0 ?_
      obtain ⟨t3, ht3, hf⟩ := ob hf
      refine B_callV1 (s_X12_of hG ht3) k_264 clX12 m_X12_of kv_RX12_84 d_X12_give_91 rfl (Nat.le_of_ble_eq_true rfl) ⟨rfl, rfl, Nat.le_of_ble_eq_true rfl, Nat.le_of_ble_eq_true rfl, Nat.le_of_ble_eq_true rfl⟩ (fun n => ?_)
      refine V_aload_n d_X12_give_94 rfl rfl ?_
      refine V_iload_n d_X12_give_95 rfl rfl ?_
      refine V_iconst (v := 2) d_X12_give_96 ic_2 ?_
      obtain ⟨t4, ht4, hf⟩ := ob hf
      refine B_callV1 (s_X12_ofLace hG ht4) k_264 clX12 m_X12_ofLace kv_RX12_70 d_X12_give_97 rfl (Nat.le_of_ble_eq_true rfl) ⟨rfl, rfl, Nat.le_of_ble_eq_true rfl, Nat.le_of_ble_eq_true rfl, Nat.le_of_ble_eq_true rfl⟩ (fun n => ?_)
      have hJj5 : ∀ j5 : Bool, j5 = (if t4 ≤ t3 then (false : Bool) else true) → V G C F_X12_give 108 [some (.ref (G.2.1 + 264)), some (.int l1), some (.int l2), none] [.int (b2i j5), .ref (G.2.1 + 264)] (pic G q1.2) n 0 0 := by
        intro j5 ej5
        subst ej5
        refine V_iconst (v := 3) d_X12_give_108 ic_3 ?_
        obtain ⟨q6, hq6, hf⟩ := ob hf
        refine B_callV1 (s_X12_throwsIf hG hq6) k_264 clX12 m_X12_throwsIf kv_RX12_263 d_X12_give_109 rfl (Nat.le_of_ble_eq_true rfl) ⟨rfl, rfl, Nat.le_of_ble_eq_true rfl, Nat.le_of_ble_eq_true rfl, Nat.le_of_ble_eq_true rfl⟩ (fun n => ?_)
        refine V_if_eq (tgt := 117) d_X12_give_112 (by decide) (fun c112 => ?_) (fun c112 => ?_)
        · replace hf := iteF (b2i_nt (b2i_eq0 c112)) hf
          refine V_aload_n d_X12_give_117 rfl rfl ?_
          obtain ⟨q7, hq7, hf⟩ := ob hf
          refine B_callV0 (s_X12_remembers hG hq7) k_264 clX12 m_X12_remembers kv_RX12_339 d_X12_give_118 rfl (Nat.le_of_ble_eq_true rfl) ⟨rfl, rfl, Nat.le_of_ble_eq_true rfl, Nat.le_of_ble_eq_true rfl, Nat.le_of_ble_eq_true rfl⟩ (fun n => ?_)
          refine V_aload_n d_X12_give_121 rfl rfl ?_
          refine V_iload_n d_X12_give_122 rfl rfl ?_
          refine V_iconst (v := 1) d_X12_give_123 ic_1 ?_
          obtain ⟨t8, ht8, hf⟩ := ob hf
          refine B_callV1 (s_X12_ofLace hG ht8) k_264 clX12 m_X12_ofLace kv_RX12_70 d_X12_give_124 rfl (Nat.le_of_ble_eq_true rfl) ⟨rfl, rfl, Nat.le_of_ble_eq_true rfl, Nat.le_of_ble_eq_true rfl, Nat.le_of_ble_eq_true rfl⟩ (fun n => ?_)
          refine V_istore_n (ls' := [_, _, _, _]) d_X12_give_127 rfl rfl rfl ?_
          refine V_aload_n d_X12_give_128 rfl rfl ?_
          refine B_get k_264 fl_RX12_13 d_X12_give_129 g_12_1 ?_
          refine V_iload_n d_X12_give_132 rfl rfl ?_
          refine V_iconst (v := 0) d_X12_give_133 ic_0 ?_
          obtain ⟨t9, ht9, hf⟩ := ob hf
          refine B_callS1 (s_X12_at hG ht9) m_X12_at ks_RX12_63 d_X12_give_134 rfl (Nat.le_of_ble_eq_true rfl) ⟨rfl, rfl, Nat.le_of_ble_eq_true rfl, Nat.le_of_ble_eq_true rfl, Nat.le_of_ble_eq_true rfl⟩ (fun n => ?_)
          refine V_dup2 d_X12_give_137 rfl rfl ?_
          obtain ⟨t10, ht10, hf⟩ := ob hf
          refine B_iald k_265 ht10 d_X12_give_138 ?_
          refine V_aload_n d_X12_give_139 rfl rfl ?_
          refine V_iload_n d_X12_give_140 rfl rfl ?_
          refine V_iconst (v := 2) d_X12_give_141 ic_2 ?_
          obtain ⟨t11, ht11, hf⟩ := ob hf
          refine B_callV1 (s_X12_ofLace hG ht11) k_264 clX12 m_X12_ofLace kv_RX12_70 d_X12_give_142 rfl (Nat.le_of_ble_eq_true rfl) ⟨rfl, rfl, Nat.le_of_ble_eq_true rfl, Nat.le_of_ble_eq_true rfl, Nat.le_of_ble_eq_true rfl⟩ (fun n => ?_)
          refine V_isub d_X12_give_145 ?_
          obtain ⟨μ12, hμ12, hf⟩ := ob hf
          refine B_iast k_265 hμ12 d_X12_give_146 ?_
          refine V_aload_n d_X12_give_147 rfl rfl ?_
          refine V_iload_n d_X12_give_148 rfl rfl ?_
          refine V_aload_n d_X12_give_149 rfl rfl ?_
          refine V_iload_n d_X12_give_150 rfl rfl ?_
          refine V_iconst (v := 2) d_X12_give_151 ic_2 ?_
          obtain ⟨t13, ht13, hf⟩ := ob hf
          refine B_callV1 (s_X12_ofLace hG ht13) k_264 clX12 m_X12_ofLace kv_RX12_70 d_X12_give_152 rfl (Nat.le_of_ble_eq_true rfl) ⟨rfl, rfl, Nat.le_of_ble_eq_true rfl, Nat.le_of_ble_eq_true rfl, Nat.le_of_ble_eq_true rfl⟩ (fun n => ?_)
          obtain ⟨q14, hq14, hf⟩ := ob hf
          refine B_callV0 (s_X12_gets hG hq14) k_264 clX12 m_X12_gets kv_RX12_332 d_X12_give_155 rfl (Nat.le_of_ble_eq_true rfl) ⟨rfl, rfl, Nat.le_of_ble_eq_true rfl, Nat.le_of_ble_eq_true rfl, Nat.le_of_ble_eq_true rfl⟩ (fun n => ?_)
          refine V_aload_n d_X12_give_158 rfl rfl ?_
          refine B_get k_264 fl_RX12_13 d_X12_give_159 g_12_1 ?_
          refine V_iload_n d_X12_give_162 rfl rfl ?_
          refine V_iconst (v := 1) d_X12_give_163 ic_1 ?_
          obtain ⟨t15, ht15, hf⟩ := ob hf
          refine B_callS1 (s_X12_laceAt hG ht15) m_X12_laceAt ks_RX12_67 d_X12_give_164 rfl (Nat.le_of_ble_eq_true rfl) ⟨rfl, rfl, Nat.le_of_ble_eq_true rfl, Nat.le_of_ble_eq_true rfl, Nat.le_of_ble_eq_true rfl⟩ (fun n => ?_)
          refine V_iload_n d_X12_give_167 rfl rfl ?_
          obtain ⟨μ16, hμ16, hf⟩ := ob hf
          refine B_iast k_265 hμ16 d_X12_give_168 ?_
          refine V_iload_n d_X12_give_169 rfl rfl ?_
          cases hf
          exact R_i hK d_X12_give_170 (Nat.le_of_ble_eq_true rfl) (Nat.le_of_ble_eq_true rfl)
        · replace hf := iteT (b2i_ne0 c112) hf
          refine V_iconst (v := 0) d_X12_give_115 ic_0 ?_
          cases hf
          exact R_i hK d_X12_give_116 (Nat.le_of_ble_eq_true rfl) (Nat.le_of_ble_eq_true rfl)
      refine V_icmp_ge (tgt := 107) d_X12_give_100 (by decide) (fun c100 => ?_) (fun c100 => ?_)
      · refine V_iconst (v := 0) d_X12_give_107 ic_0 ?_
        refine V_less (ls' := [some _, some _, some _, none]) ⟨rfl, rfl, rfl, trivial⟩ ?_
        exact hJj5 false (by rw [if_pos c100])
      · refine V_iconst (v := 1) d_X12_give_103 ic_1 ?_
        refine V_goto (tgt := 108) d_X12_give_104 (by decide) ?_
        refine V_less (ls' := [some _, some _, some _, none]) ⟨rfl, rfl, rfl, trivial⟩ ?_
        exact hJj5 true (by rw [if_neg c100])
  · replace hf := iteT (b2i_ne0 c74) hf
    refine V_iconst (v := 0) d_X12_give_77 ic_0 ?_
    cases hf
    exact R_i hK d_X12_give_78 (Nat.le_of_ble_eq_true rfl) (Nat.le_of_ble_eq_true rfl)
theorem s_X12_give_j65 {G : Gl} (hG : G.1.stackTraces = false) {C : Cx} {n : Nat} {μ : Mem} {l1 : Int32} {l2 : Int32} {r : (Int32 × Mem)} (hf : f_X12_give_j65 μ l1 l2 = some r) (hK : FinR G C F_X12_give (some .int) (some (.int r.1)) r.2) : V G C F_X12_give 65 [some (.ref (G.2.1 + 264)), some (.int l1), some (.int l2), none] [.ref (G.2.1 + 264)] (pic G μ) n 0 0 := by
  unfold f_X12_give_j65 at hf
  refine V_iconst (v := 1) d_X12_give_65 ic_1 ?_
  refine V_goto (tgt := 70) d_X12_give_66 (by decide) ?_
  refine V_less (ls' := [some _, some _, some _, none]) ⟨rfl, rfl, rfl, trivial⟩ ?_
  exact s_X12_give_j70 hG hf hK
theorem s_X12_give_j27 {G : Gl} (hG : G.1.stackTraces = false) {C : Cx} {n : Nat} {μ : Mem} {l1 : Int32} {l2 : Int32} {k1 : Bool} {r : (Int32 × Mem)} (hf : f_X12_give_j27 μ l1 l2 k1 = some r) (hK : FinR G C F_X12_give (some .int) (some (.int r.1)) r.2) : V G C F_X12_give 27 [some (.ref (G.2.1 + 264)), some (.int l1), some (.int l2), none] [.int (b2i k1), .ref (G.2.1 + 264)] (pic G μ) n 0 0 := by
  unfold f_X12_give_j27 at hf
  refine V_iconst (v := 1) d_X12_give_27 ic_1 ?_
  obtain ⟨q1, hq1, hf⟩ := ob hf
  refine B_callV1 (s_X12_throwsIf hG hq1) k_264 clX12 m_X12_throwsIf kv_RX12_263 d_X12_give_28 rfl (Nat.le_of_ble_eq_true rfl) ⟨rfl, rfl, Nat.le_of_ble_eq_true rfl, Nat.le_of_ble_eq_true rfl, Nat.le_of_ble_eq_true rfl⟩ (fun n => ?_)
  refine V_if_eq (tgt := 36) d_X12_give_31 (by decide) (fun c31 => ?_) (fun c31 => ?_)
  · replace hf := iteF (b2i_nt (b2i_eq0 c31)) hf
    refine V_aload_n d_X12_give_36 rfl rfl ?_
    refine V_iload_n d_X12_give_37 rfl rfl ?_
    refine V_iload_n d_X12_give_38 rfl rfl ?_
    obtain ⟨t2, ht2, hf⟩ := ob hf
    refine B_callS1 (s_X12_ownerOf hG ht2) m_X12_ownerOf ks_RX12_144 d_X12_give_39 rfl (Nat.le_of_ble_eq_true rfl) ⟨rfl, rfl, Nat.le_of_ble_eq_true rfl, Nat.le_of_ble_eq_true rfl, Nat.le_of_ble_eq_true rfl⟩ (fun n => ?_)
    refine V_icmp_eq (tgt := 65) d_X12_give_42 (by decide) (fun c42 => ?_) (fun c42 => ?_)
    · replace hf := iteT c42 hf
      refine V_less (ls' := [some _, some _, some _, none]) ⟨rfl, rfl, rfl, trivial⟩ ?_
      exact s_X12_give_j65 hG hf hK
    · replace hf := iteF c42 hf
      refine V_iload_n d_X12_give_45 rfl rfl ?_
      refine V_aload_n d_X12_give_46 rfl rfl ?_
      refine V_iload_n d_X12_give_47 rfl rfl ?_
      refine V_iconst (v := 1) d_X12_give_48 ic_1 ?_
      obtain ⟨t3, ht3, hf⟩ := ob hf
      refine B_callV1 (s_X12_ofLace hG ht3) k_264 clX12 m_X12_ofLace kv_RX12_70 d_X12_give_49 rfl (Nat.le_of_ble_eq_true rfl) ⟨rfl, rfl, Nat.le_of_ble_eq_true rfl, Nat.le_of_ble_eq_true rfl, Nat.le_of_ble_eq_true rfl⟩ (fun n => ?_)
      refine V_icmp_eq (tgt := 65) d_X12_give_52 (by decide) (fun c52 => ?_) (fun c52 => ?_)
      · replace hf := iteT c52 hf
        refine V_less (ls' := [some _, some _, some _, none]) ⟨rfl, rfl, rfl, trivial⟩ ?_
        exact s_X12_give_j65 hG hf hK
      · replace hf := iteF c52 hf
        refine V_iload_n d_X12_give_55 rfl rfl ?_
        refine V_aload_n d_X12_give_56 rfl rfl ?_
        refine V_iload_n d_X12_give_57 rfl rfl ?_
        refine V_iconst (v := 5) d_X12_give_58 ic_5 ?_
        obtain ⟨t4, ht4, hf⟩ := ob hf
        refine B_callV1 (s_X12_ofLace hG ht4) k_264 clX12 m_X12_ofLace kv_RX12_70 d_X12_give_59 rfl (Nat.le_of_ble_eq_true rfl) ⟨rfl, rfl, Nat.le_of_ble_eq_true rfl, Nat.le_of_ble_eq_true rfl, Nat.le_of_ble_eq_true rfl⟩ (fun n => ?_)
        have hJj5 : ∀ j5 : Bool, j5 = (if l2 = t4 then (true : Bool) else false) → V G C F_X12_give 70 [some (.ref (G.2.1 + 264)), some (.int l1), some (.int l2), none] [.int (b2i j5), .ref (G.2.1 + 264)] (pic G q1.2) n 0 0 := by
          intro j5 ej5
          subst ej5
          refine V_iconst (v := 2) d_X12_give_70 ic_2 ?_
          obtain ⟨q6, hq6, hf⟩ := ob hf
          refine B_callV1 (s_X12_throwsIf hG hq6) k_264 clX12 m_X12_throwsIf kv_RX12_263 d_X12_give_71 rfl (Nat.le_of_ble_eq_true rfl) ⟨rfl, rfl, Nat.le_of_ble_eq_true rfl, Nat.le_of_ble_eq_true rfl, Nat.le_of_ble_eq_true rfl⟩ (fun n => ?_)
          refine V_if_eq (tgt := 79) d_X12_give_74 (by decide) (fun c74 => ?_) (fun c74 => ?_)
          · replace hf := iteF (b2i_nt (b2i_eq0 c74)) hf
            refine V_aload_n d_X12_give_79 rfl rfl ?_
            refine V_aload_n d_X12_give_80 rfl rfl ?_
            refine V_iload_n d_X12_give_81 rfl rfl ?_
            obtain ⟨t7, ht7, hf⟩ := ob hf
            refine B_callV1 (s_X12_isPledged hG ht7) k_264 clX12 m_X12_isPledged kv_RX12_296 d_X12_give_82 rfl (Nat.le_of_ble_eq_true rfl) ⟨rfl, rfl, Nat.le_of_ble_eq_true rfl, Nat.le_of_ble_eq_true rfl, Nat.le_of_ble_eq_true rfl⟩ (fun n => ?_)
            refine V_if_eq (tgt := 103) d_X12_give_85 (by decide) (fun c85 => ?_) (fun c85 => ?_)
            · replace hf := iteF (b2i_nt (b2i_eq0 c85)) hf
              refine V_less (ls' := [some _, some _, some _, none]) ⟨rfl, rfl, rfl, trivial⟩ ?_
              exact s_X12_give_j103 hG hf hK
            · replace hf := iteT (b2i_ne0 c85) hf
              refine V_aload_n d_X12_give_88 rfl rfl ?_
              refine V_iload_n d_X12_give_89 rfl rfl ?_
              refine V_iconst (v := 0) d_X12_give_90 ic_0 ?_
              obtain ⟨t8, ht8, hf⟩ := ob hf
              refine B_callV1 (s_X12_of hG ht8) k_264 clX12 m_X12_of kv_RX12_84 d_X12_give_91 rfl (Nat.le_of_ble_eq_true rfl) ⟨rfl, rfl, Nat.le_of_ble_eq_true rfl, Nat.le_of_ble_eq_true rfl, Nat.le_of_ble_eq_true rfl⟩ (fun n => ?_)
              refine V_aload_n d_X12_give_94 rfl rfl ?_
              refine V_iload_n d_X12_give_95 rfl rfl ?_
              refine V_iconst (v := 2) d_X12_give_96 ic_2 ?_
              obtain ⟨t9, ht9, hf⟩ := ob hf
              refine B_callV1 (s_X12_ofLace hG ht9) k_264 clX12 m_X12_ofLace kv_RX12_70 d_X12_give_97 rfl (Nat.le_of_ble_eq_true rfl) ⟨rfl, rfl, Nat.le_of_ble_eq_true rfl, Nat.le_of_ble_eq_true rfl, Nat.le_of_ble_eq_true rfl⟩ (fun n => ?_)
              have hJj10 : ∀ j10 : Bool, j10 = (if t9 ≤ t8 then (false : Bool) else true) → V G C F_X12_give 108 [some (.ref (G.2.1 + 264)), some (.int l1), some (.int l2), none] [.int (b2i j10), .ref (G.2.1 + 264)] (pic G q6.2) n 0 0 := by
                intro j10 ej10
                subst ej10
                refine V_iconst (v := 3) d_X12_give_108 ic_3 ?_
                obtain ⟨q11, hq11, hf⟩ := ob hf
                refine B_callV1 (s_X12_throwsIf hG hq11) k_264 clX12 m_X12_throwsIf kv_RX12_263 d_X12_give_109 rfl (Nat.le_of_ble_eq_true rfl) ⟨rfl, rfl, Nat.le_of_ble_eq_true rfl, Nat.le_of_ble_eq_true rfl, Nat.le_of_ble_eq_true rfl⟩ (fun n => ?_)
                refine V_if_eq (tgt := 117) d_X12_give_112 (by decide) (fun c112 => ?_) (fun c112 => ?_)
                · replace hf := iteF (b2i_nt (b2i_eq0 c112)) hf
                  refine V_aload_n d_X12_give_117 rfl rfl ?_
                  obtain ⟨q12, hq12, hf⟩ := ob hf
                  refine B_callV0 (s_X12_remembers hG hq12) k_264 clX12 m_X12_remembers kv_RX12_339 d_X12_give_118 rfl (Nat.le_of_ble_eq_true rfl) ⟨rfl, rfl, Nat.le_of_ble_eq_true rfl, Nat.le_of_ble_eq_true rfl, Nat.le_of_ble_eq_true rfl⟩ (fun n => ?_)
                  refine V_aload_n d_X12_give_121 rfl rfl ?_
                  refine V_iload_n d_X12_give_122 rfl rfl ?_
                  refine V_iconst (v := 1) d_X12_give_123 ic_1 ?_
                  obtain ⟨t13, ht13, hf⟩ := ob hf
                  refine B_callV1 (s_X12_ofLace hG ht13) k_264 clX12 m_X12_ofLace kv_RX12_70 d_X12_give_124 rfl (Nat.le_of_ble_eq_true rfl) ⟨rfl, rfl, Nat.le_of_ble_eq_true rfl, Nat.le_of_ble_eq_true rfl, Nat.le_of_ble_eq_true rfl⟩ (fun n => ?_)
                  refine V_istore_n (ls' := [_, _, _, _]) d_X12_give_127 rfl rfl rfl ?_
                  refine V_aload_n d_X12_give_128 rfl rfl ?_
                  refine B_get k_264 fl_RX12_13 d_X12_give_129 g_12_1 ?_
                  refine V_iload_n d_X12_give_132 rfl rfl ?_
                  refine V_iconst (v := 0) d_X12_give_133 ic_0 ?_
                  obtain ⟨t14, ht14, hf⟩ := ob hf
                  refine B_callS1 (s_X12_at hG ht14) m_X12_at ks_RX12_63 d_X12_give_134 rfl (Nat.le_of_ble_eq_true rfl) ⟨rfl, rfl, Nat.le_of_ble_eq_true rfl, Nat.le_of_ble_eq_true rfl, Nat.le_of_ble_eq_true rfl⟩ (fun n => ?_)
                  refine V_dup2 d_X12_give_137 rfl rfl ?_
                  obtain ⟨t15, ht15, hf⟩ := ob hf
                  refine B_iald k_265 ht15 d_X12_give_138 ?_
                  refine V_aload_n d_X12_give_139 rfl rfl ?_
                  refine V_iload_n d_X12_give_140 rfl rfl ?_
                  refine V_iconst (v := 2) d_X12_give_141 ic_2 ?_
                  obtain ⟨t16, ht16, hf⟩ := ob hf
                  refine B_callV1 (s_X12_ofLace hG ht16) k_264 clX12 m_X12_ofLace kv_RX12_70 d_X12_give_142 rfl (Nat.le_of_ble_eq_true rfl) ⟨rfl, rfl, Nat.le_of_ble_eq_true rfl, Nat.le_of_ble_eq_true rfl, Nat.le_of_ble_eq_true rfl⟩ (fun n => ?_)
                  refine V_isub d_X12_give_145 ?_
                  obtain ⟨μ17, hμ17, hf⟩ := ob hf
                  refine B_iast k_265 hμ17 d_X12_give_146 ?_
                  refine V_aload_n d_X12_give_147 rfl rfl ?_
                  refine V_iload_n d_X12_give_148 rfl rfl ?_
                  refine V_aload_n d_X12_give_149 rfl rfl ?_
                  refine V_iload_n d_X12_give_150 rfl rfl ?_
                  refine V_iconst (v := 2) d_X12_give_151 ic_2 ?_
                  obtain ⟨t18, ht18, hf⟩ := ob hf
                  refine B_callV1 (s_X12_ofLace hG ht18) k_264 clX12 m_X12_ofLace kv_RX12_70 d_X12_give_152 rfl (Nat.le_of_ble_eq_true rfl) ⟨rfl, rfl, Nat.le_of_ble_eq_true rfl, Nat.le_of_ble_eq_true rfl, Nat.le_of_ble_eq_true rfl⟩ (fun n => ?_)
                  obtain ⟨q19, hq19, hf⟩ := ob hf
                  refine B_callV0 (s_X12_gets hG hq19) k_264 clX12 m_X12_gets kv_RX12_332 d_X12_give_155 rfl (Nat.le_of_ble_eq_true rfl) ⟨rfl, rfl, Nat.le_of_ble_eq_true rfl, Nat.le_of_ble_eq_true rfl, Nat.le_of_ble_eq_true rfl⟩ (fun n => ?_)
                  refine V_aload_n d_X12_give_158 rfl rfl ?_
                  refine B_get k_264 fl_RX12_13 d_X12_give_159 g_12_1 ?_
                  refine V_iload_n d_X12_give_162 rfl rfl ?_
                  refine V_iconst (v := 1) d_X12_give_163 ic_1 ?_
                  obtain ⟨t20, ht20, hf⟩ := ob hf
                  refine B_callS1 (s_X12_laceAt hG ht20) m_X12_laceAt ks_RX12_67 d_X12_give_164 rfl (Nat.le_of_ble_eq_true rfl) ⟨rfl, rfl, Nat.le_of_ble_eq_true rfl, Nat.le_of_ble_eq_true rfl, Nat.le_of_ble_eq_true rfl⟩ (fun n => ?_)
                  refine V_iload_n d_X12_give_167 rfl rfl ?_
                  obtain ⟨μ21, hμ21, hf⟩ := ob hf
                  refine B_iast k_265 hμ21 d_X12_give_168 ?_
                  refine V_iload_n d_X12_give_169 rfl rfl ?_
                  cases hf
                  exact R_i hK d_X12_give_170 (Nat.le_of_ble_eq_true rfl) (Nat.le_of_ble_eq_true rfl)
                · replace hf := iteT (b2i_ne0 c112) hf
                  refine V_iconst (v := 0) d_X12_give_115 ic_0 ?_
                  cases hf
                  exact R_i hK d_X12_give_116 (Nat.le_of_ble_eq_true rfl) (Nat.le_of_ble_eq_true rfl)
              refine V_icmp_ge (tgt := 107) d_X12_give_100 (by decide) (fun c100 => ?_) (fun c100 => ?_)
              · refine V_iconst (v := 0) d_X12_give_107 ic_0 ?_
                refine V_less (ls' := [some _, some _, some _, none]) ⟨rfl, rfl, rfl, trivial⟩ ?_
                exact hJj10 false (by rw [if_pos c100])
              · refine V_iconst (v := 1) d_X12_give_103 ic_1 ?_
                refine V_goto (tgt := 108) d_X12_give_104 (by decide) ?_
                refine V_less (ls' := [some _, some _, some _, none]) ⟨rfl, rfl, rfl, trivial⟩ ?_
                exact hJj10 true (by rw [if_neg c100])
          · replace hf := iteT (b2i_ne0 c74) hf
            refine V_iconst (v := 0) d_X12_give_77 ic_0 ?_
            cases hf
            exact R_i hK d_X12_give_78 (Nat.le_of_ble_eq_true rfl) (Nat.le_of_ble_eq_true rfl)
        refine V_icmp_ne (tgt := 69) d_X12_give_62 (by decide) (fun c62 => ?_) (fun c62 => ?_)
        · refine V_iconst (v := 0) d_X12_give_69 ic_0 ?_
          refine V_less (ls' := [some _, some _, some _, none]) ⟨rfl, rfl, rfl, trivial⟩ ?_
          exact hJj5 false (by rw [if_neg c62])
        · refine V_iconst (v := 1) d_X12_give_65 ic_1 ?_
          refine V_goto (tgt := 70) d_X12_give_66 (by decide) ?_
          refine V_less (ls' := [some _, some _, some _, none]) ⟨rfl, rfl, rfl, trivial⟩ ?_
          exact hJj5 true (by rw [if_pos c62])
  · replace hf := iteT (b2i_ne0 c31) hf
    refine V_iconst (v := 0) d_X12_give_34 ic_0 ?_
    cases hf
    exact R_i hK d_X12_give_35 (Nat.le_of_ble_eq_true rfl) (Nat.le_of_ble_eq_true rfl)
theorem s_X12_give_j22 {G : Gl} (hG : G.1.stackTraces = false) {C : Cx} {n : Nat} {μ : Mem} {l1 : Int32} {l2 : Int32} {r : (Int32 × Mem)} (hf : f_X12_give_j22 μ l1 l2 = some r) (hK : FinR G C F_X12_give (some .int) (some (.int r.1)) r.2) : V G C F_X12_give 22 [some (.ref (G.2.1 + 264)), some (.int l1), some (.int l2), none] [.ref (G.2.1 + 264)] (pic G μ) n 0 0 := by
  unfold f_X12_give_j22 at hf
  refine V_iconst (v := 1) d_X12_give_22 ic_1 ?_
  refine V_goto (tgt := 27) d_X12_give_23 (by decide) ?_
  refine V_less (ls' := [some _, some _, some _, none]) ⟨rfl, rfl, rfl, trivial⟩ ?_
  exact s_X12_give_j27 hG hf hK
theorem s_X12_give_e {G : Gl} (hG : G.1.stackTraces = false) {C : Cx} {n : Nat} {μ : Mem} {p1 : Int32} {p2 : Int32} {r : (Int32 × Mem)} (hf : f_X12_give μ p1 p2 = some r) (hK : FinR G C F_X12_give (some .int) (some (.int r.1)) r.2) : V G C F_X12_give 0 [some (.ref (G.2.1 + 264)), some (.int p1), some (.int p2), none] [] (pic G μ) n 0 0 := by
  unfold f_X12_give at hf
  refine V_aload_n d_X12_give_0 rfl rfl ?_
  refine V_iconst (v := 0) d_X12_give_1 ic_0 ?_
  refine B_putI k_264 fl_RX12_3 pt_12_0 (Nat.le_of_ble_eq_true rfl) p_12_0 d_X12_give_2 ?_
  refine V_aload_n d_X12_give_5 rfl rfl ?_
  refine V_aload_n d_X12_give_6 rfl rfl ?_
  refine V_iload_n d_X12_give_7 rfl rfl ?_
  obtain ⟨t1, ht1, hf⟩ := ob hf
  refine B_callV1 (s_X12_noLace hG ht1) k_264 clX12 m_X12_noLace kv_RX12_317 d_X12_give_8 rfl (Nat.le_of_ble_eq_true rfl) ⟨rfl, rfl, Nat.le_of_ble_eq_true rfl, Nat.le_of_ble_eq_true rfl, Nat.le_of_ble_eq_true rfl⟩ (fun n => ?_)
  refine V_if_ne (tgt := 22) d_X12_give_11 (by decide) (fun c11 => ?_) (fun c11 => ?_)
  · replace hf := iteT (b2i_ne0 c11) hf
    refine V_less (ls' := [some _, some _, some _, none]) ⟨rfl, rfl, rfl, trivial⟩ ?_
    exact s_X12_give_j22 hG hf hK
  · replace hf := iteF (b2i_nt (b2i_eq0 c11)) hf
    refine V_aload_n d_X12_give_14 rfl rfl ?_
    refine V_iload_n d_X12_give_15 rfl rfl ?_
    obtain ⟨t2, ht2, hf⟩ := ob hf
    refine B_callV1 (s_X12_noPerson hG ht2) k_264 clX12 m_X12_noPerson kv_RX12_305 d_X12_give_16 rfl (Nat.le_of_ble_eq_true rfl) ⟨rfl, rfl, Nat.le_of_ble_eq_true rfl, Nat.le_of_ble_eq_true rfl, Nat.le_of_ble_eq_true rfl⟩ (fun n => ?_)
    have hJj3 : ∀ j3 : Bool, j3 = (if t2 = true then (true : Bool) else false) → V G C F_X12_give 27 [some (.ref (G.2.1 + 264)), some (.int p1), some (.int p2), none] [.int (b2i j3), .ref (G.2.1 + 264)] (pic G (mset μ 264 0 0)) n 0 0 := by
      intro j3 ej3
      subst ej3
      refine V_iconst (v := 1) d_X12_give_27 ic_1 ?_
      obtain ⟨q4, hq4, hf⟩ := ob hf
      refine B_callV1 (s_X12_throwsIf hG hq4) k_264 clX12 m_X12_throwsIf kv_RX12_263 d_X12_give_28 rfl (Nat.le_of_ble_eq_true rfl) ⟨rfl, rfl, Nat.le_of_ble_eq_true rfl, Nat.le_of_ble_eq_true rfl, Nat.le_of_ble_eq_true rfl⟩ (fun n => ?_)
      refine V_if_eq (tgt := 36) d_X12_give_31 (by decide) (fun c31 => ?_) (fun c31 => ?_)
      · replace hf := iteF (b2i_nt (b2i_eq0 c31)) hf
        refine V_aload_n d_X12_give_36 rfl rfl ?_
        refine V_iload_n d_X12_give_37 rfl rfl ?_
        refine V_iload_n d_X12_give_38 rfl rfl ?_
        obtain ⟨t5, ht5, hf⟩ := ob hf
        refine B_callS1 (s_X12_ownerOf hG ht5) m_X12_ownerOf ks_RX12_144 d_X12_give_39 rfl (Nat.le_of_ble_eq_true rfl) ⟨rfl, rfl, Nat.le_of_ble_eq_true rfl, Nat.le_of_ble_eq_true rfl, Nat.le_of_ble_eq_true rfl⟩ (fun n => ?_)
        refine V_icmp_eq (tgt := 65) d_X12_give_42 (by decide) (fun c42 => ?_) (fun c42 => ?_)
        · replace hf := iteT c42 hf
          refine V_less (ls' := [some _, some _, some _, none]) ⟨rfl, rfl, rfl, trivial⟩ ?_
          exact s_X12_give_j65 hG hf hK
        · replace hf := iteF c42 hf
          refine V_iload_n d_X12_give_45 rfl rfl ?_
          refine V_aload_n d_X12_give_46 rfl rfl ?_
          refine V_iload_n d_X12_give_47 rfl rfl ?_
          refine V_iconst (v := 1) d_X12_give_48 ic_1 ?_
          obtain ⟨t6, ht6, hf⟩ := ob hf
          refine B_callV1 (s_X12_ofLace hG ht6) k_264 clX12 m_X12_ofLace kv_RX12_70 d_X12_give_49 rfl (Nat.le_of_ble_eq_true rfl) ⟨rfl, rfl, Nat.le_of_ble_eq_true rfl, Nat.le_of_ble_eq_true rfl, Nat.le_of_ble_eq_true rfl⟩ (fun n => ?_)
          refine V_icmp_eq (tgt := 65) d_X12_give_52 (by decide) (fun c52 => ?_) (fun c52 => ?_)
          · replace hf := iteT c52 hf
            refine V_less (ls' := [some _, some _, some _, none]) ⟨rfl, rfl, rfl, trivial⟩ ?_
            exact s_X12_give_j65 hG hf hK
          · replace hf := iteF c52 hf
            refine V_iload_n d_X12_give_55 rfl rfl ?_
            refine V_aload_n d_X12_give_56 rfl rfl ?_
            refine V_iload_n d_X12_give_57 rfl rfl ?_
            refine V_iconst (v := 5) d_X12_give_58 ic_5 ?_
            obtain ⟨t7, ht7, hf⟩ := ob hf
            refine B_callV1 (s_X12_ofLace hG ht7) k_264 clX12 m_X12_ofLace kv_RX12_70 d_X12_give_59 rfl (Nat.le_of_ble_eq_true rfl) ⟨rfl, rfl, Nat.le_of_ble_eq_true rfl, Nat.le_of_ble_eq_true rfl, Nat.le_of_ble_eq_true rfl⟩ (fun n => ?_)
            have hJj8 : ∀ j8 : Bool, j8 = (if p2 = t7 then (true : Bool) else false) → V G C F_X12_give 70 [some (.ref (G.2.1 + 264)), some (.int p1), some (.int p2), none] [.int (b2i j8), .ref (G.2.1 + 264)] (pic G q4.2) n 0 0 := by
              intro j8 ej8
              subst ej8
              refine V_iconst (v := 2) d_X12_give_70 ic_2 ?_
              obtain ⟨q9, hq9, hf⟩ := ob hf
              refine B_callV1 (s_X12_throwsIf hG hq9) k_264 clX12 m_X12_throwsIf kv_RX12_263 d_X12_give_71 rfl (Nat.le_of_ble_eq_true rfl) ⟨rfl, rfl, Nat.le_of_ble_eq_true rfl, Nat.le_of_ble_eq_true rfl, Nat.le_of_ble_eq_true rfl⟩ (fun n => ?_)
              refine V_if_eq (tgt := 79) d_X12_give_74 (by decide) (fun c74 => ?_) (fun c74 => ?_)
              · replace hf := iteF (b2i_nt (b2i_eq0 c74)) hf
                refine V_aload_n d_X12_give_79 rfl rfl ?_
                refine V_aload_n d_X12_give_80 rfl rfl ?_
                refine V_iload_n d_X12_give_81 rfl rfl ?_
                obtain ⟨t10, ht10, hf⟩ := ob hf
                refine B_callV1 (s_X12_isPledged hG ht10) k_264 clX12 m_X12_isPledged kv_RX12_296 d_X12_give_82 rfl (Nat.le_of_ble_eq_true rfl) ⟨rfl, rfl, Nat.le_of_ble_eq_true rfl, Nat.le_of_ble_eq_true rfl, Nat.le_of_ble_eq_true rfl⟩ (fun n => ?_)
                refine V_if_eq (tgt := 103) d_X12_give_85 (by decide) (fun c85 => ?_) (fun c85 => ?_)
                · replace hf := iteF (b2i_nt (b2i_eq0 c85)) hf
                  refine V_less (ls' := [some _, some _, some _, none]) ⟨rfl, rfl, rfl, trivial⟩ ?_
                  exact s_X12_give_j103 hG hf hK
                · replace hf := iteT (b2i_ne0 c85) hf
                  refine V_aload_n d_X12_give_88 rfl rfl ?_
                  refine V_iload_n d_X12_give_89 rfl rfl ?_
                  refine V_iconst (v := 0) d_X12_give_90 ic_0 ?_
                  obtain ⟨t11, ht11, hf⟩ := ob hf
                  refine B_callV1 (s_X12_of hG ht11) k_264 clX12 m_X12_of kv_RX12_84 d_X12_give_91 rfl (Nat.le_of_ble_eq_true rfl) ⟨rfl, rfl, Nat.le_of_ble_eq_true rfl, Nat.le_of_ble_eq_true rfl, Nat.le_of_ble_eq_true rfl⟩ (fun n => ?_)
                  refine V_aload_n d_X12_give_94 rfl rfl ?_
                  refine V_iload_n d_X12_give_95 rfl rfl ?_
                  refine V_iconst (v := 2) d_X12_give_96 ic_2 ?_
                  obtain ⟨t12, ht12, hf⟩ := ob hf
                  refine B_callV1 (s_X12_ofLace hG ht12) k_264 clX12 m_X12_ofLace kv_RX12_70 d_X12_give_97 rfl (Nat.le_of_ble_eq_true rfl) ⟨rfl, rfl, Nat.le_of_ble_eq_true rfl, Nat.le_of_ble_eq_true rfl, Nat.le_of_ble_eq_true rfl⟩ (fun n => ?_)
                  have hJj13 : ∀ j13 : Bool, j13 = (if t12 ≤ t11 then (false : Bool) else true) → V G C F_X12_give 108 [some (.ref (G.2.1 + 264)), some (.int p1), some (.int p2), none] [.int (b2i j13), .ref (G.2.1 + 264)] (pic G q9.2) n 0 0 := by
                    intro j13 ej13
                    subst ej13
                    refine V_iconst (v := 3) d_X12_give_108 ic_3 ?_
                    obtain ⟨q14, hq14, hf⟩ := ob hf
                    refine B_callV1 (s_X12_throwsIf hG hq14) k_264 clX12 m_X12_throwsIf kv_RX12_263 d_X12_give_109 rfl (Nat.le_of_ble_eq_true rfl) ⟨rfl, rfl, Nat.le_of_ble_eq_true rfl, Nat.le_of_ble_eq_true rfl, Nat.le_of_ble_eq_true rfl⟩ (fun n => ?_)
                    refine V_if_eq (tgt := 117) d_X12_give_112 (by decide) (fun c112 => ?_) (fun c112 => ?_)
                    · replace hf := iteF (b2i_nt (b2i_eq0 c112)) hf
                      refine V_aload_n d_X12_give_117 rfl rfl ?_
                      obtain ⟨q15, hq15, hf⟩ := ob hf
                      refine B_callV0 (s_X12_remembers hG hq15) k_264 clX12 m_X12_remembers kv_RX12_339 d_X12_give_118 rfl (Nat.le_of_ble_eq_true rfl) ⟨rfl, rfl, Nat.le_of_ble_eq_true rfl, Nat.le_of_ble_eq_true rfl, Nat.le_of_ble_eq_true rfl⟩ (fun n => ?_)
                      refine V_aload_n d_X12_give_121 rfl rfl ?_
                      refine V_iload_n d_X12_give_122 rfl rfl ?_
                      refine V_iconst (v := 1) d_X12_give_123 ic_1 ?_
                      obtain ⟨t16, ht16, hf⟩ := ob hf
                      refine B_callV1 (s_X12_ofLace hG ht16) k_264 clX12 m_X12_ofLace kv_RX12_70 d_X12_give_124 rfl (Nat.le_of_ble_eq_true rfl) ⟨rfl, rfl, Nat.le_of_ble_eq_true rfl, Nat.le_of_ble_eq_true rfl, Nat.le_of_ble_eq_true rfl⟩ (fun n => ?_)
                      refine V_istore_n (ls' := [_, _, _, _]) d_X12_give_127 rfl rfl rfl ?_
                      refine V_aload_n d_X12_give_128 rfl rfl ?_
                      refine B_get k_264 fl_RX12_13 d_X12_give_129 g_12_1 ?_
                      refine V_iload_n d_X12_give_132 rfl rfl ?_
                      refine V_iconst (v := 0) d_X12_give_133 ic_0 ?_
                      obtain ⟨t17, ht17, hf⟩ := ob hf
                      refine B_callS1 (s_X12_at hG ht17) m_X12_at ks_RX12_63 d_X12_give_134 rfl (Nat.le_of_ble_eq_true rfl) ⟨rfl, rfl, Nat.le_of_ble_eq_true rfl, Nat.le_of_ble_eq_true rfl, Nat.le_of_ble_eq_true rfl⟩ (fun n => ?_)
                      refine V_dup2 d_X12_give_137 rfl rfl ?_
                      obtain ⟨t18, ht18, hf⟩ := ob hf
                      refine B_iald k_265 ht18 d_X12_give_138 ?_
                      refine V_aload_n d_X12_give_139 rfl rfl ?_
                      refine V_iload_n d_X12_give_140 rfl rfl ?_
                      refine V_iconst (v := 2) d_X12_give_141 ic_2 ?_
                      obtain ⟨t19, ht19, hf⟩ := ob hf
                      refine B_callV1 (s_X12_ofLace hG ht19) k_264 clX12 m_X12_ofLace kv_RX12_70 d_X12_give_142 rfl (Nat.le_of_ble_eq_true rfl) ⟨rfl, rfl, Nat.le_of_ble_eq_true rfl, Nat.le_of_ble_eq_true rfl, Nat.le_of_ble_eq_true rfl⟩ (fun n => ?_)
                      refine V_isub d_X12_give_145 ?_
                      obtain ⟨μ20, hμ20, hf⟩ := ob hf
                      refine B_iast k_265 hμ20 d_X12_give_146 ?_
                      refine V_aload_n d_X12_give_147 rfl rfl ?_
                      refine V_iload_n d_X12_give_148 rfl rfl ?_
                      refine V_aload_n d_X12_give_149 rfl rfl ?_
                      refine V_iload_n d_X12_give_150 rfl rfl ?_
                      refine V_iconst (v := 2) d_X12_give_151 ic_2 ?_
                      obtain ⟨t21, ht21, hf⟩ := ob hf
                      refine B_callV1 (s_X12_ofLace hG ht21) k_264 clX12 m_X12_ofLace kv_RX12_70 d_X12_give_152 rfl (Nat.le_of_ble_eq_true rfl) ⟨rfl, rfl, Nat.le_of_ble_eq_true rfl, Nat.le_of_ble_eq_true rfl, Nat.le_of_ble_eq_true rfl⟩ (fun n => ?_)
                      obtain ⟨q22, hq22, hf⟩ := ob hf
                      refine B_callV0 (s_X12_gets hG hq22) k_264 clX12 m_X12_gets kv_RX12_332 d_X12_give_155 rfl (Nat.le_of_ble_eq_true rfl) ⟨rfl, rfl, Nat.le_of_ble_eq_true rfl, Nat.le_of_ble_eq_true rfl, Nat.le_of_ble_eq_true rfl⟩ (fun n => ?_)
                      refine V_aload_n d_X12_give_158 rfl rfl ?_
                      refine B_get k_264 fl_RX12_13 d_X12_give_159 g_12_1 ?_
                      refine V_iload_n d_X12_give_162 rfl rfl ?_
                      refine V_iconst (v := 1) d_X12_give_163 ic_1 ?_
                      obtain ⟨t23, ht23, hf⟩ := ob hf
                      refine B_callS1 (s_X12_laceAt hG ht23) m_X12_laceAt ks_RX12_67 d_X12_give_164 rfl (Nat.le_of_ble_eq_true rfl) ⟨rfl, rfl, Nat.le_of_ble_eq_true rfl, Nat.le_of_ble_eq_true rfl, Nat.le_of_ble_eq_true rfl⟩ (fun n => ?_)
                      refine V_iload_n d_X12_give_167 rfl rfl ?_
                      obtain ⟨μ24, hμ24, hf⟩ := ob hf
                      refine B_iast k_265 hμ24 d_X12_give_168 ?_
                      refine V_iload_n d_X12_give_169 rfl rfl ?_
                      cases hf
                      exact R_i hK d_X12_give_170 (Nat.le_of_ble_eq_true rfl) (Nat.le_of_ble_eq_true rfl)
                    · replace hf := iteT (b2i_ne0 c112) hf
                      refine V_iconst (v := 0) d_X12_give_115 ic_0 ?_
                      cases hf
                      exact R_i hK d_X12_give_116 (Nat.le_of_ble_eq_true rfl) (Nat.le_of_ble_eq_true rfl)
                  refine V_icmp_ge (tgt := 107) d_X12_give_100 (by decide) (fun c100 => ?_) (fun c100 => ?_)
                  · refine V_iconst (v := 0) d_X12_give_107 ic_0 ?_
                    refine V_less (ls' := [some _, some _, some _, none]) ⟨rfl, rfl, rfl, trivial⟩ ?_
                    exact hJj13 false (by rw [if_pos c100])
                  · refine V_iconst (v := 1) d_X12_give_103 ic_1 ?_
                    refine V_goto (tgt := 108) d_X12_give_104 (by decide) ?_
                    refine V_less (ls' := [some _, some _, some _, none]) ⟨rfl, rfl, rfl, trivial⟩ ?_
                    exact hJj13 true (by rw [if_neg c100])
              · replace hf := iteT (b2i_ne0 c74) hf
                refine V_iconst (v := 0) d_X12_give_77 ic_0 ?_
                cases hf
                exact R_i hK d_X12_give_78 (Nat.le_of_ble_eq_true rfl) (Nat.le_of_ble_eq_true rfl)
            refine V_icmp_ne (tgt := 69) d_X12_give_62 (by decide) (fun c62 => ?_) (fun c62 => ?_)
            · refine V_iconst (v := 0) d_X12_give_69 ic_0 ?_
              refine V_less (ls' := [some _, some _, some _, none]) ⟨rfl, rfl, rfl, trivial⟩ ?_
              exact hJj8 false (by rw [if_neg c62])
            · refine V_iconst (v := 1) d_X12_give_65 ic_1 ?_
              refine V_goto (tgt := 70) d_X12_give_66 (by decide) ?_
              refine V_less (ls' := [some _, some _, some _, none]) ⟨rfl, rfl, rfl, trivial⟩ ?_
              exact hJj8 true (by rw [if_pos c62])
      · replace hf := iteT (b2i_ne0 c31) hf
        refine V_iconst (v := 0) d_X12_give_34 ic_0 ?_
        cases hf
        exact R_i hK d_X12_give_35 (Nat.le_of_ble_eq_true rfl) (Nat.le_of_ble_eq_true rfl)
    refine V_if_eq (tgt := 26) d_X12_give_19 (by decide) (fun c19 => ?_) (fun c19 => ?_)
    · refine V_iconst (v := 0) d_X12_give_26 ic_0 ?_
      refine V_less (ls' := [some _, some _, some _, none]) ⟨rfl, rfl, rfl, trivial⟩ ?_
      exact hJj3 false (by rw [if_neg (b2i_nt (b2i_eq0 c19))])
    · refine V_iconst (v := 1) d_X12_give_22 ic_1 ?_
      refine V_goto (tgt := 27) d_X12_give_23 (by decide) ?_
      refine V_less (ls' := [some _, some _, some _, none]) ⟨rfl, rfl, rfl, trivial⟩ ?_
      exact hJj3 true (by rw [if_pos (b2i_ne0 c19)])
theorem s_X12_give {G : Gl} (hG : G.1.stackTraces = false) {μ : Mem} {p1 : Int32} {p2 : Int32} {r : (Int32 × Mem)} (hf : f_X12_give μ p1 p2 = some r) : Rt G yX12_give F_X12_give (some .int) [.ref (G.2.1 + 264), .int p1, .int p2] μ (some (.int r.1)) r.2 := fun n => Sd.of hG ⟨by decide +kernel, rfl, rfl⟩ rfl (Nat.le_of_ble_eq_true rfl) rfl (fun C hK => s_X12_give_e hG hf hK)
theorem d_X12_goal_0 : decode cX12_goal 0 = .ok (.aload_n 0, 1) := by decide +kernel
theorem d_X12_goal_1 : decode cX12_goal 1 = .ok (.iconst 0, 1) := by decide +kernel
theorem d_X12_goal_2 : decode cX12_goal 2 = .ok (.putfield 3, 3) := by decide +kernel
theorem d_X12_goal_5 : decode cX12_goal 5 = .ok (.aload_n 0, 1) := by decide +kernel
theorem d_X12_goal_6 : decode cX12_goal 6 = .ok (.aload_n 0, 1) := by decide +kernel
theorem d_X12_goal_7 : decode cX12_goal 7 = .ok (.iload_n 1, 1) := by decide +kernel
theorem d_X12_goal_8 : decode cX12_goal 8 = .ok (.invokevirtual 305, 3) := by decide +kernel
theorem d_X12_goal_11 : decode cX12_goal 11 = .ok (.ifCond .ne 10, 3) := by decide +kernel
theorem d_X12_goal_14 : decode cX12_goal 14 = .ok (.iload_n 2, 1) := by decide +kernel
theorem d_X12_goal_15 : decode cX12_goal 15 = .ok (.invokestatic 320, 3) := by decide +kernel
theorem d_X12_goal_18 : decode cX12_goal 18 = .ok (.ifCond .eq 7, 3) := by decide +kernel
theorem d_X12_goal_21 : decode cX12_goal 21 = .ok (.iconst 1, 1) := by decide +kernel
theorem d_X12_goal_22 : decode cX12_goal 22 = .ok (.goto 4, 3) := by decide +kernel
theorem d_X12_goal_25 : decode cX12_goal 25 = .ok (.iconst 0, 1) := by decide +kernel
theorem d_X12_goal_26 : decode cX12_goal 26 = .ok (.iconst 1, 1) := by decide +kernel
theorem d_X12_goal_27 : decode cX12_goal 27 = .ok (.invokevirtual 263, 3) := by decide +kernel
theorem d_X12_goal_30 : decode cX12_goal 30 = .ok (.ifCond .eq 5, 3) := by decide +kernel
theorem d_X12_goal_33 : decode cX12_goal 33 = .ok (.iconst 0, 1) := by decide +kernel
theorem d_X12_goal_34 : decode cX12_goal 34 = .ok (.ireturn, 1) := by decide +kernel
theorem d_X12_goal_35 : decode cX12_goal 35 = .ok (.aload_n 0, 1) := by decide +kernel
theorem d_X12_goal_36 : decode cX12_goal 36 = .ok (.invokevirtual 339, 3) := by decide +kernel
theorem d_X12_goal_39 : decode cX12_goal 39 = .ok (.aload_n 0, 1) := by decide +kernel
theorem d_X12_goal_40 : decode cX12_goal 40 = .ok (.iload_n 1, 1) := by decide +kernel
theorem d_X12_goal_41 : decode cX12_goal 41 = .ok (.iconst 3, 1) := by decide +kernel
theorem d_X12_goal_42 : decode cX12_goal 42 = .ok (.invokevirtual 84, 3) := by decide +kernel
theorem d_X12_goal_45 : decode cX12_goal 45 = .ok (.istore_n 3, 1) := by decide +kernel
theorem d_X12_goal_46 : decode cX12_goal 46 = .ok (.aload_n 0, 1) := by decide +kernel
theorem d_X12_goal_47 : decode cX12_goal 47 = .ok (.getfield 13, 3) := by decide +kernel
theorem d_X12_goal_50 : decode cX12_goal 50 = .ok (.iload_n 1, 1) := by decide +kernel
theorem d_X12_goal_51 : decode cX12_goal 51 = .ok (.iconst 3, 1) := by decide +kernel
theorem d_X12_goal_52 : decode cX12_goal 52 = .ok (.invokestatic 63, 3) := by decide +kernel
theorem d_X12_goal_55 : decode cX12_goal 55 = .ok (.iload_n 2, 1) := by decide +kernel
theorem d_X12_goal_56 : decode cX12_goal 56 = .ok (.iastore, 1) := by decide +kernel
theorem d_X12_goal_57 : decode cX12_goal 57 = .ok (.iload_n 3, 1) := by decide +kernel
theorem d_X12_goal_58 : decode cX12_goal 58 = .ok (.ireturn, 1) := by decide +kernel
theorem s_X12_goal_j26 {G : Gl} (hG : G.1.stackTraces = false) {C : Cx} {n : Nat} {μ : Mem} {l1 : Int32} {l2 : Int32} {k1 : Bool} {r : (Int32 × Mem)} (hf : f_X12_goal_j26 μ l1 l2 k1 = some r) (hK : FinR G C F_X12_goal (some .int) (some (.int r.1)) r.2) : V G C F_X12_goal 26 [some (.ref (G.2.1 + 264)), some (.int l1), some (.int l2), none] [.int (b2i k1), .ref (G.2.1 + 264)] (pic G μ) n 0 0 := by
  unfold f_X12_goal_j26 at hf
  refine V_iconst (v := 1) d_X12_goal_26 ic_1 ?_
  obtain ⟨q1, hq1, hf⟩ := ob hf
  refine B_callV1 (s_X12_throwsIf hG hq1) k_264 clX12 m_X12_throwsIf kv_RX12_263 d_X12_goal_27 rfl (Nat.le_of_ble_eq_true rfl) ⟨rfl, rfl, Nat.le_of_ble_eq_true rfl, Nat.le_of_ble_eq_true rfl, Nat.le_of_ble_eq_true rfl⟩ (fun n => ?_)
  refine V_if_eq (tgt := 35) d_X12_goal_30 (by decide) (fun c30 => ?_) (fun c30 => ?_)
  · replace hf := iteF (b2i_nt (b2i_eq0 c30)) hf
    refine V_aload_n d_X12_goal_35 rfl rfl ?_
    obtain ⟨q2, hq2, hf⟩ := ob hf
    refine B_callV0 (s_X12_remembers hG hq2) k_264 clX12 m_X12_remembers kv_RX12_339 d_X12_goal_36 rfl (Nat.le_of_ble_eq_true rfl) ⟨rfl, rfl, Nat.le_of_ble_eq_true rfl, Nat.le_of_ble_eq_true rfl, Nat.le_of_ble_eq_true rfl⟩ (fun n => ?_)
    refine V_aload_n d_X12_goal_39 rfl rfl ?_
    refine V_iload_n d_X12_goal_40 rfl rfl ?_
    refine V_iconst (v := 3) d_X12_goal_41 ic_3 ?_
    obtain ⟨t3, ht3, hf⟩ := ob hf
    refine B_callV1 (s_X12_of hG ht3) k_264 clX12 m_X12_of kv_RX12_84 d_X12_goal_42 rfl (Nat.le_of_ble_eq_true rfl) ⟨rfl, rfl, Nat.le_of_ble_eq_true rfl, Nat.le_of_ble_eq_true rfl, Nat.le_of_ble_eq_true rfl⟩ (fun n => ?_)
    refine V_istore_n (ls' := [_, _, _, _]) d_X12_goal_45 rfl rfl rfl ?_
    refine V_aload_n d_X12_goal_46 rfl rfl ?_
    refine B_get k_264 fl_RX12_13 d_X12_goal_47 g_12_1 ?_
    refine V_iload_n d_X12_goal_50 rfl rfl ?_
    refine V_iconst (v := 3) d_X12_goal_51 ic_3 ?_
    obtain ⟨t4, ht4, hf⟩ := ob hf
    refine B_callS1 (s_X12_at hG ht4) m_X12_at ks_RX12_63 d_X12_goal_52 rfl (Nat.le_of_ble_eq_true rfl) ⟨rfl, rfl, Nat.le_of_ble_eq_true rfl, Nat.le_of_ble_eq_true rfl, Nat.le_of_ble_eq_true rfl⟩ (fun n => ?_)
    refine V_iload_n d_X12_goal_55 rfl rfl ?_
    obtain ⟨μ5, hμ5, hf⟩ := ob hf
    refine B_iast k_265 hμ5 d_X12_goal_56 ?_
    refine V_iload_n d_X12_goal_57 rfl rfl ?_
    cases hf
    exact R_i hK d_X12_goal_58 (Nat.le_of_ble_eq_true rfl) (Nat.le_of_ble_eq_true rfl)
  · replace hf := iteT (b2i_ne0 c30) hf
    refine V_iconst (v := 0) d_X12_goal_33 ic_0 ?_
    cases hf
    exact R_i hK d_X12_goal_34 (Nat.le_of_ble_eq_true rfl) (Nat.le_of_ble_eq_true rfl)
theorem s_X12_goal_j21 {G : Gl} (hG : G.1.stackTraces = false) {C : Cx} {n : Nat} {μ : Mem} {l1 : Int32} {l2 : Int32} {r : (Int32 × Mem)} (hf : f_X12_goal_j21 μ l1 l2 = some r) (hK : FinR G C F_X12_goal (some .int) (some (.int r.1)) r.2) : V G C F_X12_goal 21 [some (.ref (G.2.1 + 264)), some (.int l1), some (.int l2), none] [.ref (G.2.1 + 264)] (pic G μ) n 0 0 := by
  unfold f_X12_goal_j21 at hf
  refine V_iconst (v := 1) d_X12_goal_21 ic_1 ?_
  refine V_goto (tgt := 26) d_X12_goal_22 (by decide) ?_
  refine V_less (ls' := [some _, some _, some _, none]) ⟨rfl, rfl, rfl, trivial⟩ ?_
  exact s_X12_goal_j26 hG hf hK
theorem s_X12_goal_e {G : Gl} (hG : G.1.stackTraces = false) {C : Cx} {n : Nat} {μ : Mem} {p1 : Int32} {p2 : Int32} {r : (Int32 × Mem)} (hf : f_X12_goal μ p1 p2 = some r) (hK : FinR G C F_X12_goal (some .int) (some (.int r.1)) r.2) : V G C F_X12_goal 0 [some (.ref (G.2.1 + 264)), some (.int p1), some (.int p2), none] [] (pic G μ) n 0 0 := by
  unfold f_X12_goal at hf
  refine V_aload_n d_X12_goal_0 rfl rfl ?_
  refine V_iconst (v := 0) d_X12_goal_1 ic_0 ?_
  refine B_putI k_264 fl_RX12_3 pt_12_0 (Nat.le_of_ble_eq_true rfl) p_12_0 d_X12_goal_2 ?_
  refine V_aload_n d_X12_goal_5 rfl rfl ?_
  refine V_aload_n d_X12_goal_6 rfl rfl ?_
  refine V_iload_n d_X12_goal_7 rfl rfl ?_
  obtain ⟨t1, ht1, hf⟩ := ob hf
  refine B_callV1 (s_X12_noPerson hG ht1) k_264 clX12 m_X12_noPerson kv_RX12_305 d_X12_goal_8 rfl (Nat.le_of_ble_eq_true rfl) ⟨rfl, rfl, Nat.le_of_ble_eq_true rfl, Nat.le_of_ble_eq_true rfl, Nat.le_of_ble_eq_true rfl⟩ (fun n => ?_)
  refine V_if_ne (tgt := 21) d_X12_goal_11 (by decide) (fun c11 => ?_) (fun c11 => ?_)
  · replace hf := iteT (b2i_ne0 c11) hf
    refine V_less (ls' := [some _, some _, some _, none]) ⟨rfl, rfl, rfl, trivial⟩ ?_
    exact s_X12_goal_j21 hG hf hK
  · replace hf := iteF (b2i_nt (b2i_eq0 c11)) hf
    refine V_iload_n d_X12_goal_14 rfl rfl ?_
    obtain ⟨t2, ht2, hf⟩ := ob hf
    refine B_callS1 (s_X12_noPlace hG ht2) m_X12_noPlace ks_RX12_320 d_X12_goal_15 rfl (Nat.le_of_ble_eq_true rfl) ⟨rfl, rfl, Nat.le_of_ble_eq_true rfl, Nat.le_of_ble_eq_true rfl, Nat.le_of_ble_eq_true rfl⟩ (fun n => ?_)
    have hJj3 : ∀ j3 : Bool, j3 = (if t2 = true then (true : Bool) else false) → V G C F_X12_goal 26 [some (.ref (G.2.1 + 264)), some (.int p1), some (.int p2), none] [.int (b2i j3), .ref (G.2.1 + 264)] (pic G (mset μ 264 0 0)) n 0 0 := by
      intro j3 ej3
      subst ej3
      refine V_iconst (v := 1) d_X12_goal_26 ic_1 ?_
      obtain ⟨q4, hq4, hf⟩ := ob hf
      refine B_callV1 (s_X12_throwsIf hG hq4) k_264 clX12 m_X12_throwsIf kv_RX12_263 d_X12_goal_27 rfl (Nat.le_of_ble_eq_true rfl) ⟨rfl, rfl, Nat.le_of_ble_eq_true rfl, Nat.le_of_ble_eq_true rfl, Nat.le_of_ble_eq_true rfl⟩ (fun n => ?_)
      refine V_if_eq (tgt := 35) d_X12_goal_30 (by decide) (fun c30 => ?_) (fun c30 => ?_)
      · replace hf := iteF (b2i_nt (b2i_eq0 c30)) hf
        refine V_aload_n d_X12_goal_35 rfl rfl ?_
        obtain ⟨q5, hq5, hf⟩ := ob hf
        refine B_callV0 (s_X12_remembers hG hq5) k_264 clX12 m_X12_remembers kv_RX12_339 d_X12_goal_36 rfl (Nat.le_of_ble_eq_true rfl) ⟨rfl, rfl, Nat.le_of_ble_eq_true rfl, Nat.le_of_ble_eq_true rfl, Nat.le_of_ble_eq_true rfl⟩ (fun n => ?_)
        refine V_aload_n d_X12_goal_39 rfl rfl ?_
        refine V_iload_n d_X12_goal_40 rfl rfl ?_
        refine V_iconst (v := 3) d_X12_goal_41 ic_3 ?_
        obtain ⟨t6, ht6, hf⟩ := ob hf
        refine B_callV1 (s_X12_of hG ht6) k_264 clX12 m_X12_of kv_RX12_84 d_X12_goal_42 rfl (Nat.le_of_ble_eq_true rfl) ⟨rfl, rfl, Nat.le_of_ble_eq_true rfl, Nat.le_of_ble_eq_true rfl, Nat.le_of_ble_eq_true rfl⟩ (fun n => ?_)
        refine V_istore_n (ls' := [_, _, _, _]) d_X12_goal_45 rfl rfl rfl ?_
        refine V_aload_n d_X12_goal_46 rfl rfl ?_
        refine B_get k_264 fl_RX12_13 d_X12_goal_47 g_12_1 ?_
        refine V_iload_n d_X12_goal_50 rfl rfl ?_
        refine V_iconst (v := 3) d_X12_goal_51 ic_3 ?_
        obtain ⟨t7, ht7, hf⟩ := ob hf
        refine B_callS1 (s_X12_at hG ht7) m_X12_at ks_RX12_63 d_X12_goal_52 rfl (Nat.le_of_ble_eq_true rfl) ⟨rfl, rfl, Nat.le_of_ble_eq_true rfl, Nat.le_of_ble_eq_true rfl, Nat.le_of_ble_eq_true rfl⟩ (fun n => ?_)
        refine V_iload_n d_X12_goal_55 rfl rfl ?_
        obtain ⟨μ8, hμ8, hf⟩ := ob hf
        refine B_iast k_265 hμ8 d_X12_goal_56 ?_
        refine V_iload_n d_X12_goal_57 rfl rfl ?_
        cases hf
        exact R_i hK d_X12_goal_58 (Nat.le_of_ble_eq_true rfl) (Nat.le_of_ble_eq_true rfl)
      · replace hf := iteT (b2i_ne0 c30) hf
        refine V_iconst (v := 0) d_X12_goal_33 ic_0 ?_
        cases hf
        exact R_i hK d_X12_goal_34 (Nat.le_of_ble_eq_true rfl) (Nat.le_of_ble_eq_true rfl)
    refine V_if_eq (tgt := 25) d_X12_goal_18 (by decide) (fun c18 => ?_) (fun c18 => ?_)
    · refine V_iconst (v := 0) d_X12_goal_25 ic_0 ?_
      refine V_less (ls' := [some _, some _, some _, none]) ⟨rfl, rfl, rfl, trivial⟩ ?_
      exact hJj3 false (by rw [if_neg (b2i_nt (b2i_eq0 c18))])
    · refine V_iconst (v := 1) d_X12_goal_21 ic_1 ?_
      refine V_goto (tgt := 26) d_X12_goal_22 (by decide) ?_
      refine V_less (ls' := [some _, some _, some _, none]) ⟨rfl, rfl, rfl, trivial⟩ ?_
      exact hJj3 true (by rw [if_pos (b2i_ne0 c18)])
theorem s_X12_goal {G : Gl} (hG : G.1.stackTraces = false) {μ : Mem} {p1 : Int32} {p2 : Int32} {r : (Int32 × Mem)} (hf : f_X12_goal μ p1 p2 = some r) : Rt G yX12_goal F_X12_goal (some .int) [.ref (G.2.1 + 264), .int p1, .int p2] μ (some (.int r.1)) r.2 := fun n => Sd.of hG ⟨by decide +kernel, rfl, rfl⟩ rfl (Nat.le_of_ble_eq_true rfl) rfl (fun C hK => s_X12_goal_e hG hf hK)
theorem d_X12_rest_0 : decode cX12_rest 0 = .ok (.aload_n 0, 1) := by decide +kernel
theorem d_X12_rest_1 : decode cX12_rest 1 = .ok (.iconst 0, 1) := by decide +kernel
theorem d_X12_rest_2 : decode cX12_rest 2 = .ok (.putfield 3, 3) := by decide +kernel
theorem d_X12_rest_5 : decode cX12_rest 5 = .ok (.aload_n 0, 1) := by decide +kernel
theorem d_X12_rest_6 : decode cX12_rest 6 = .ok (.aload_n 0, 1) := by decide +kernel
theorem d_X12_rest_7 : decode cX12_rest 7 = .ok (.iload_n 1, 1) := by decide +kernel
theorem d_X12_rest_8 : decode cX12_rest 8 = .ok (.invokevirtual 305, 3) := by decide +kernel
theorem d_X12_rest_11 : decode cX12_rest 11 = .ok (.iconst 1, 1) := by decide +kernel
theorem d_X12_rest_12 : decode cX12_rest 12 = .ok (.invokevirtual 263, 3) := by decide +kernel
theorem d_X12_rest_15 : decode cX12_rest 15 = .ok (.ifCond .eq 5, 3) := by decide +kernel
theorem d_X12_rest_18 : decode cX12_rest 18 = .ok (.iconst 0, 1) := by decide +kernel
theorem d_X12_rest_19 : decode cX12_rest 19 = .ok (.ireturn, 1) := by decide +kernel
theorem d_X12_rest_20 : decode cX12_rest 20 = .ok (.aload_n 0, 1) := by decide +kernel
theorem d_X12_rest_21 : decode cX12_rest 21 = .ok (.invokevirtual 339, 3) := by decide +kernel
theorem d_X12_rest_24 : decode cX12_rest 24 = .ok (.aload_n 0, 1) := by decide +kernel
theorem d_X12_rest_25 : decode cX12_rest 25 = .ok (.iload_n 1, 1) := by decide +kernel
theorem d_X12_rest_26 : decode cX12_rest 26 = .ok (.iconst 4, 1) := by decide +kernel
theorem d_X12_rest_27 : decode cX12_rest 27 = .ok (.invokevirtual 84, 3) := by decide +kernel
theorem d_X12_rest_30 : decode cX12_rest 30 = .ok (.istore_n 2, 1) := by decide +kernel
theorem d_X12_rest_31 : decode cX12_rest 31 = .ok (.aload_n 0, 1) := by decide +kernel
theorem d_X12_rest_32 : decode cX12_rest 32 = .ok (.getfield 13, 3) := by decide +kernel
theorem d_X12_rest_35 : decode cX12_rest 35 = .ok (.iload_n 1, 1) := by decide +kernel
theorem d_X12_rest_36 : decode cX12_rest 36 = .ok (.iconst 4, 1) := by decide +kernel
theorem d_X12_rest_37 : decode cX12_rest 37 = .ok (.invokestatic 63, 3) := by decide +kernel
theorem d_X12_rest_40 : decode cX12_rest 40 = .ok (.iconst 0, 1) := by decide +kernel
theorem d_X12_rest_41 : decode cX12_rest 41 = .ok (.iastore, 1) := by decide +kernel
theorem d_X12_rest_42 : decode cX12_rest 42 = .ok (.iload_n 2, 1) := by decide +kernel
theorem d_X12_rest_43 : decode cX12_rest 43 = .ok (.ireturn, 1) := by decide +kernel
theorem s_X12_rest_e {G : Gl} (hG : G.1.stackTraces = false) {C : Cx} {n : Nat} {μ : Mem} {p1 : Int32} {r : (Int32 × Mem)} (hf : f_X12_rest μ p1 = some r) (hK : FinR G C F_X12_rest (some .int) (some (.int r.1)) r.2) : V G C F_X12_rest 0 [some (.ref (G.2.1 + 264)), some (.int p1), none] [] (pic G μ) n 0 0 := by
  unfold f_X12_rest at hf
  refine V_aload_n d_X12_rest_0 rfl rfl ?_
  refine V_iconst (v := 0) d_X12_rest_1 ic_0 ?_
  refine B_putI k_264 fl_RX12_3 pt_12_0 (Nat.le_of_ble_eq_true rfl) p_12_0 d_X12_rest_2 ?_
  refine V_aload_n d_X12_rest_5 rfl rfl ?_
  refine V_aload_n d_X12_rest_6 rfl rfl ?_
  refine V_iload_n d_X12_rest_7 rfl rfl ?_
  obtain ⟨t1, ht1, hf⟩ := ob hf
  refine B_callV1 (s_X12_noPerson hG ht1) k_264 clX12 m_X12_noPerson kv_RX12_305 d_X12_rest_8 rfl (Nat.le_of_ble_eq_true rfl) ⟨rfl, rfl, Nat.le_of_ble_eq_true rfl, Nat.le_of_ble_eq_true rfl, Nat.le_of_ble_eq_true rfl⟩ (fun n => ?_)
  refine V_iconst (v := 1) d_X12_rest_11 ic_1 ?_
  obtain ⟨q2, hq2, hf⟩ := ob hf
  refine B_callV1 (s_X12_throwsIf hG hq2) k_264 clX12 m_X12_throwsIf kv_RX12_263 d_X12_rest_12 rfl (Nat.le_of_ble_eq_true rfl) ⟨rfl, rfl, Nat.le_of_ble_eq_true rfl, Nat.le_of_ble_eq_true rfl, Nat.le_of_ble_eq_true rfl⟩ (fun n => ?_)
  refine V_if_eq (tgt := 20) d_X12_rest_15 (by decide) (fun c15 => ?_) (fun c15 => ?_)
  · replace hf := iteF (b2i_nt (b2i_eq0 c15)) hf
    refine V_aload_n d_X12_rest_20 rfl rfl ?_
    obtain ⟨q3, hq3, hf⟩ := ob hf
    refine B_callV0 (s_X12_remembers hG hq3) k_264 clX12 m_X12_remembers kv_RX12_339 d_X12_rest_21 rfl (Nat.le_of_ble_eq_true rfl) ⟨rfl, rfl, Nat.le_of_ble_eq_true rfl, Nat.le_of_ble_eq_true rfl, Nat.le_of_ble_eq_true rfl⟩ (fun n => ?_)
    refine V_aload_n d_X12_rest_24 rfl rfl ?_
    refine V_iload_n d_X12_rest_25 rfl rfl ?_
    refine V_iconst (v := 4) d_X12_rest_26 ic_4 ?_
    obtain ⟨t4, ht4, hf⟩ := ob hf
    refine B_callV1 (s_X12_of hG ht4) k_264 clX12 m_X12_of kv_RX12_84 d_X12_rest_27 rfl (Nat.le_of_ble_eq_true rfl) ⟨rfl, rfl, Nat.le_of_ble_eq_true rfl, Nat.le_of_ble_eq_true rfl, Nat.le_of_ble_eq_true rfl⟩ (fun n => ?_)
    refine V_istore_n (ls' := [_, _, _]) d_X12_rest_30 rfl rfl rfl ?_
    refine V_aload_n d_X12_rest_31 rfl rfl ?_
    refine B_get k_264 fl_RX12_13 d_X12_rest_32 g_12_1 ?_
    refine V_iload_n d_X12_rest_35 rfl rfl ?_
    refine V_iconst (v := 4) d_X12_rest_36 ic_4 ?_
    obtain ⟨t5, ht5, hf⟩ := ob hf
    refine B_callS1 (s_X12_at hG ht5) m_X12_at ks_RX12_63 d_X12_rest_37 rfl (Nat.le_of_ble_eq_true rfl) ⟨rfl, rfl, Nat.le_of_ble_eq_true rfl, Nat.le_of_ble_eq_true rfl, Nat.le_of_ble_eq_true rfl⟩ (fun n => ?_)
    refine V_iconst (v := 0) d_X12_rest_40 ic_0 ?_
    obtain ⟨μ6, hμ6, hf⟩ := ob hf
    refine B_iast k_265 hμ6 d_X12_rest_41 ?_
    refine V_iload_n d_X12_rest_42 rfl rfl ?_
    cases hf
    exact R_i hK d_X12_rest_43 (Nat.le_of_ble_eq_true rfl) (Nat.le_of_ble_eq_true rfl)
  · replace hf := iteT (b2i_ne0 c15) hf
    refine V_iconst (v := 0) d_X12_rest_18 ic_0 ?_
    cases hf
    exact R_i hK d_X12_rest_19 (Nat.le_of_ble_eq_true rfl) (Nat.le_of_ble_eq_true rfl)
theorem s_X12_rest {G : Gl} (hG : G.1.stackTraces = false) {μ : Mem} {p1 : Int32} {r : (Int32 × Mem)} (hf : f_X12_rest μ p1 = some r) : Rt G yX12_rest F_X12_rest (some .int) [.ref (G.2.1 + 264), .int p1] μ (some (.int r.1)) r.2 := fun n => Sd.of hG ⟨by decide +kernel, rfl, rfl⟩ rfl (Nat.le_of_ble_eq_true rfl) rfl (fun C hK => s_X12_rest_e hG hf hK)
theorem d_X12_falls_0 : decode cX12_falls 0 = .ok (.aload_n 0, 1) := by decide +kernel
theorem d_X12_falls_1 : decode cX12_falls 1 = .ok (.getfield 13, 3) := by decide +kernel
theorem d_X12_falls_4 : decode cX12_falls 4 = .ok (.iload_n 1, 1) := by decide +kernel
theorem d_X12_falls_5 : decode cX12_falls 5 = .ok (.iconst 0, 1) := by decide +kernel
theorem d_X12_falls_6 : decode cX12_falls 6 = .ok (.invokestatic 63, 3) := by decide +kernel
theorem d_X12_falls_9 : decode cX12_falls 9 = .ok (.iconst 0, 1) := by decide +kernel
theorem d_X12_falls_10 : decode cX12_falls 10 = .ok (.aload_n 0, 1) := by decide +kernel
theorem d_X12_falls_11 : decode cX12_falls 11 = .ok (.iload_n 1, 1) := by decide +kernel
theorem d_X12_falls_12 : decode cX12_falls 12 = .ok (.iconst 0, 1) := by decide +kernel
theorem d_X12_falls_13 : decode cX12_falls 13 = .ok (.invokevirtual 84, 3) := by decide +kernel
theorem d_X12_falls_16 : decode cX12_falls 16 = .ok (.aload_n 0, 1) := by decide +kernel
theorem d_X12_falls_17 : decode cX12_falls 17 = .ok (.getfield 13, 3) := by decide +kernel
theorem d_X12_falls_20 : decode cX12_falls 20 = .ok (.iconst 4, 1) := by decide +kernel
theorem d_X12_falls_21 : decode cX12_falls 21 = .ok (.iaload, 1) := by decide +kernel
theorem d_X12_falls_22 : decode cX12_falls 22 = .ok (.isub, 1) := by decide +kernel
theorem d_X12_falls_23 : decode cX12_falls 23 = .ok (.invokestatic 293, 3) := by decide +kernel
theorem d_X12_falls_26 : decode cX12_falls 26 = .ok (.iastore, 1) := by decide +kernel
theorem d_X12_falls_27 : decode cX12_falls 27 = .ok (.aload_n 0, 1) := by decide +kernel
theorem d_X12_falls_28 : decode cX12_falls 28 = .ok (.getfield 13, 3) := by decide +kernel
theorem d_X12_falls_31 : decode cX12_falls 31 = .ok (.iload_n 1, 1) := by decide +kernel
theorem d_X12_falls_32 : decode cX12_falls 32 = .ok (.iconst 4, 1) := by decide +kernel
theorem d_X12_falls_33 : decode cX12_falls 33 = .ok (.invokestatic 63, 3) := by decide +kernel
theorem d_X12_falls_36 : decode cX12_falls 36 = .ok (.bipush 9, 2) := by decide +kernel
theorem d_X12_falls_38 : decode cX12_falls 38 = .ok (.aload_n 0, 1) := by decide +kernel
theorem d_X12_falls_39 : decode cX12_falls 39 = .ok (.iload_n 1, 1) := by decide +kernel
theorem d_X12_falls_40 : decode cX12_falls 40 = .ok (.iconst 4, 1) := by decide +kernel
theorem d_X12_falls_41 : decode cX12_falls 41 = .ok (.invokevirtual 84, 3) := by decide +kernel
theorem d_X12_falls_44 : decode cX12_falls 44 = .ok (.iconst 1, 1) := by decide +kernel
theorem d_X12_falls_45 : decode cX12_falls 45 = .ok (.iadd, 1) := by decide +kernel
theorem d_X12_falls_46 : decode cX12_falls 46 = .ok (.invokestatic 87, 3) := by decide +kernel
theorem d_X12_falls_49 : decode cX12_falls 49 = .ok (.iastore, 1) := by decide +kernel
theorem d_X12_falls_50 : decode cX12_falls 50 = .ok (.aload_n 0, 1) := by decide +kernel
theorem d_X12_falls_51 : decode cX12_falls 51 = .ok (.getfield 13, 3) := by decide +kernel
theorem d_X12_falls_54 : decode cX12_falls 54 = .ok (.iconst 5, 1) := by decide +kernel
theorem d_X12_falls_55 : decode cX12_falls 55 = .ok (.dup2, 1) := by decide +kernel
theorem d_X12_falls_56 : decode cX12_falls 56 = .ok (.iaload, 1) := by decide +kernel
theorem d_X12_falls_57 : decode cX12_falls 57 = .ok (.iconst 1, 1) := by decide +kernel
theorem d_X12_falls_58 : decode cX12_falls 58 = .ok (.iadd, 1) := by decide +kernel
theorem d_X12_falls_59 : decode cX12_falls 59 = .ok (.iastore, 1) := by decide +kernel
theorem d_X12_falls_60 : decode cX12_falls 60 = .ok (.return_, 1) := by decide +kernel
theorem s_X12_falls_e {G : Gl} (hG : G.1.stackTraces = false) {C : Cx} {n : Nat} {μ : Mem} {p1 : Int32} {r : Mem} (hf : f_X12_falls μ p1 = some r) (hK : FinR G C F_X12_falls none none r) : V G C F_X12_falls 0 [some (.ref (G.2.1 + 264)), some (.int p1)] [] (pic G μ) n 0 0 := by
  unfold f_X12_falls at hf
  refine V_aload_n d_X12_falls_0 rfl rfl ?_
  refine B_get k_264 fl_RX12_13 d_X12_falls_1 g_12_1 ?_
  refine V_iload_n d_X12_falls_4 rfl rfl ?_
  refine V_iconst (v := 0) d_X12_falls_5 ic_0 ?_
  obtain ⟨t1, ht1, hf⟩ := ob hf
  refine B_callS1 (s_X12_at hG ht1) m_X12_at ks_RX12_63 d_X12_falls_6 rfl (Nat.le_of_ble_eq_true rfl) ⟨rfl, rfl, Nat.le_of_ble_eq_true rfl, Nat.le_of_ble_eq_true rfl, Nat.le_of_ble_eq_true rfl⟩ (fun n => ?_)
  refine V_iconst (v := 0) d_X12_falls_9 ic_0 ?_
  refine V_aload_n d_X12_falls_10 rfl rfl ?_
  refine V_iload_n d_X12_falls_11 rfl rfl ?_
  refine V_iconst (v := 0) d_X12_falls_12 ic_0 ?_
  obtain ⟨t2, ht2, hf⟩ := ob hf
  refine B_callV1 (s_X12_of hG ht2) k_264 clX12 m_X12_of kv_RX12_84 d_X12_falls_13 rfl (Nat.le_of_ble_eq_true rfl) ⟨rfl, rfl, Nat.le_of_ble_eq_true rfl, Nat.le_of_ble_eq_true rfl, Nat.le_of_ble_eq_true rfl⟩ (fun n => ?_)
  refine V_aload_n d_X12_falls_16 rfl rfl ?_
  refine B_get k_264 fl_RX12_13 d_X12_falls_17 g_12_1 ?_
  refine V_iconst (v := 4) d_X12_falls_20 ic_4 ?_
  obtain ⟨t3, ht3, hf⟩ := ob hf
  refine B_iald k_265 ht3 d_X12_falls_21 ?_
  refine V_isub d_X12_falls_22 ?_
  obtain ⟨t4, ht4, hf⟩ := ob hf
  refine B_callS1 (s_J9_max_7cf53 hG ht4) m_J9_max_7cf53 ks_RX12_293 d_X12_falls_23 rfl (Nat.le_of_ble_eq_true rfl) ⟨rfl, rfl, Nat.le_of_ble_eq_true rfl, Nat.le_of_ble_eq_true rfl, Nat.le_of_ble_eq_true rfl⟩ (fun n => ?_)
  obtain ⟨μ5, hμ5, hf⟩ := ob hf
  refine B_iast k_265 hμ5 d_X12_falls_26 ?_
  refine V_aload_n d_X12_falls_27 rfl rfl ?_
  refine B_get k_264 fl_RX12_13 d_X12_falls_28 g_12_1 ?_
  refine V_iload_n d_X12_falls_31 rfl rfl ?_
  refine V_iconst (v := 4) d_X12_falls_32 ic_4 ?_
  obtain ⟨t6, ht6, hf⟩ := ob hf
  refine B_callS1 (s_X12_at hG ht6) m_X12_at ks_RX12_63 d_X12_falls_33 rfl (Nat.le_of_ble_eq_true rfl) ⟨rfl, rfl, Nat.le_of_ble_eq_true rfl, Nat.le_of_ble_eq_true rfl, Nat.le_of_ble_eq_true rfl⟩ (fun n => ?_)
  refine V_bipush (v := 9) d_X12_falls_36 bp_9 ?_
  refine V_aload_n d_X12_falls_38 rfl rfl ?_
  refine V_iload_n d_X12_falls_39 rfl rfl ?_
  refine V_iconst (v := 4) d_X12_falls_40 ic_4 ?_
  obtain ⟨t7, ht7, hf⟩ := ob hf
  refine B_callV1 (s_X12_of hG ht7) k_264 clX12 m_X12_of kv_RX12_84 d_X12_falls_41 rfl (Nat.le_of_ble_eq_true rfl) ⟨rfl, rfl, Nat.le_of_ble_eq_true rfl, Nat.le_of_ble_eq_true rfl, Nat.le_of_ble_eq_true rfl⟩ (fun n => ?_)
  refine V_iconst (v := 1) d_X12_falls_44 ic_1 ?_
  refine V_iadd d_X12_falls_45 ?_
  obtain ⟨t8, ht8, hf⟩ := ob hf
  refine B_callS1 (s_J9_min_7cf53 hG ht8) m_J9_min_7cf53 ks_RX12_87 d_X12_falls_46 rfl (Nat.le_of_ble_eq_true rfl) ⟨rfl, rfl, Nat.le_of_ble_eq_true rfl, Nat.le_of_ble_eq_true rfl, Nat.le_of_ble_eq_true rfl⟩ (fun n => ?_)
  obtain ⟨μ9, hμ9, hf⟩ := ob hf
  refine B_iast k_265 hμ9 d_X12_falls_49 ?_
  refine V_aload_n d_X12_falls_50 rfl rfl ?_
  refine B_get k_264 fl_RX12_13 d_X12_falls_51 g_12_1 ?_
  refine V_iconst (v := 5) d_X12_falls_54 ic_5 ?_
  refine V_dup2 d_X12_falls_55 rfl rfl ?_
  obtain ⟨t10, ht10, hf⟩ := ob hf
  refine B_iald k_265 ht10 d_X12_falls_56 ?_
  refine V_iconst (v := 1) d_X12_falls_57 ic_1 ?_
  refine V_iadd d_X12_falls_58 ?_
  obtain ⟨μ11, hμ11, hf⟩ := ob hf
  refine B_iast k_265 hμ11 d_X12_falls_59 ?_
  cases hf
  exact R_v hK d_X12_falls_60 (Nat.le_of_ble_eq_true rfl) (Nat.le_of_ble_eq_true rfl)
theorem s_X12_falls {G : Gl} (hG : G.1.stackTraces = false) {μ : Mem} {p1 : Int32} {r : Mem} (hf : f_X12_falls μ p1 = some r) : Rt G yX12_falls F_X12_falls none [.ref (G.2.1 + 264), .int p1] μ none r := fun n => Sd.of hG ⟨by decide +kernel, rfl, rfl⟩ rfl (Nat.le_of_ble_eq_true rfl) rfl (fun C hK => s_X12_falls_e hG hf hK)
theorem d_J9_abs_0f7a4_0 : decode cJ9_abs_0f7a4 0 = .ok (.iload_n 0, 1) := by decide +kernel
theorem d_J9_abs_0f7a4_1 : decode cJ9_abs_0f7a4 1 = .ok (.ifCond .ge 8, 3) := by decide +kernel
theorem d_J9_abs_0f7a4_4 : decode cJ9_abs_0f7a4 4 = .ok (.iload_n 0, 1) := by decide +kernel
theorem d_J9_abs_0f7a4_5 : decode cJ9_abs_0f7a4 5 = .ok (.ineg, 1) := by decide +kernel
theorem d_J9_abs_0f7a4_6 : decode cJ9_abs_0f7a4 6 = .ok (.goto 4, 3) := by decide +kernel
theorem d_J9_abs_0f7a4_9 : decode cJ9_abs_0f7a4 9 = .ok (.iload_n 0, 1) := by decide +kernel
theorem d_J9_abs_0f7a4_10 : decode cJ9_abs_0f7a4 10 = .ok (.ireturn, 1) := by decide +kernel
theorem s_J9_abs_0f7a4_e {G : Gl} (hG : G.1.stackTraces = false) {C : Cx} {n : Nat} {μ : Mem} {p0 : Int32} {r : Int32} (hf : f_J9_abs_0f7a4 μ p0 = some r) (hK : FinR G C F_J9_abs_0f7a4 (some .int) (some (.int r)) μ) : V G C F_J9_abs_0f7a4 0 [some (.int p0)] [] (pic G μ) n 0 0 := by
  unfold f_J9_abs_0f7a4 at hf
  refine V_iload_n d_J9_abs_0f7a4_0 rfl rfl ?_
  have hJj1 : ∀ j1 : Int32, j1 = (if 0 ≤ p0 then (p0 : Int32) else (-p0)) → V G C F_J9_abs_0f7a4 10 [none] [.int j1] (pic G μ) n 0 0 := by
    intro j1 ej1
    subst ej1
    cases hf
    exact R_i hK d_J9_abs_0f7a4_10 (Nat.le_of_ble_eq_true rfl) (Nat.le_of_ble_eq_true rfl)
  refine V_if_ge (tgt := 9) d_J9_abs_0f7a4_1 (by decide) (fun c1 => ?_) (fun c1 => ?_)
  · refine V_iload_n d_J9_abs_0f7a4_9 rfl rfl ?_
    refine V_less (ls' := [none]) trivial ?_
    exact hJj1 p0 (by rw [if_pos c1])
  · refine V_iload_n d_J9_abs_0f7a4_4 rfl rfl ?_
    refine V_ineg d_J9_abs_0f7a4_5 ?_
    refine V_goto (tgt := 10) d_J9_abs_0f7a4_6 (by decide) ?_
    refine V_less (ls' := [none]) trivial ?_
    exact hJj1 (-p0) (by rw [if_neg c1])
theorem s_J9_abs_0f7a4 {G : Gl} (hG : G.1.stackTraces = false) {μ : Mem} {p0 : Int32} {r : Int32} (hf : f_J9_abs_0f7a4 μ p0 = some r) : Rt G yJ9_abs_0f7a4 F_J9_abs_0f7a4 (some .int) [.int p0] μ (some (.int r)) μ := fun n => Sd.ofJ hG ⟨by decide +kernel, rfl, rfl⟩ rfl (Nat.le_of_ble_eq_true rfl) rfl (fun C hK => s_J9_abs_0f7a4_e hG hf hK)
theorem d_X12_walksOn_0 : decode cX12_walksOn 0 = .ok (.aload_n 0, 1) := by decide +kernel
theorem d_X12_walksOn_1 : decode cX12_walksOn 1 = .ok (.iload_n 1, 1) := by decide +kernel
theorem d_X12_walksOn_2 : decode cX12_walksOn 2 = .ok (.iconst 3, 1) := by decide +kernel
theorem d_X12_walksOn_3 : decode cX12_walksOn 3 = .ok (.invokevirtual 84, 3) := by decide +kernel
theorem d_X12_walksOn_6 : decode cX12_walksOn 6 = .ok (.aload_n 0, 1) := by decide +kernel
theorem d_X12_walksOn_7 : decode cX12_walksOn 7 = .ok (.iload_n 1, 1) := by decide +kernel
theorem d_X12_walksOn_8 : decode cX12_walksOn 8 = .ok (.iconst 2, 1) := by decide +kernel
theorem d_X12_walksOn_9 : decode cX12_walksOn 9 = .ok (.invokevirtual 84, 3) := by decide +kernel
theorem d_X12_walksOn_12 : decode cX12_walksOn 12 = .ok (.isub, 1) := by decide +kernel
theorem d_X12_walksOn_13 : decode cX12_walksOn 13 = .ok (.istore_n 2, 1) := by decide +kernel
theorem d_X12_walksOn_14 : decode cX12_walksOn 14 = .ok (.iload_n 2, 1) := by decide +kernel
theorem d_X12_walksOn_15 : decode cX12_walksOn 15 = .ok (.invokestatic 345, 3) := by decide +kernel
theorem d_X12_walksOn_18 : decode cX12_walksOn 18 = .ok (.aload_n 0, 1) := by decide +kernel
theorem d_X12_walksOn_19 : decode cX12_walksOn 19 = .ok (.iload_n 1, 1) := by decide +kernel
theorem d_X12_walksOn_20 : decode cX12_walksOn 20 = .ok (.invokevirtual 323, 3) := by decide +kernel
theorem d_X12_walksOn_23 : decode cX12_walksOn 23 = .ok (.invokestatic 87, 3) := by decide +kernel
theorem d_X12_walksOn_26 : decode cX12_walksOn 26 = .ok (.istore_n 3, 1) := by decide +kernel
theorem d_X12_walksOn_27 : decode cX12_walksOn 27 = .ok (.aload_n 0, 1) := by decide +kernel
theorem d_X12_walksOn_28 : decode cX12_walksOn 28 = .ok (.getfield 13, 3) := by decide +kernel
theorem d_X12_walksOn_31 : decode cX12_walksOn 31 = .ok (.iload_n 1, 1) := by decide +kernel
theorem d_X12_walksOn_32 : decode cX12_walksOn 32 = .ok (.iconst 2, 1) := by decide +kernel
theorem d_X12_walksOn_33 : decode cX12_walksOn 33 = .ok (.invokestatic 63, 3) := by decide +kernel
theorem d_X12_walksOn_36 : decode cX12_walksOn 36 = .ok (.dup2, 1) := by decide +kernel
theorem d_X12_walksOn_37 : decode cX12_walksOn 37 = .ok (.iaload, 1) := by decide +kernel
theorem d_X12_walksOn_38 : decode cX12_walksOn 38 = .ok (.iload_n 2, 1) := by decide +kernel
theorem d_X12_walksOn_39 : decode cX12_walksOn 39 = .ok (.ifCond .ge 8, 3) := by decide +kernel
theorem d_X12_walksOn_42 : decode cX12_walksOn 42 = .ok (.iload_n 3, 1) := by decide +kernel
theorem d_X12_walksOn_43 : decode cX12_walksOn 43 = .ok (.ineg, 1) := by decide +kernel
theorem d_X12_walksOn_44 : decode cX12_walksOn 44 = .ok (.goto 4, 3) := by decide +kernel
theorem d_X12_walksOn_47 : decode cX12_walksOn 47 = .ok (.iload_n 3, 1) := by decide +kernel
theorem d_X12_walksOn_48 : decode cX12_walksOn 48 = .ok (.iadd, 1) := by decide +kernel
theorem d_X12_walksOn_49 : decode cX12_walksOn 49 = .ok (.iastore, 1) := by decide +kernel
theorem d_X12_walksOn_50 : decode cX12_walksOn 50 = .ok (.return_, 1) := by decide +kernel
theorem s_X12_walksOn_e {G : Gl} (hG : G.1.stackTraces = false) {C : Cx} {n : Nat} {μ : Mem} {p1 : Int32} {r : Mem} (hf : f_X12_walksOn μ p1 = some r) (hK : FinR G C F_X12_walksOn none none r) : V G C F_X12_walksOn 0 [some (.ref (G.2.1 + 264)), some (.int p1), none, none] [] (pic G μ) n 0 0 := by
  unfold f_X12_walksOn at hf
  refine V_aload_n d_X12_walksOn_0 rfl rfl ?_
  refine V_iload_n d_X12_walksOn_1 rfl rfl ?_
  refine V_iconst (v := 3) d_X12_walksOn_2 ic_3 ?_
  obtain ⟨t1, ht1, hf⟩ := ob hf
  refine B_callV1 (s_X12_of hG ht1) k_264 clX12 m_X12_of kv_RX12_84 d_X12_walksOn_3 rfl (Nat.le_of_ble_eq_true rfl) ⟨rfl, rfl, Nat.le_of_ble_eq_true rfl, Nat.le_of_ble_eq_true rfl, Nat.le_of_ble_eq_true rfl⟩ (fun n => ?_)
  refine V_aload_n d_X12_walksOn_6 rfl rfl ?_
  refine V_iload_n d_X12_walksOn_7 rfl rfl ?_
  refine V_iconst (v := 2) d_X12_walksOn_8 ic_2 ?_
  obtain ⟨t2, ht2, hf⟩ := ob hf
  refine B_callV1 (s_X12_of hG ht2) k_264 clX12 m_X12_of kv_RX12_84 d_X12_walksOn_9 rfl (Nat.le_of_ble_eq_true rfl) ⟨rfl, rfl, Nat.le_of_ble_eq_true rfl, Nat.le_of_ble_eq_true rfl, Nat.le_of_ble_eq_true rfl⟩ (fun n => ?_)
  refine V_isub d_X12_walksOn_12 ?_
  refine V_istore_n (ls' := [_, _, _, _]) d_X12_walksOn_13 rfl rfl rfl ?_
  refine V_iload_n d_X12_walksOn_14 rfl rfl ?_
  obtain ⟨t3, ht3, hf⟩ := ob hf
  refine B_callS1 (s_J9_abs_0f7a4 hG ht3) m_J9_abs_0f7a4 ks_RX12_345 d_X12_walksOn_15 rfl (Nat.le_of_ble_eq_true rfl) ⟨rfl, rfl, Nat.le_of_ble_eq_true rfl, Nat.le_of_ble_eq_true rfl, Nat.le_of_ble_eq_true rfl⟩ (fun n => ?_)
  refine V_aload_n d_X12_walksOn_18 rfl rfl ?_
  refine V_iload_n d_X12_walksOn_19 rfl rfl ?_
  obtain ⟨q4, hq4, hf⟩ := ob hf
  refine B_callV1 (s_X12_walksBy hG hq4) k_264 clX12 m_X12_walksBy kv_RX12_323 d_X12_walksOn_20 rfl (Nat.le_of_ble_eq_true rfl) ⟨rfl, rfl, Nat.le_of_ble_eq_true rfl, Nat.le_of_ble_eq_true rfl, Nat.le_of_ble_eq_true rfl⟩ (fun n => ?_)
  obtain ⟨t5, ht5, hf⟩ := ob hf
  refine B_callS1 (s_J9_min_7cf53 hG ht5) m_J9_min_7cf53 ks_RX12_87 d_X12_walksOn_23 rfl (Nat.le_of_ble_eq_true rfl) ⟨rfl, rfl, Nat.le_of_ble_eq_true rfl, Nat.le_of_ble_eq_true rfl, Nat.le_of_ble_eq_true rfl⟩ (fun n => ?_)
  refine V_istore_n (ls' := [_, _, _, _]) d_X12_walksOn_26 rfl rfl rfl ?_
  refine V_aload_n d_X12_walksOn_27 rfl rfl ?_
  refine B_get k_264 fl_RX12_13 d_X12_walksOn_28 g_12_1 ?_
  refine V_iload_n d_X12_walksOn_31 rfl rfl ?_
  refine V_iconst (v := 2) d_X12_walksOn_32 ic_2 ?_
  obtain ⟨t6, ht6, hf⟩ := ob hf
  refine B_callS1 (s_X12_at hG ht6) m_X12_at ks_RX12_63 d_X12_walksOn_33 rfl (Nat.le_of_ble_eq_true rfl) ⟨rfl, rfl, Nat.le_of_ble_eq_true rfl, Nat.le_of_ble_eq_true rfl, Nat.le_of_ble_eq_true rfl⟩ (fun n => ?_)
  refine V_dup2 d_X12_walksOn_36 rfl rfl ?_
  obtain ⟨t7, ht7, hf⟩ := ob hf
  refine B_iald k_265 ht7 d_X12_walksOn_37 ?_
  refine V_iload_n d_X12_walksOn_38 rfl rfl ?_
  have hJj8 : ∀ j8 : Int32, j8 = (if 0 ≤ (t1 - t2) then (t5 : Int32) else (-t5)) → V G C F_X12_walksOn 48 [none, none, none, none] [.int j8, .int t7, .int t6, .ref (G.2.1 + 265)] (pic G q4.2) n 0 0 := by
    intro j8 ej8
    subst ej8
    refine V_iadd d_X12_walksOn_48 ?_
    obtain ⟨μ9, hμ9, hf⟩ := ob hf
    refine B_iast k_265 hμ9 d_X12_walksOn_49 ?_
    cases hf
    exact R_v hK d_X12_walksOn_50 (Nat.le_of_ble_eq_true rfl) (Nat.le_of_ble_eq_true rfl)
  refine V_if_ge (tgt := 47) d_X12_walksOn_39 (by decide) (fun c39 => ?_) (fun c39 => ?_)
  · refine V_iload_n d_X12_walksOn_47 rfl rfl ?_
    refine V_less (ls' := [none, none, none, none]) trivial ?_
    exact hJj8 t5 (by rw [if_pos c39])
  · refine V_iload_n d_X12_walksOn_42 rfl rfl ?_
    refine V_ineg d_X12_walksOn_43 ?_
    refine V_goto (tgt := 48) d_X12_walksOn_44 (by decide) ?_
    refine V_less (ls' := [none, none, none, none]) trivial ?_
    exact hJj8 (-t5) (by rw [if_neg c39])
theorem s_X12_walksOn {G : Gl} (hG : G.1.stackTraces = false) {μ : Mem} {p1 : Int32} {r : Mem} (hf : f_X12_walksOn μ p1 = some r) : Rt G yX12_walksOn F_X12_walksOn none [.ref (G.2.1 + 264), .int p1] μ none r := fun n => Sd.of hG ⟨by decide +kernel, rfl, rfl⟩ rfl (Nat.le_of_ble_eq_true rfl) rfl (fun C hK => s_X12_walksOn_e hG hf hK)
theorem d_X12_isCalled_0 : decode cX12_isCalled 0 = .ok (.aload_n 0, 1) := by decide +kernel
theorem d_X12_isCalled_1 : decode cX12_isCalled 1 = .ok (.iload_n 1, 1) := by decide +kernel
theorem d_X12_isCalled_2 : decode cX12_isCalled 2 = .ok (.iconst 2, 1) := by decide +kernel
theorem d_X12_isCalled_3 : decode cX12_isCalled 3 = .ok (.invokevirtual 70, 3) := by decide +kernel
theorem d_X12_isCalled_6 : decode cX12_isCalled 6 = .ok (.istore_n 2, 1) := by decide +kernel
theorem d_X12_isCalled_7 : decode cX12_isCalled 7 = .ok (.aload_n 0, 1) := by decide +kernel
theorem d_X12_isCalled_8 : decode cX12_isCalled 8 = .ok (.iload_n 1, 1) := by decide +kernel
theorem d_X12_isCalled_9 : decode cX12_isCalled 9 = .ok (.iconst 5, 1) := by decide +kernel
theorem d_X12_isCalled_10 : decode cX12_isCalled 10 = .ok (.invokevirtual 70, 3) := by decide +kernel
theorem d_X12_isCalled_13 : decode cX12_isCalled 13 = .ok (.istore_n 3, 1) := by decide +kernel
theorem d_X12_isCalled_14 : decode cX12_isCalled 14 = .ok (.aload_n 0, 1) := by decide +kernel
theorem d_X12_isCalled_15 : decode cX12_isCalled 15 = .ok (.iload_n 1, 1) := by decide +kernel
theorem d_X12_isCalled_16 : decode cX12_isCalled 16 = .ok (.invokestatic 144, 3) := by decide +kernel
theorem d_X12_isCalled_19 : decode cX12_isCalled 19 = .ok (.iconst 0, 1) := by decide +kernel
theorem d_X12_isCalled_20 : decode cX12_isCalled 20 = .ok (.invokevirtual 84, 3) := by decide +kernel
theorem d_X12_isCalled_23 : decode cX12_isCalled 23 = .ok (.iload_n 2, 1) := by decide +kernel
theorem d_X12_isCalled_24 : decode cX12_isCalled 24 = .ok (.if_icmp .lt 15, 3) := by decide +kernel
theorem d_X12_isCalled_27 : decode cX12_isCalled 27 = .ok (.aload_n 0, 1) := by decide +kernel
theorem d_X12_isCalled_28 : decode cX12_isCalled 28 = .ok (.iload_n 1, 1) := by decide +kernel
theorem d_X12_isCalled_29 : decode cX12_isCalled 29 = .ok (.iload_n 1, 1) := by decide +kernel
theorem d_X12_isCalled_30 : decode cX12_isCalled 30 = .ok (.invokestatic 144, 3) := by decide +kernel
theorem d_X12_isCalled_33 : decode cX12_isCalled 33 = .ok (.invokevirtual 342, 3) := by decide +kernel
theorem d_X12_isCalled_36 : decode cX12_isCalled 36 = .ok (.goto 32, 3) := by decide +kernel
theorem d_X12_isCalled_39 : decode cX12_isCalled 39 = .ok (.iload_n 3, 1) := by decide +kernel
theorem d_X12_isCalled_40 : decode cX12_isCalled 40 = .ok (.iconst (-1), 1) := by decide +kernel
theorem d_X12_isCalled_41 : decode cX12_isCalled 41 = .ok (.if_icmp .eq 22, 3) := by decide +kernel
theorem d_X12_isCalled_44 : decode cX12_isCalled 44 = .ok (.aload_n 0, 1) := by decide +kernel
theorem d_X12_isCalled_45 : decode cX12_isCalled 45 = .ok (.iload_n 3, 1) := by decide +kernel
theorem d_X12_isCalled_46 : decode cX12_isCalled 46 = .ok (.iconst 0, 1) := by decide +kernel
theorem d_X12_isCalled_47 : decode cX12_isCalled 47 = .ok (.invokevirtual 84, 3) := by decide +kernel
theorem d_X12_isCalled_50 : decode cX12_isCalled 50 = .ok (.iload_n 2, 1) := by decide +kernel
theorem d_X12_isCalled_51 : decode cX12_isCalled 51 = .ok (.if_icmp .lt 12, 3) := by decide +kernel
theorem d_X12_isCalled_54 : decode cX12_isCalled 54 = .ok (.aload_n 0, 1) := by decide +kernel
theorem d_X12_isCalled_55 : decode cX12_isCalled 55 = .ok (.iload_n 1, 1) := by decide +kernel
theorem d_X12_isCalled_56 : decode cX12_isCalled 56 = .ok (.iload_n 3, 1) := by decide +kernel
theorem d_X12_isCalled_57 : decode cX12_isCalled 57 = .ok (.invokevirtual 342, 3) := by decide +kernel
theorem d_X12_isCalled_60 : decode cX12_isCalled 60 = .ok (.goto 8, 3) := by decide +kernel
theorem d_X12_isCalled_63 : decode cX12_isCalled 63 = .ok (.aload_n 0, 1) := by decide +kernel
theorem d_X12_isCalled_64 : decode cX12_isCalled 64 = .ok (.iload_n 1, 1) := by decide +kernel
theorem d_X12_isCalled_65 : decode cX12_isCalled 65 = .ok (.invokevirtual 348, 3) := by decide +kernel
theorem d_X12_isCalled_68 : decode cX12_isCalled 68 = .ok (.return_, 1) := by decide +kernel
theorem s_X12_isCalled_j68 {G : Gl} (hG : G.1.stackTraces = false) {C : Cx} {n : Nat} {μ : Mem}  {r : Mem} (hf : f_X12_isCalled_j68 μ = some r) (hK : FinR G C F_X12_isCalled none none r) : V G C F_X12_isCalled 68 [none, none, none, none] [] (pic G μ) n 0 0 := by
  unfold f_X12_isCalled_j68 at hf
  cases hf
  exact R_v hK d_X12_isCalled_68 (Nat.le_of_ble_eq_true rfl) (Nat.le_of_ble_eq_true rfl)
theorem s_X12_isCalled_j63 {G : Gl} (hG : G.1.stackTraces = false) {C : Cx} {n : Nat} {μ : Mem} {l1 : Int32} {r : Mem} (hf : f_X12_isCalled_j63 μ l1 = some r) (hK : FinR G C F_X12_isCalled none none r) : V G C F_X12_isCalled 63 [some (.ref (G.2.1 + 264)), some (.int l1), none, none] [] (pic G μ) n 0 0 := by
  unfold f_X12_isCalled_j63 at hf
  refine V_aload_n d_X12_isCalled_63 rfl rfl ?_
  refine V_iload_n d_X12_isCalled_64 rfl rfl ?_
  obtain ⟨q1, hq1, hf⟩ := ob hf
  refine B_callV0 (s_X12_isLostNow hG hq1) k_264 clX12 m_X12_isLostNow kv_RX12_348 d_X12_isCalled_65 rfl (Nat.le_of_ble_eq_true rfl) ⟨rfl, rfl, Nat.le_of_ble_eq_true rfl, Nat.le_of_ble_eq_true rfl, Nat.le_of_ble_eq_true rfl⟩ (fun n => ?_)
  refine V_less (ls' := [none, none, none, none]) trivial ?_
  exact s_X12_isCalled_j68 hG hf hK
theorem s_X12_isCalled_e {G : Gl} (hG : G.1.stackTraces = false) {C : Cx} {n : Nat} {μ : Mem} {p1 : Int32} {r : Mem} (hf : f_X12_isCalled μ p1 = some r) (hK : FinR G C F_X12_isCalled none none r) : V G C F_X12_isCalled 0 [some (.ref (G.2.1 + 264)), some (.int p1), none, none] [] (pic G μ) n 0 0 := by
  unfold f_X12_isCalled at hf
  refine V_aload_n d_X12_isCalled_0 rfl rfl ?_
  refine V_iload_n d_X12_isCalled_1 rfl rfl ?_
  refine V_iconst (v := 2) d_X12_isCalled_2 ic_2 ?_
  obtain ⟨t1, ht1, hf⟩ := ob hf
  refine B_callV1 (s_X12_ofLace hG ht1) k_264 clX12 m_X12_ofLace kv_RX12_70 d_X12_isCalled_3 rfl (Nat.le_of_ble_eq_true rfl) ⟨rfl, rfl, Nat.le_of_ble_eq_true rfl, Nat.le_of_ble_eq_true rfl, Nat.le_of_ble_eq_true rfl⟩ (fun n => ?_)
  refine V_istore_n (ls' := [_, _, _, _]) d_X12_isCalled_6 rfl rfl rfl ?_
  refine V_aload_n d_X12_isCalled_7 rfl rfl ?_
  refine V_iload_n d_X12_isCalled_8 rfl rfl ?_
  refine V_iconst (v := 5) d_X12_isCalled_9 ic_5 ?_
  obtain ⟨t2, ht2, hf⟩ := ob hf
  refine B_callV1 (s_X12_ofLace hG ht2) k_264 clX12 m_X12_ofLace kv_RX12_70 d_X12_isCalled_10 rfl (Nat.le_of_ble_eq_true rfl) ⟨rfl, rfl, Nat.le_of_ble_eq_true rfl, Nat.le_of_ble_eq_true rfl, Nat.le_of_ble_eq_true rfl⟩ (fun n => ?_)
  refine V_istore_n (ls' := [_, _, _, _]) d_X12_isCalled_13 rfl rfl rfl ?_
  refine V_aload_n d_X12_isCalled_14 rfl rfl ?_
  refine V_iload_n d_X12_isCalled_15 rfl rfl ?_
  obtain ⟨t3, ht3, hf⟩ := ob hf
  refine B_callS1 (s_X12_ownerOf hG ht3) m_X12_ownerOf ks_RX12_144 d_X12_isCalled_16 rfl (Nat.le_of_ble_eq_true rfl) ⟨rfl, rfl, Nat.le_of_ble_eq_true rfl, Nat.le_of_ble_eq_true rfl, Nat.le_of_ble_eq_true rfl⟩ (fun n => ?_)
  refine V_iconst (v := 0) d_X12_isCalled_19 ic_0 ?_
  obtain ⟨t4, ht4, hf⟩ := ob hf
  refine B_callV1 (s_X12_of hG ht4) k_264 clX12 m_X12_of kv_RX12_84 d_X12_isCalled_20 rfl (Nat.le_of_ble_eq_true rfl) ⟨rfl, rfl, Nat.le_of_ble_eq_true rfl, Nat.le_of_ble_eq_true rfl, Nat.le_of_ble_eq_true rfl⟩ (fun n => ?_)
  refine V_iload_n d_X12_isCalled_23 rfl rfl ?_
  refine V_icmp_lt (tgt := 39) d_X12_isCalled_24 (by decide) (fun c24 => ?_) (fun c24 => ?_)
  · replace hf := iteT c24 hf
    refine V_iload_n d_X12_isCalled_39 rfl rfl ?_
    refine V_iconst (v := (-1)) d_X12_isCalled_40 ic_m1 ?_
    refine V_icmp_eq (tgt := 63) d_X12_isCalled_41 (by decide) (fun c41 => ?_) (fun c41 => ?_)
    · replace hf := iteT c41 hf
      refine V_less (ls' := [some _, some _, none, none]) ⟨rfl, rfl, trivial⟩ ?_
      exact s_X12_isCalled_j63 hG hf hK
    · replace hf := iteF c41 hf
      refine V_aload_n d_X12_isCalled_44 rfl rfl ?_
      refine V_iload_n d_X12_isCalled_45 rfl rfl ?_
      refine V_iconst (v := 0) d_X12_isCalled_46 ic_0 ?_
      obtain ⟨t5, ht5, hf⟩ := ob hf
      refine B_callV1 (s_X12_of hG ht5) k_264 clX12 m_X12_of kv_RX12_84 d_X12_isCalled_47 rfl (Nat.le_of_ble_eq_true rfl) ⟨rfl, rfl, Nat.le_of_ble_eq_true rfl, Nat.le_of_ble_eq_true rfl, Nat.le_of_ble_eq_true rfl⟩ (fun n => ?_)
      refine V_iload_n d_X12_isCalled_50 rfl rfl ?_
      refine V_icmp_lt (tgt := 63) d_X12_isCalled_51 (by decide) (fun c51 => ?_) (fun c51 => ?_)
      · replace hf := iteT c51 hf
        refine V_less (ls' := [some _, some _, none, none]) ⟨rfl, rfl, trivial⟩ ?_
        exact s_X12_isCalled_j63 hG hf hK
      · replace hf := iteF c51 hf
        refine V_aload_n d_X12_isCalled_54 rfl rfl ?_
        refine V_iload_n d_X12_isCalled_55 rfl rfl ?_
        refine V_iload_n d_X12_isCalled_56 rfl rfl ?_
        obtain ⟨q6, hq6, hf⟩ := ob hf
        refine B_callV0 (s_X12_isPaid hG hq6) k_264 clX12 m_X12_isPaid kv_RX12_342 d_X12_isCalled_57 rfl (Nat.le_of_ble_eq_true rfl) ⟨rfl, rfl, Nat.le_of_ble_eq_true rfl, Nat.le_of_ble_eq_true rfl, Nat.le_of_ble_eq_true rfl⟩ (fun n => ?_)
        refine V_goto (tgt := 68) d_X12_isCalled_60 (by decide) ?_
        refine V_less (ls' := [none, none, none, none]) trivial ?_
        exact s_X12_isCalled_j68 hG hf hK
  · replace hf := iteF c24 hf
    refine V_aload_n d_X12_isCalled_27 rfl rfl ?_
    refine V_iload_n d_X12_isCalled_28 rfl rfl ?_
    refine V_iload_n d_X12_isCalled_29 rfl rfl ?_
    obtain ⟨t7, ht7, hf⟩ := ob hf
    refine B_callS1 (s_X12_ownerOf hG ht7) m_X12_ownerOf ks_RX12_144 d_X12_isCalled_30 rfl (Nat.le_of_ble_eq_true rfl) ⟨rfl, rfl, Nat.le_of_ble_eq_true rfl, Nat.le_of_ble_eq_true rfl, Nat.le_of_ble_eq_true rfl⟩ (fun n => ?_)
    obtain ⟨q8, hq8, hf⟩ := ob hf
    refine B_callV0 (s_X12_isPaid hG hq8) k_264 clX12 m_X12_isPaid kv_RX12_342 d_X12_isCalled_33 rfl (Nat.le_of_ble_eq_true rfl) ⟨rfl, rfl, Nat.le_of_ble_eq_true rfl, Nat.le_of_ble_eq_true rfl, Nat.le_of_ble_eq_true rfl⟩ (fun n => ?_)
    refine V_goto (tgt := 68) d_X12_isCalled_36 (by decide) ?_
    refine V_less (ls' := [none, none, none, none]) trivial ?_
    exact s_X12_isCalled_j68 hG hf hK
theorem s_X12_isCalled {G : Gl} (hG : G.1.stackTraces = false) {μ : Mem} {p1 : Int32} {r : Mem} (hf : f_X12_isCalled μ p1 = some r) : Rt G yX12_isCalled F_X12_isCalled none [.ref (G.2.1 + 264), .int p1] μ none r := fun n => Sd.of hG ⟨by decide +kernel, rfl, rfl⟩ rfl (Nat.le_of_ble_eq_true rfl) rfl (fun C hK => s_X12_isCalled_e hG hf hK)
