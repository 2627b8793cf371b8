theorem d_X12_isLost_0 : decode cX12_isLost 0 = .ok (.aload_n 0, 1) := by decide +kernel
theorem d_X12_isLost_1 : decode cX12_isLost 1 = .ok (.iload_n 1, 1) := by decide +kernel
theorem d_X12_isLost_2 : decode cX12_isLost 2 = .ok (.iconst 0, 1) := by decide +kernel
theorem d_X12_isLost_3 : decode cX12_isLost 3 = .ok (.invokevirtual 70, 3) := by decide +kernel
theorem d_X12_isLost_6 : decode cX12_isLost 6 = .ok (.iconst 2, 1) := by decide +kernel
theorem d_X12_isLost_7 : decode cX12_isLost 7 = .ok (.if_icmp .ne 7, 3) := by decide +kernel
theorem d_X12_isLost_10 : decode cX12_isLost 10 = .ok (.iconst 1, 1) := by decide +kernel
theorem d_X12_isLost_11 : decode cX12_isLost 11 = .ok (.goto 4, 3) := by decide +kernel
theorem d_X12_isLost_14 : decode cX12_isLost 14 = .ok (.iconst 0, 1) := by decide +kernel
theorem d_X12_isLost_15 : decode cX12_isLost 15 = .ok (.ireturn, 1) := by decide +kernel
theorem s_X12_isLost_e {G : Gl} (hG : G.1.stackTraces = false) {C : Cx} {n : Nat} {μ : Mem} {p1 : Int32} {r : Bool} (hf : f_X12_isLost μ p1 = some r) (hK : FinR G C F_X12_isLost (some .boolean) (some (.int (b2i r))) μ) : V G C F_X12_isLost 0 [some (.ref (G.2.1 + 264)), some (.int p1)] [] (pic G μ) n 0 0 := by
  unfold f_X12_isLost at hf
  refine V_aload_n d_X12_isLost_0 rfl rfl ?_
  refine V_iload_n d_X12_isLost_1 rfl rfl ?_
  refine V_iconst (v := 0) d_X12_isLost_2 ic_0 ?_
  obtain ⟨t1, ht1, hf⟩ := ob hf
  refine B_callV1 (s_X12_ofLace hG ht1) k_264 clX12 m_X12_ofLace kv_RX12_70 d_X12_isLost_3 rfl (Nat.le_of_ble_eq_true rfl) ⟨rfl, rfl, Nat.le_of_ble_eq_true rfl, Nat.le_of_ble_eq_true rfl, Nat.le_of_ble_eq_true rfl⟩ (fun n => ?_)
  refine V_iconst (v := 2) d_X12_isLost_6 ic_2 ?_
  have hJj2 : ∀ j2 : Bool, j2 = (if t1 = 2 then (true : Bool) else false) → V G C F_X12_isLost 15 [none, none] [.int (b2i j2)] (pic G μ) n 0 0 := by
    intro j2 ej2
    subst ej2
    cases hf
    exact R_z hK d_X12_isLost_15 (Nat.le_of_ble_eq_true rfl) (Nat.le_of_ble_eq_true rfl)
  refine V_icmp_ne (tgt := 14) d_X12_isLost_7 (by decide) (fun c7 => ?_) (fun c7 => ?_)
  · refine V_iconst (v := 0) d_X12_isLost_14 ic_0 ?_
    refine V_less (ls' := [none, none]) trivial ?_
    exact hJj2 false (by rw [if_neg c7])
  · refine V_iconst (v := 1) d_X12_isLost_10 ic_1 ?_
    refine V_goto (tgt := 15) d_X12_isLost_11 (by decide) ?_
    refine V_less (ls' := [none, none]) trivial ?_
    exact hJj2 true (by rw [if_pos c7])
theorem s_X12_isLost {G : Gl} (hG : G.1.stackTraces = false) {μ : Mem} {p1 : Int32} {r : Bool} (hf : f_X12_isLost μ p1 = some r) : Rt G yX12_isLost F_X12_isLost (some .boolean) [.ref (G.2.1 + 264), .int p1] μ (some (.int (b2i r))) μ := fun n => Sd.of hG ⟨by decide +kernel, rfl, rfl⟩ rfl (Nat.le_of_ble_eq_true rfl) rfl (fun C hK => s_X12_isLost_e hG hf hK)
theorem d_X12_isIn_0 : decode cX12_isIn 0 = .ok (.aload_n 0, 1) := by decide +kernel
theorem d_X12_isIn_1 : decode cX12_isIn 1 = .ok (.iload_n 1, 1) := by decide +kernel
theorem d_X12_isIn_2 : decode cX12_isIn 2 = .ok (.iconst 0, 1) := by decide +kernel
theorem d_X12_isIn_3 : decode cX12_isIn 3 = .ok (.invokevirtual 70, 3) := by decide +kernel
theorem d_X12_isIn_6 : decode cX12_isIn 6 = .ok (.ifCond .ne 7, 3) := by decide +kernel
theorem d_X12_isIn_9 : decode cX12_isIn 9 = .ok (.iconst 1, 1) := by decide +kernel
theorem d_X12_isIn_10 : decode cX12_isIn 10 = .ok (.goto 4, 3) := by decide +kernel
theorem d_X12_isIn_13 : decode cX12_isIn 13 = .ok (.iconst 0, 1) := by decide +kernel
theorem d_X12_isIn_14 : decode cX12_isIn 14 = .ok (.ireturn, 1) := by decide +kernel
theorem s_X12_isIn_e {G : Gl} (hG : G.1.stackTraces = false) {C : Cx} {n : Nat} {μ : Mem} {p1 : Int32} {r : Bool} (hf : f_X12_isIn μ p1 = some r) (hK : FinR G C F_X12_isIn (some .boolean) (some (.int (b2i r))) μ) : V G C F_X12_isIn 0 [some (.ref (G.2.1 + 264)), some (.int p1)] [] (pic G μ) n 0 0 := by
  unfold f_X12_isIn at hf
  refine V_aload_n d_X12_isIn_0 rfl rfl ?_
  refine V_iload_n d_X12_isIn_1 rfl rfl ?_
  refine V_iconst (v := 0) d_X12_isIn_2 ic_0 ?_
  obtain ⟨t1, ht1, hf⟩ := ob hf
  refine B_callV1 (s_X12_ofLace hG ht1) k_264 clX12 m_X12_ofLace kv_RX12_70 d_X12_isIn_3 rfl (Nat.le_of_ble_eq_true rfl) ⟨rfl, rfl, Nat.le_of_ble_eq_true rfl, Nat.le_of_ble_eq_true rfl, Nat.le_of_ble_eq_true rfl⟩ (fun n => ?_)
  have hJj2 : ∀ j2 : Bool, j2 = (if t1 = 0 then (true : Bool) else false) → V G C F_X12_isIn 14 [none, none] [.int (b2i j2)] (pic G μ) n 0 0 := by
    intro j2 ej2
    subst ej2
    cases hf
    exact R_z hK d_X12_isIn_14 (Nat.le_of_ble_eq_true rfl) (Nat.le_of_ble_eq_true rfl)
  refine V_if_ne (tgt := 13) d_X12_isIn_6 (by decide) (fun c6 => ?_) (fun c6 => ?_)
  · refine V_iconst (v := 0) d_X12_isIn_13 ic_0 ?_
    refine V_less (ls' := [none, none]) trivial ?_
    exact hJj2 false (by rw [if_neg c6])
  · refine V_iconst (v := 1) d_X12_isIn_9 ic_1 ?_
    refine V_goto (tgt := 14) d_X12_isIn_10 (by decide) ?_
    refine V_less (ls' := [none, none]) trivial ?_
    exact hJj2 true (by rw [if_pos c6])
theorem s_X12_isIn {G : Gl} (hG : G.1.stackTraces = false) {μ : Mem} {p1 : Int32} {r : Bool} (hf : f_X12_isIn μ p1 = some r) : Rt G yX12_isIn F_X12_isIn (some .boolean) [.ref (G.2.1 + 264), .int p1] μ (some (.int (b2i r))) μ := fun n => Sd.of hG ⟨by decide +kernel, rfl, rfl⟩ rfl (Nat.le_of_ble_eq_true rfl) rfl (fun C hK => s_X12_isIn_e hG hf hK)
theorem d_X12_noPerson_0 : decode cX12_noPerson 0 = .ok (.iload_n 1, 1) := by decide +kernel
theorem d_X12_noPerson_1 : decode cX12_noPerson 1 = .ok (.iconst 0, 1) := by decide +kernel
theorem d_X12_noPerson_2 : decode cX12_noPerson 2 = .ok (.aload_n 0, 1) := by decide +kernel
theorem d_X12_noPerson_3 : decode cX12_noPerson 3 = .ok (.invokevirtual 59, 3) := by decide +kernel
theorem d_X12_noPerson_6 : decode cX12_noPerson 6 = .ok (.iconst 1, 1) := by decide +kernel
theorem d_X12_noPerson_7 : decode cX12_noPerson 7 = .ok (.isub, 1) := by decide +kernel
theorem d_X12_noPerson_8 : decode cX12_noPerson 8 = .ok (.invokestatic 73, 3) := by decide +kernel
theorem d_X12_noPerson_11 : decode cX12_noPerson 11 = .ok (.ifCond .ne 7, 3) := by decide +kernel
theorem d_X12_noPerson_14 : decode cX12_noPerson 14 = .ok (.iconst 1, 1) := by decide +kernel
theorem d_X12_noPerson_15 : decode cX12_noPerson 15 = .ok (.goto 4, 3) := by decide +kernel
theorem d_X12_noPerson_18 : decode cX12_noPerson 18 = .ok (.iconst 0, 1) := by decide +kernel
theorem d_X12_noPerson_19 : decode cX12_noPerson 19 = .ok (.ireturn, 1) := by decide +kernel
theorem s_X12_noPerson_e {G : Gl} (hG : G.1.stackTraces = false) {C : Cx} {n : Nat} {μ : Mem} {p1 : Int32} {r : Bool} (hf : f_X12_noPerson μ p1 = some r) (hK : FinR G C F_X12_noPerson (some .boolean) (some (.int (b2i r))) μ) : V G C F_X12_noPerson 0 [some (.ref (G.2.1 + 264)), some (.int p1)] [] (pic G μ) n 0 0 := by
  unfold f_X12_noPerson at hf
  refine V_iload_n d_X12_noPerson_0 rfl rfl ?_
  refine V_iconst (v := 0) d_X12_noPerson_1 ic_0 ?_
  refine V_aload_n d_X12_noPerson_2 rfl rfl ?_
  obtain ⟨t1, ht1, hf⟩ := ob hf
  refine B_callV1 (s_X12_people hG ht1) k_264 clX12 m_X12_people kv_RX12_59 d_X12_noPerson_3 rfl (Nat.le_of_ble_eq_true rfl) ⟨rfl, rfl, Nat.le_of_ble_eq_true rfl, Nat.le_of_ble_eq_true rfl, Nat.le_of_ble_eq_true rfl⟩ (fun n => ?_)
  refine V_iconst (v := 1) d_X12_noPerson_6 ic_1 ?_
  refine V_isub d_X12_noPerson_7 ?_
  obtain ⟨t2, ht2, hf⟩ := ob hf
  refine B_callS1 (s_X12_in hG ht2) m_X12_in ks_RX12_73 d_X12_noPerson_8 rfl (Nat.le_of_ble_eq_true rfl) ⟨rfl, rfl, Nat.le_of_ble_eq_true rfl, Nat.le_of_ble_eq_true rfl, Nat.le_of_ble_eq_true rfl⟩ (fun n => ?_)
  have hJj3 : ∀ j3 : Bool, j3 = (if t2 = true then (false : Bool) else true) → V G C F_X12_noPerson 19 [none, none] [.int (b2i j3)] (pic G μ) n 0 0 := by
    intro j3 ej3
    subst ej3
    cases hf
    exact R_z hK d_X12_noPerson_19 (Nat.le_of_ble_eq_true rfl) (Nat.le_of_ble_eq_true rfl)
  refine V_if_ne (tgt := 18) d_X12_noPerson_11 (by decide) (fun c11 => ?_) (fun c11 => ?_)
  · refine V_iconst (v := 0) d_X12_noPerson_18 ic_0 ?_
    refine V_less (ls' := [none, none]) trivial ?_
    exact hJj3 false (by rw [if_pos (b2i_ne0 c11)])
  · refine V_iconst (v := 1) d_X12_noPerson_14 ic_1 ?_
    refine V_goto (tgt := 19) d_X12_noPerson_15 (by decide) ?_
    refine V_less (ls' := [none, none]) trivial ?_
    exact hJj3 true (by rw [if_neg (b2i_nt (b2i_eq0 c11))])
theorem s_X12_noPerson {G : Gl} (hG : G.1.stackTraces = false) {μ : Mem} {p1 : Int32} {r : Bool} (hf : f_X12_noPerson μ p1 = some r) : Rt G yX12_noPerson F_X12_noPerson (some .boolean) [.ref (G.2.1 + 264), .int p1] μ (some (.int (b2i r))) μ := fun n => Sd.of hG ⟨by decide +kernel, rfl, rfl⟩ rfl (Nat.le_of_ble_eq_true rfl) rfl (fun C hK => s_X12_noPerson_e hG hf hK)
theorem d_X12_noLace_0 : decode cX12_noLace 0 = .ok (.iload_n 1, 1) := by decide +kernel
theorem d_X12_noLace_1 : decode cX12_noLace 1 = .ok (.iconst 0, 1) := by decide +kernel
theorem d_X12_noLace_2 : decode cX12_noLace 2 = .ok (.aload_n 0, 1) := by decide +kernel
theorem d_X12_noLace_3 : decode cX12_noLace 3 = .ok (.invokevirtual 77, 3) := by decide +kernel
theorem d_X12_noLace_6 : decode cX12_noLace 6 = .ok (.iconst 1, 1) := by decide +kernel
theorem d_X12_noLace_7 : decode cX12_noLace 7 = .ok (.isub, 1) := by decide +kernel
theorem d_X12_noLace_8 : decode cX12_noLace 8 = .ok (.invokestatic 73, 3) := by decide +kernel
theorem d_X12_noLace_11 : decode cX12_noLace 11 = .ok (.ifCond .ne 7, 3) := by decide +kernel
theorem d_X12_noLace_14 : decode cX12_noLace 14 = .ok (.iconst 1, 1) := by decide +kernel
theorem d_X12_noLace_15 : decode cX12_noLace 15 = .ok (.goto 4, 3) := by decide +kernel
theorem d_X12_noLace_18 : decode cX12_noLace 18 = .ok (.iconst 0, 1) := by decide +kernel
theorem d_X12_noLace_19 : decode cX12_noLace 19 = .ok (.ireturn, 1) := by decide +kernel
theorem s_X12_noLace_e {G : Gl} (hG : G.1.stackTraces = false) {C : Cx} {n : Nat} {μ : Mem} {p1 : Int32} {r : Bool} (hf : f_X12_noLace μ p1 = some r) (hK : FinR G C F_X12_noLace (some .boolean) (some (.int (b2i r))) μ) : V G C F_X12_noLace 0 [some (.ref (G.2.1 + 264)), some (.int p1)] [] (pic G μ) n 0 0 := by
  unfold f_X12_noLace at hf
  refine V_iload_n d_X12_noLace_0 rfl rfl ?_
  refine V_iconst (v := 0) d_X12_noLace_1 ic_0 ?_
  refine V_aload_n d_X12_noLace_2 rfl rfl ?_
  obtain ⟨t1, ht1, hf⟩ := ob hf
  refine B_callV1 (s_X12_laces hG ht1) k_264 clX12 m_X12_laces kv_RX12_77 d_X12_noLace_3 rfl (Nat.le_of_ble_eq_true rfl) ⟨rfl, rfl, Nat.le_of_ble_eq_true rfl, Nat.le_of_ble_eq_true rfl, Nat.le_of_ble_eq_true rfl⟩ (fun n => ?_)
  refine V_iconst (v := 1) d_X12_noLace_6 ic_1 ?_
  refine V_isub d_X12_noLace_7 ?_
  obtain ⟨t2, ht2, hf⟩ := ob hf
  refine B_callS1 (s_X12_in hG ht2) m_X12_in ks_RX12_73 d_X12_noLace_8 rfl (Nat.le_of_ble_eq_true rfl) ⟨rfl, rfl, Nat.le_of_ble_eq_true rfl, Nat.le_of_ble_eq_true rfl, Nat.le_of_ble_eq_true rfl⟩ (fun n => ?_)
  have hJj3 : ∀ j3 : Bool, j3 = (if t2 = true then (false : Bool) else true) → V G C F_X12_noLace 19 [none, none] [.int (b2i j3)] (pic G μ) n 0 0 := by
    intro j3 ej3
    subst ej3
    cases hf
    exact R_z hK d_X12_noLace_19 (Nat.le_of_ble_eq_true rfl) (Nat.le_of_ble_eq_true rfl)
  refine V_if_ne (tgt := 18) d_X12_noLace_11 (by decide) (fun c11 => ?_) (fun c11 => ?_)
  · refine V_iconst (v := 0) d_X12_noLace_18 ic_0 ?_
    refine V_less (ls' := [none, none]) trivial ?_
    exact hJj3 false (by rw [if_pos (b2i_ne0 c11)])
  · refine V_iconst (v := 1) d_X12_noLace_14 ic_1 ?_
    refine V_goto (tgt := 19) d_X12_noLace_15 (by decide) ?_
    refine V_less (ls' := [none, none]) trivial ?_
    exact hJj3 true (by rw [if_neg (b2i_nt (b2i_eq0 c11))])
theorem s_X12_noLace {G : Gl} (hG : G.1.stackTraces = false) {μ : Mem} {p1 : Int32} {r : Bool} (hf : f_X12_noLace μ p1 = some r) : Rt G yX12_noLace F_X12_noLace (some .boolean) [.ref (G.2.1 + 264), .int p1] μ (some (.int (b2i r))) μ := fun n => Sd.of hG ⟨by decide +kernel, rfl, rfl⟩ rfl (Nat.le_of_ble_eq_true rfl) rfl (fun C hK => s_X12_noLace_e hG hf hK)
theorem d_X12_noPlace_0 : decode cX12_noPlace 0 = .ok (.iload_n 0, 1) := by decide +kernel
theorem d_X12_noPlace_1 : decode cX12_noPlace 1 = .ok (.iconst 0, 1) := by decide +kernel
theorem d_X12_noPlace_2 : decode cX12_noPlace 2 = .ok (.bipush 19, 2) := by decide +kernel
theorem d_X12_noPlace_4 : decode cX12_noPlace 4 = .ok (.invokestatic 73, 3) := by decide +kernel
theorem d_X12_noPlace_7 : decode cX12_noPlace 7 = .ok (.ifCond .ne 7, 3) := by decide +kernel
theorem d_X12_noPlace_10 : decode cX12_noPlace 10 = .ok (.iconst 1, 1) := by decide +kernel
theorem d_X12_noPlace_11 : decode cX12_noPlace 11 = .ok (.goto 4, 3) := by decide +kernel
theorem d_X12_noPlace_14 : decode cX12_noPlace 14 = .ok (.iconst 0, 1) := by decide +kernel
theorem d_X12_noPlace_15 : decode cX12_noPlace 15 = .ok (.ireturn, 1) := by decide +kernel
theorem s_X12_noPlace_e {G : Gl} (hG : G.1.stackTraces = false) {C : Cx} {n : Nat} {μ : Mem} {p0 : Int32} {r : Bool} (hf : f_X12_noPlace μ p0 = some r) (hK : FinR G C F_X12_noPlace (some .boolean) (some (.int (b2i r))) μ) : V G C F_X12_noPlace 0 [some (.int p0)] [] (pic G μ) n 0 0 := by
  unfold f_X12_noPlace at hf
  refine V_iload_n d_X12_noPlace_0 rfl rfl ?_
  refine V_iconst (v := 0) d_X12_noPlace_1 ic_0 ?_
  refine V_bipush (v := 19) d_X12_noPlace_2 bp_19 ?_
  obtain ⟨t1, ht1, hf⟩ := ob hf
  refine B_callS1 (s_X12_in hG ht1) m_X12_in ks_RX12_73 d_X12_noPlace_4 rfl (Nat.le_of_ble_eq_true rfl) ⟨rfl, rfl, Nat.le_of_ble_eq_true rfl, Nat.le_of_ble_eq_true rfl, Nat.le_of_ble_eq_true rfl⟩ (fun n => ?_)
  have hJj2 : ∀ j2 : Bool, j2 = (if t1 = true then (false : Bool) else true) → V G C F_X12_noPlace 15 [none] [.int (b2i j2)] (pic G μ) n 0 0 := by
    intro j2 ej2
    subst ej2
    cases hf
    exact R_z hK d_X12_noPlace_15 (Nat.le_of_ble_eq_true rfl) (Nat.le_of_ble_eq_true rfl)
  refine V_if_ne (tgt := 14) d_X12_noPlace_7 (by decide) (fun c7 => ?_) (fun c7 => ?_)
  · refine V_iconst (v := 0) d_X12_noPlace_14 ic_0 ?_
    refine V_less (ls' := [none]) trivial ?_
    exact hJj2 false (by rw [if_pos (b2i_ne0 c7)])
  · refine V_iconst (v := 1) d_X12_noPlace_10 ic_1 ?_
    refine V_goto (tgt := 15) d_X12_noPlace_11 (by decide) ?_
    refine V_less (ls' := [none]) trivial ?_
    exact hJj2 true (by rw [if_neg (b2i_nt (b2i_eq0 c7))])
theorem s_X12_noPlace {G : Gl} (hG : G.1.stackTraces = false) {μ : Mem} {p0 : Int32} {r : Bool} (hf : f_X12_noPlace μ p0 = some r) : Rt G yX12_noPlace F_X12_noPlace (some .boolean) [.int p0] μ (some (.int (b2i r))) μ := fun n => Sd.of hG ⟨by decide +kernel, rfl, rfl⟩ rfl (Nat.le_of_ble_eq_true rfl) rfl (fun C hK => s_X12_noPlace_e hG hf hK)
theorem d_X12_tellsLace_0 : decode cX12_tellsLace 0 = .ok (.aload_n 0, 1) := by decide +kernel
theorem d_X12_tellsLace_1 : decode cX12_tellsLace 1 = .ok (.getfield 13, 3) := by decide +kernel
theorem d_X12_tellsLace_4 : decode cX12_tellsLace 4 = .ok (.iload_n 1, 1) := by decide +kernel
theorem d_X12_tellsLace_5 : decode cX12_tellsLace 5 = .ok (.iconst 0, 1) := by decide +kernel
theorem d_X12_tellsLace_6 : decode cX12_tellsLace 6 = .ok (.invokestatic 67, 3) := by decide +kernel
theorem d_X12_tellsLace_9 : decode cX12_tellsLace 9 = .ok (.iload_n 2, 1) := by decide +kernel
theorem d_X12_tellsLace_10 : decode cX12_tellsLace 10 = .ok (.iastore, 1) := by decide +kernel
theorem d_X12_tellsLace_11 : decode cX12_tellsLace 11 = .ok (.aload_n 0, 1) := by decide +kernel
theorem d_X12_tellsLace_12 : decode cX12_tellsLace 12 = .ok (.getfield 13, 3) := by decide +kernel
theorem d_X12_tellsLace_15 : decode cX12_tellsLace 15 = .ok (.iload_n 1, 1) := by decide +kernel
theorem d_X12_tellsLace_16 : decode cX12_tellsLace 16 = .ok (.iconst 1, 1) := by decide +kernel
theorem d_X12_tellsLace_17 : decode cX12_tellsLace 17 = .ok (.invokestatic 67, 3) := by decide +kernel
theorem d_X12_tellsLace_20 : decode cX12_tellsLace 20 = .ok (.iload_n 3, 1) := by decide +kernel
theorem d_X12_tellsLace_21 : decode cX12_tellsLace 21 = .ok (.iastore, 1) := by decide +kernel
theorem d_X12_tellsLace_22 : decode cX12_tellsLace 22 = .ok (.aload_n 0, 1) := by decide +kernel
theorem d_X12_tellsLace_23 : decode cX12_tellsLace 23 = .ok (.getfield 13, 3) := by decide +kernel
theorem d_X12_tellsLace_26 : decode cX12_tellsLace 26 = .ok (.iload_n 1, 1) := by decide +kernel
theorem d_X12_tellsLace_27 : decode cX12_tellsLace 27 = .ok (.iconst 2, 1) := by decide +kernel
theorem d_X12_tellsLace_28 : decode cX12_tellsLace 28 = .ok (.invokestatic 67, 3) := by decide +kernel
theorem d_X12_tellsLace_31 : decode cX12_tellsLace 31 = .ok (.iload 4, 2) := by decide +kernel
theorem d_X12_tellsLace_33 : decode cX12_tellsLace 33 = .ok (.iastore, 1) := by decide +kernel
theorem d_X12_tellsLace_34 : decode cX12_tellsLace 34 = .ok (.aload_n 0, 1) := by decide +kernel
theorem d_X12_tellsLace_35 : decode cX12_tellsLace 35 = .ok (.getfield 13, 3) := by decide +kernel
theorem d_X12_tellsLace_38 : decode cX12_tellsLace 38 = .ok (.iload_n 1, 1) := by decide +kernel
theorem d_X12_tellsLace_39 : decode cX12_tellsLace 39 = .ok (.iconst 3, 1) := by decide +kernel
theorem d_X12_tellsLace_40 : decode cX12_tellsLace 40 = .ok (.invokestatic 67, 3) := by decide +kernel
theorem d_X12_tellsLace_43 : decode cX12_tellsLace 43 = .ok (.iload 5, 2) := by decide +kernel
theorem d_X12_tellsLace_45 : decode cX12_tellsLace 45 = .ok (.iastore, 1) := by decide +kernel
theorem d_X12_tellsLace_46 : decode cX12_tellsLace 46 = .ok (.aload_n 0, 1) := by decide +kernel
theorem d_X12_tellsLace_47 : decode cX12_tellsLace 47 = .ok (.getfield 13, 3) := by decide +kernel
theorem d_X12_tellsLace_50 : decode cX12_tellsLace 50 = .ok (.iload_n 1, 1) := by decide +kernel
theorem d_X12_tellsLace_51 : decode cX12_tellsLace 51 = .ok (.iconst 4, 1) := by decide +kernel
theorem d_X12_tellsLace_52 : decode cX12_tellsLace 52 = .ok (.invokestatic 67, 3) := by decide +kernel
theorem d_X12_tellsLace_55 : decode cX12_tellsLace 55 = .ok (.iload 6, 2) := by decide +kernel
theorem d_X12_tellsLace_57 : decode cX12_tellsLace 57 = .ok (.iastore, 1) := by decide +kernel
theorem d_X12_tellsLace_58 : decode cX12_tellsLace 58 = .ok (.aload_n 0, 1) := by decide +kernel
theorem d_X12_tellsLace_59 : decode cX12_tellsLace 59 = .ok (.getfield 13, 3) := by decide +kernel
theorem d_X12_tellsLace_62 : decode cX12_tellsLace 62 = .ok (.iload_n 1, 1) := by decide +kernel
theorem d_X12_tellsLace_63 : decode cX12_tellsLace 63 = .ok (.iconst 5, 1) := by decide +kernel
theorem d_X12_tellsLace_64 : decode cX12_tellsLace 64 = .ok (.invokestatic 67, 3) := by decide +kernel
theorem d_X12_tellsLace_67 : decode cX12_tellsLace 67 = .ok (.iconst (-1), 1) := by decide +kernel
theorem d_X12_tellsLace_68 : decode cX12_tellsLace 68 = .ok (.iastore, 1) := by decide +kernel
theorem d_X12_tellsLace_69 : decode cX12_tellsLace 69 = .ok (.return_, 1) := by decide +kernel
theorem s_X12_tellsLace_e {G : Gl} (hG : G.1.stackTraces = false) {C : Cx} {n : Nat} {μ : Mem} {p1 : Int32} {p2 : Int32} {p3 : Int32} {p4 : Int32} {p5 : Int32} {p6 : Int32} {r : Mem} (hf : f_X12_tellsLace μ p1 p2 p3 p4 p5 p6 = some r) (hK : FinR G C F_X12_tellsLace none none r) : V G C F_X12_tellsLace 0 [some (.ref (G.2.1 + 264)), some (.int p1), some (.int p2), some (.int p3), some (.int p4), some (.int p5), some (.int p6)] [] (pic G μ) n 0 0 := by
  unfold f_X12_tellsLace at hf
  refine V_aload_n d_X12_tellsLace_0 rfl rfl ?_
  refine B_get k_264 fl_RX12_13 d_X12_tellsLace_1 g_12_1 ?_
  refine V_iload_n d_X12_tellsLace_4 rfl rfl ?_
  refine V_iconst (v := 0) d_X12_tellsLace_5 ic_0 ?_
  obtain ⟨t1, ht1, hf⟩ := ob hf
  refine B_callS1 (s_X12_laceAt hG ht1) m_X12_laceAt ks_RX12_67 d_X12_tellsLace_6 rfl (Nat.le_of_ble_eq_true rfl) ⟨rfl, rfl, Nat.le_of_ble_eq_true rfl, Nat.le_of_ble_eq_true rfl, Nat.le_of_ble_eq_true rfl⟩ (fun n => ?_)
  refine V_iload_n d_X12_tellsLace_9 rfl rfl ?_
  obtain ⟨μ2, hμ2, hf⟩ := ob hf
  refine B_iast k_265 hμ2 d_X12_tellsLace_10 ?_
  refine V_aload_n d_X12_tellsLace_11 rfl rfl ?_
  refine B_get k_264 fl_RX12_13 d_X12_tellsLace_12 g_12_1 ?_
  refine V_iload_n d_X12_tellsLace_15 rfl rfl ?_
  refine V_iconst (v := 1) d_X12_tellsLace_16 ic_1 ?_
  obtain ⟨t3, ht3, hf⟩ := ob hf
  refine B_callS1 (s_X12_laceAt hG ht3) m_X12_laceAt ks_RX12_67 d_X12_tellsLace_17 rfl (Nat.le_of_ble_eq_true rfl) ⟨rfl, rfl, Nat.le_of_ble_eq_true rfl, Nat.le_of_ble_eq_true rfl, Nat.le_of_ble_eq_true rfl⟩ (fun n => ?_)
  refine V_iload_n d_X12_tellsLace_20 rfl rfl ?_
  obtain ⟨μ4, hμ4, hf⟩ := ob hf
  refine B_iast k_265 hμ4 d_X12_tellsLace_21 ?_
  refine V_aload_n d_X12_tellsLace_22 rfl rfl ?_
  refine B_get k_264 fl_RX12_13 d_X12_tellsLace_23 g_12_1 ?_
  refine V_iload_n d_X12_tellsLace_26 rfl rfl ?_
  refine V_iconst (v := 2) d_X12_tellsLace_27 ic_2 ?_
  obtain ⟨t5, ht5, hf⟩ := ob hf
  refine B_callS1 (s_X12_laceAt hG ht5) m_X12_laceAt ks_RX12_67 d_X12_tellsLace_28 rfl (Nat.le_of_ble_eq_true rfl) ⟨rfl, rfl, Nat.le_of_ble_eq_true rfl, Nat.le_of_ble_eq_true rfl, Nat.le_of_ble_eq_true rfl⟩ (fun n => ?_)
  refine V_iload d_X12_tellsLace_31 rfl ?_
  obtain ⟨μ6, hμ6, hf⟩ := ob hf
  refine B_iast k_265 hμ6 d_X12_tellsLace_33 ?_
  refine V_aload_n d_X12_tellsLace_34 rfl rfl ?_
  refine B_get k_264 fl_RX12_13 d_X12_tellsLace_35 g_12_1 ?_
  refine V_iload_n d_X12_tellsLace_38 rfl rfl ?_
  refine V_iconst (v := 3) d_X12_tellsLace_39 ic_3 ?_
  obtain ⟨t7, ht7, hf⟩ := ob hf
  refine B_callS1 (s_X12_laceAt hG ht7) m_X12_laceAt ks_RX12_67 d_X12_tellsLace_40 rfl (Nat.le_of_ble_eq_true rfl) ⟨rfl, rfl, Nat.le_of_ble_eq_true rfl, Nat.le_of_ble_eq_true rfl, Nat.le_of_ble_eq_true rfl⟩ (fun n => ?_)
  refine V_iload d_X12_tellsLace_43 rfl ?_
  obtain ⟨μ8, hμ8, hf⟩ := ob hf
  refine B_iast k_265 hμ8 d_X12_tellsLace_45 ?_
  refine V_aload_n d_X12_tellsLace_46 rfl rfl ?_
  refine B_get k_264 fl_RX12_13 d_X12_tellsLace_47 g_12_1 ?_
  refine V_iload_n d_X12_tellsLace_50 rfl rfl ?_
  refine V_iconst (v := 4) d_X12_tellsLace_51 ic_4 ?_
  obtain ⟨t9, ht9, hf⟩ := ob hf
  refine B_callS1 (s_X12_laceAt hG ht9) m_X12_laceAt ks_RX12_67 d_X12_tellsLace_52 rfl (Nat.le_of_ble_eq_true rfl) ⟨rfl, rfl, Nat.le_of_ble_eq_true rfl, Nat.le_of_ble_eq_true rfl, Nat.le_of_ble_eq_true rfl⟩ (fun n => ?_)
  refine V_iload d_X12_tellsLace_55 rfl ?_
  obtain ⟨μ10, hμ10, hf⟩ := ob hf
  refine B_iast k_265 hμ10 d_X12_tellsLace_57 ?_
  refine V_aload_n d_X12_tellsLace_58 rfl rfl ?_
  refine B_get k_264 fl_RX12_13 d_X12_tellsLace_59 g_12_1 ?_
  refine V_iload_n d_X12_tellsLace_62 rfl rfl ?_
  refine V_iconst (v := 5) d_X12_tellsLace_63 ic_5 ?_
  obtain ⟨t11, ht11, hf⟩ := ob hf
  refine B_callS1 (s_X12_laceAt hG ht11) m_X12_laceAt ks_RX12_67 d_X12_tellsLace_64 rfl (Nat.le_of_ble_eq_true rfl) ⟨rfl, rfl, Nat.le_of_ble_eq_true rfl, Nat.le_of_ble_eq_true rfl, Nat.le_of_ble_eq_true rfl⟩ (fun n => ?_)
  refine V_iconst (v := (-1)) d_X12_tellsLace_67 ic_m1 ?_
  obtain ⟨μ12, hμ12, hf⟩ := ob hf
  refine B_iast k_265 hμ12 d_X12_tellsLace_68 ?_
  cases hf
  exact R_v hK d_X12_tellsLace_69 (Nat.le_of_ble_eq_true rfl) (Nat.le_of_ble_eq_true rfl)
theorem s_X12_tellsLace {G : Gl} (hG : G.1.stackTraces = false) {μ : Mem} {p1 : Int32} {p2 : Int32} {p3 : Int32} {p4 : Int32} {p5 : Int32} {p6 : Int32} {r : Mem} (hf : f_X12_tellsLace μ p1 p2 p3 p4 p5 p6 = some r) : Rt G yX12_tellsLace F_X12_tellsLace none [.ref (G.2.1 + 264), .int p1, .int p2, .int p3, .int p4, .int p5, .int p6] μ none r := fun n => Sd.of hG ⟨by decide +kernel, rfl, rfl⟩ rfl (Nat.le_of_ble_eq_true rfl) rfl (fun C hK => s_X12_tellsLace_e hG hf hK)
theorem d_X12_comesBack_0 : decode cX12_comesBack 0 = .ok (.aload_n 0, 1) := by decide +kernel
theorem d_X12_comesBack_1 : decode cX12_comesBack 1 = .ok (.iload_n 1, 1) := by decide +kernel
theorem d_X12_comesBack_2 : decode cX12_comesBack 2 = .ok (.iconst 0, 1) := by decide +kernel
theorem d_X12_comesBack_3 : decode cX12_comesBack 3 = .ok (.iconst (-1), 1) := by decide +kernel
theorem d_X12_comesBack_4 : decode cX12_comesBack 4 = .ok (.iconst 0, 1) := by decide +kernel
theorem d_X12_comesBack_5 : decode cX12_comesBack 5 = .ok (.iconst 0, 1) := by decide +kernel
theorem d_X12_comesBack_6 : decode cX12_comesBack 6 = .ok (.iconst 0, 1) := by decide +kernel
theorem d_X12_comesBack_7 : decode cX12_comesBack 7 = .ok (.invokevirtual 80, 3) := by decide +kernel
theorem d_X12_comesBack_10 : decode cX12_comesBack 10 = .ok (.return_, 1) := by decide +kernel
theorem s_X12_comesBack_e {G : Gl} (hG : G.1.stackTraces = false) {C : Cx} {n : Nat} {μ : Mem} {p1 : Int32} {r : Mem} (hf : f_X12_comesBack μ p1 = some r) (hK : FinR G C F_X12_comesBack none none r) : V G C F_X12_comesBack 0 [some (.ref (G.2.1 + 264)), some (.int p1)] [] (pic G μ) n 0 0 := by
  unfold f_X12_comesBack at hf
  refine V_aload_n d_X12_comesBack_0 rfl rfl ?_
  refine V_iload_n d_X12_comesBack_1 rfl rfl ?_
  refine V_iconst (v := 0) d_X12_comesBack_2 ic_0 ?_
  refine V_iconst (v := (-1)) d_X12_comesBack_3 ic_m1 ?_
  refine V_iconst (v := 0) d_X12_comesBack_4 ic_0 ?_
  refine V_iconst (v := 0) d_X12_comesBack_5 ic_0 ?_
  refine V_iconst (v := 0) d_X12_comesBack_6 ic_0 ?_
  obtain ⟨q1, hq1, hf⟩ := ob hf
  refine B_callV0 (s_X12_tellsLace hG hq1) k_264 clX12 m_X12_tellsLace kv_RX12_80 d_X12_comesBack_7 rfl (Nat.le_of_ble_eq_true rfl) ⟨rfl, rfl, Nat.le_of_ble_eq_true rfl, Nat.le_of_ble_eq_true rfl, Nat.le_of_ble_eq_true rfl⟩ (fun n => ?_)
  cases hf
  exact R_v hK d_X12_comesBack_10 (Nat.le_of_ble_eq_true rfl) (Nat.le_of_ble_eq_true rfl)
theorem s_X12_comesBack {G : Gl} (hG : G.1.stackTraces = false) {μ : Mem} {p1 : Int32} {r : Mem} (hf : f_X12_comesBack μ p1 = some r) : Rt G yX12_comesBack F_X12_comesBack none [.ref (G.2.1 + 264), .int p1] μ none r := fun n => Sd.of hG ⟨by decide +kernel, rfl, rfl⟩ rfl (Nat.le_of_ble_eq_true rfl) rfl (fun C hK => s_X12_comesBack_e hG hf hK)
theorem d_X12_gets_0 : decode cX12_gets 0 = .ok (.aload_n 0, 1) := by decide +kernel
theorem d_X12_gets_1 : decode cX12_gets 1 = .ok (.getfield 13, 3) := by decide +kernel
theorem d_X12_gets_4 : decode cX12_gets 4 = .ok (.iload_n 1, 1) := by decide +kernel
theorem d_X12_gets_5 : decode cX12_gets 5 = .ok (.iconst 0, 1) := by decide +kernel
theorem d_X12_gets_6 : decode cX12_gets 6 = .ok (.invokestatic 63, 3) := by decide +kernel
theorem d_X12_gets_9 : decode cX12_gets 9 = .ok (.sipush 999, 3) := by decide +kernel
theorem d_X12_gets_12 : decode cX12_gets 12 = .ok (.aload_n 0, 1) := by decide +kernel
theorem d_X12_gets_13 : decode cX12_gets 13 = .ok (.iload_n 1, 1) := by decide +kernel
theorem d_X12_gets_14 : decode cX12_gets 14 = .ok (.iconst 0, 1) := by decide +kernel
theorem d_X12_gets_15 : decode cX12_gets 15 = .ok (.invokevirtual 84, 3) := by decide +kernel
theorem d_X12_gets_18 : decode cX12_gets 18 = .ok (.iload_n 2, 1) := by decide +kernel
theorem d_X12_gets_19 : decode cX12_gets 19 = .ok (.iadd, 1) := by decide +kernel
theorem d_X12_gets_20 : decode cX12_gets 20 = .ok (.invokestatic 87, 3) := by decide +kernel
theorem d_X12_gets_23 : decode cX12_gets 23 = .ok (.iastore, 1) := by decide +kernel
theorem d_X12_gets_24 : decode cX12_gets 24 = .ok (.return_, 1) := by decide +kernel
theorem s_X12_gets_e {G : Gl} (hG : G.1.stackTraces = false) {C : Cx} {n : Nat} {μ : Mem} {p1 : Int32} {p2 : Int32} {r : Mem} (hf : f_X12_gets μ p1 p2 = some r) (hK : FinR G C F_X12_gets none none r) : V G C F_X12_gets 0 [some (.ref (G.2.1 + 264)), some (.int p1), some (.int p2)] [] (pic G μ) n 0 0 := by
  unfold f_X12_gets at hf
  refine V_aload_n d_X12_gets_0 rfl rfl ?_
  refine B_get k_264 fl_RX12_13 d_X12_gets_1 g_12_1 ?_
  refine V_iload_n d_X12_gets_4 rfl rfl ?_
  refine V_iconst (v := 0) d_X12_gets_5 ic_0 ?_
  obtain ⟨t1, ht1, hf⟩ := ob hf
  refine B_callS1 (s_X12_at hG ht1) m_X12_at ks_RX12_63 d_X12_gets_6 rfl (Nat.le_of_ble_eq_true rfl) ⟨rfl, rfl, Nat.le_of_ble_eq_true rfl, Nat.le_of_ble_eq_true rfl, Nat.le_of_ble_eq_true rfl⟩ (fun n => ?_)
  refine V_sipush (v := 999) d_X12_gets_9 sp_999 ?_
  refine V_aload_n d_X12_gets_12 rfl rfl ?_
  refine V_iload_n d_X12_gets_13 rfl rfl ?_
  refine V_iconst (v := 0) d_X12_gets_14 ic_0 ?_
  obtain ⟨t2, ht2, hf⟩ := ob hf
  refine B_callV1 (s_X12_of hG ht2) k_264 clX12 m_X12_of kv_RX12_84 d_X12_gets_15 rfl (Nat.le_of_ble_eq_true rfl) ⟨rfl, rfl, Nat.le_of_ble_eq_true rfl, Nat.le_of_ble_eq_true rfl, Nat.le_of_ble_eq_true rfl⟩ (fun n => ?_)
  refine V_iload_n d_X12_gets_18 rfl rfl ?_
  refine V_iadd d_X12_gets_19 ?_
  obtain ⟨t3, ht3, hf⟩ := ob hf
  refine B_callS1 (s_J9_min_7cf53 hG ht3) m_J9_min_7cf53 ks_RX12_87 d_X12_gets_20 rfl (Nat.le_of_ble_eq_true rfl) ⟨rfl, rfl, Nat.le_of_ble_eq_true rfl, Nat.le_of_ble_eq_true rfl, Nat.le_of_ble_eq_true rfl⟩ (fun n => ?_)
  obtain ⟨μ4, hμ4, hf⟩ := ob hf
  refine B_iast k_265 hμ4 d_X12_gets_23 ?_
  cases hf
  exact R_v hK d_X12_gets_24 (Nat.le_of_ble_eq_true rfl) (Nat.le_of_ble_eq_true rfl)
theorem s_X12_gets {G : Gl} (hG : G.1.stackTraces = false) {μ : Mem} {p1 : Int32} {p2 : Int32} {r : Mem} (hf : f_X12_gets μ p1 p2 = some r) : Rt G yX12_gets F_X12_gets none [.ref (G.2.1 + 264), .int p1, .int p2] μ none r := fun n => Sd.of hG ⟨by decide +kernel, rfl, rfl⟩ rfl (Nat.le_of_ble_eq_true rfl) rfl (fun C hK => s_X12_gets_e hG hf hK)
theorem d_X12_drawn_0 : decode cX12_drawn 0 = .ok (.aload_n 0, 1) := by decide +kernel
theorem d_X12_drawn_1 : decode cX12_drawn 1 = .ok (.getfield 13, 3) := by decide +kernel
theorem d_X12_drawn_4 : decode cX12_drawn 4 = .ok (.bipush 7, 2) := by decide +kernel
theorem d_X12_drawn_6 : decode cX12_drawn 6 = .ok (.ldc 92, 2) := by decide +kernel
theorem d_X12_drawn_8 : decode cX12_drawn 8 = .ok (.aload_n 0, 1) := by decide +kernel
theorem d_X12_drawn_9 : decode cX12_drawn 9 = .ok (.getfield 13, 3) := by decide +kernel
theorem d_X12_drawn_12 : decode cX12_drawn 12 = .ok (.bipush 7, 2) := by decide +kernel
theorem d_X12_drawn_14 : decode cX12_drawn 14 = .ok (.iaload, 1) := by decide +kernel
theorem d_X12_drawn_15 : decode cX12_drawn 15 = .ok (.imul, 1) := by decide +kernel
theorem d_X12_drawn_16 : decode cX12_drawn 16 = .ok (.sipush 12345, 3) := by decide +kernel
theorem d_X12_drawn_19 : decode cX12_drawn 19 = .ok (.iadd, 1) := by decide +kernel
theorem d_X12_drawn_20 : decode cX12_drawn 20 = .ok (.iastore, 1) := by decide +kernel
theorem d_X12_drawn_21 : decode cX12_drawn 21 = .ok (.aload_n 0, 1) := by decide +kernel
theorem d_X12_drawn_22 : decode cX12_drawn 22 = .ok (.getfield 13, 3) := by decide +kernel
theorem d_X12_drawn_25 : decode cX12_drawn 25 = .ok (.bipush 7, 2) := by decide +kernel
theorem d_X12_drawn_27 : decode cX12_drawn 27 = .ok (.iaload, 1) := by decide +kernel
theorem d_X12_drawn_28 : decode cX12_drawn 28 = .ok (.bipush 16, 2) := by decide +kernel
theorem d_X12_drawn_30 : decode cX12_drawn 30 = .ok (.ishr, 1) := by decide +kernel
theorem d_X12_drawn_31 : decode cX12_drawn 31 = .ok (.sipush 32767, 3) := by decide +kernel
theorem d_X12_drawn_34 : decode cX12_drawn 34 = .ok (.iand, 1) := by decide +kernel
theorem d_X12_drawn_35 : decode cX12_drawn 35 = .ok (.iload_n 1, 1) := by decide +kernel
theorem d_X12_drawn_36 : decode cX12_drawn 36 = .ok (.irem, 1) := by decide +kernel
theorem d_X12_drawn_37 : decode cX12_drawn 37 = .ok (.ireturn, 1) := by decide +kernel
theorem s_X12_drawn_e {G : Gl} (hG : G.1.stackTraces = false) {C : Cx} {n : Nat} {μ : Mem} {p1 : Int32} {r : (Int32 × Mem)} (hf : f_X12_drawn μ p1 = some r) (hK : FinR G C F_X12_drawn (some .int) (some (.int r.1)) r.2) : V G C F_X12_drawn 0 [some (.ref (G.2.1 + 264)), some (.int p1)] [] (pic G μ) n 0 0 := by
  unfold f_X12_drawn at hf
  refine V_aload_n d_X12_drawn_0 rfl rfl ?_
  refine B_get k_264 fl_RX12_13 d_X12_drawn_1 g_12_1 ?_
  refine V_bipush (v := 7) d_X12_drawn_4 bp_7 ?_
  refine V_ldc (v := 1103515245) d_X12_drawn_6 w_1859 ?_
  refine V_aload_n d_X12_drawn_8 rfl rfl ?_
  refine B_get k_264 fl_RX12_13 d_X12_drawn_9 g_12_1 ?_
  refine V_bipush (v := 7) d_X12_drawn_12 bp_7 ?_
  obtain ⟨t1, ht1, hf⟩ := ob hf
  refine B_iald k_265 ht1 d_X12_drawn_14 ?_
  refine V_imul d_X12_drawn_15 ?_
  refine V_sipush (v := 12345) d_X12_drawn_16 sp_12345 ?_
  refine V_iadd d_X12_drawn_19 ?_
  obtain ⟨μ2, hμ2, hf⟩ := ob hf
  refine B_iast k_265 hμ2 d_X12_drawn_20 ?_
  refine V_aload_n d_X12_drawn_21 rfl rfl ?_
  refine B_get k_264 fl_RX12_13 d_X12_drawn_22 g_12_1 ?_
  refine V_bipush (v := 7) d_X12_drawn_25 bp_7 ?_
  obtain ⟨t3, ht3, hf⟩ := ob hf
  refine B_iald k_265 ht3 d_X12_drawn_27 ?_
  refine V_bipush (v := 16) d_X12_drawn_28 bp_16 ?_
  refine V_ishr d_X12_drawn_30 ?_
  refine V_sipush (v := 32767) d_X12_drawn_31 sp_32767 ?_
  refine V_iand d_X12_drawn_34 ?_
  refine V_iload_n d_X12_drawn_35 rfl rfl ?_
  obtain ⟨t4, ht4, hf⟩ := ob hf
  obtain ⟨gt4, ht4⟩ := rm_some ht4
  refine V_irem d_X12_drawn_36 gt4 ?_
  rw [ht4]
  cases hf
  exact R_i hK d_X12_drawn_37 (Nat.le_of_ble_eq_true rfl) (Nat.le_of_ble_eq_true rfl)
theorem s_X12_drawn {G : Gl} (hG : G.1.stackTraces = false) {μ : Mem} {p1 : Int32} {r : (Int32 × Mem)} (hf : f_X12_drawn μ p1 = some r) : Rt G yX12_drawn F_X12_drawn (some .int) [.ref (G.2.1 + 264), .int p1] μ (some (.int r.1)) r.2 := fun n => Sd.of hG ⟨by decide +kernel, rfl, rfl⟩ rfl (Nat.le_of_ble_eq_true rfl) rfl (fun C hK => s_X12_drawn_e hG hf hK)
theorem d_X12_feed_0 : decode cX12_feed 0 = .ok (.aload_n 0, 1) := by decide +kernel
theorem d_X12_feed_1 : decode cX12_feed 1 = .ok (.iconst 0, 1) := by decide +kernel
theorem d_X12_feed_2 : decode cX12_feed 2 = .ok (.putfield 3, 3) := by decide +kernel
theorem d_X12_feed_5 : decode cX12_feed 5 = .ok (.aload_n 0, 1) := by decide +kernel
theorem d_X12_feed_6 : decode cX12_feed 6 = .ok (.getfield 93, 3) := by decide +kernel
theorem d_X12_feed_9 : decode cX12_feed 9 = .ok (.bipush 20, 2) := by decide +kernel
theorem d_X12_feed_11 : decode cX12_feed 11 = .ok (.iadd, 1) := by decide +kernel
theorem d_X12_feed_12 : decode cX12_feed 12 = .ok (.sipush 400, 3) := by decide +kernel
theorem d_X12_feed_15 : decode cX12_feed 15 = .ok (.if_icmp .le 5, 3) := by decide +kernel
theorem d_X12_feed_18 : decode cX12_feed 18 = .ok (.iconst (-1), 1) := by decide +kernel
theorem d_X12_feed_19 : decode cX12_feed 19 = .ok (.ireturn, 1) := by decide +kernel
theorem d_X12_feed_20 : decode cX12_feed 20 = .ok (.aload_n 0, 1) := by decide +kernel
theorem d_X12_feed_21 : decode cX12_feed 21 = .ok (.getfield 36, 3) := by decide +kernel
theorem d_X12_feed_24 : decode cX12_feed 24 = .ok (.iconst 0, 1) := by decide +kernel
theorem d_X12_feed_25 : decode cX12_feed 25 = .ok (.iload_n 1, 1) := by decide +kernel
theorem d_X12_feed_26 : decode cX12_feed 26 = .ok (.iastore, 1) := by decide +kernel
theorem d_X12_feed_27 : decode cX12_feed 27 = .ok (.aload_n 0, 1) := by decide +kernel
theorem d_X12_feed_28 : decode cX12_feed 28 = .ok (.getfield 36, 3) := by decide +kernel
theorem d_X12_feed_31 : decode cX12_feed 31 = .ok (.iconst 1, 1) := by decide +kernel
theorem d_X12_feed_32 : decode cX12_feed 32 = .ok (.iload_n 2, 1) := by decide +kernel
theorem d_X12_feed_33 : decode cX12_feed 33 = .ok (.iastore, 1) := by decide +kernel
theorem d_X12_feed_34 : decode cX12_feed 34 = .ok (.aload_n 0, 1) := by decide +kernel
theorem d_X12_feed_35 : decode cX12_feed 35 = .ok (.getfield 36, 3) := by decide +kernel
theorem d_X12_feed_38 : decode cX12_feed 38 = .ok (.iconst 2, 1) := by decide +kernel
theorem d_X12_feed_39 : decode cX12_feed 39 = .ok (.iload_n 3, 1) := by decide +kernel
theorem d_X12_feed_40 : decode cX12_feed 40 = .ok (.iastore, 1) := by decide +kernel
theorem d_X12_feed_41 : decode cX12_feed 41 = .ok (.aload_n 0, 1) := by decide +kernel
theorem d_X12_feed_42 : decode cX12_feed 42 = .ok (.getfield 36, 3) := by decide +kernel
theorem d_X12_feed_45 : decode cX12_feed 45 = .ok (.iconst 3, 1) := by decide +kernel
theorem d_X12_feed_46 : decode cX12_feed 46 = .ok (.iload 4, 2) := by decide +kernel
theorem d_X12_feed_48 : decode cX12_feed 48 = .ok (.iastore, 1) := by decide +kernel
theorem d_X12_feed_49 : decode cX12_feed 49 = .ok (.aload_n 0, 1) := by decide +kernel
theorem d_X12_feed_50 : decode cX12_feed 50 = .ok (.getfield 36, 3) := by decide +kernel
theorem d_X12_feed_53 : decode cX12_feed 53 = .ok (.iconst 4, 1) := by decide +kernel
theorem d_X12_feed_54 : decode cX12_feed 54 = .ok (.iload 5, 2) := by decide +kernel
theorem d_X12_feed_56 : decode cX12_feed 56 = .ok (.iastore, 1) := by decide +kernel
theorem d_X12_feed_57 : decode cX12_feed 57 = .ok (.iconst 0, 1) := by decide +kernel
theorem d_X12_feed_58 : decode cX12_feed 58 = .ok (.istore 6, 2) := by decide +kernel
theorem d_X12_feed_60 : decode cX12_feed 60 = .ok (.iload 6, 2) := by decide +kernel
theorem d_X12_feed_62 : decode cX12_feed 62 = .ok (.bipush 20, 2) := by decide +kernel
theorem d_X12_feed_64 : decode cX12_feed 64 = .ok (.if_icmp .ge 42, 3) := by decide +kernel
theorem d_X12_feed_67 : decode cX12_feed 67 = .ok (.aload_n 0, 1) := by decide +kernel
theorem d_X12_feed_68 : decode cX12_feed 68 = .ok (.getfield 29, 3) := by decide +kernel
theorem d_X12_feed_71 : decode cX12_feed 71 = .ok (.aload_n 0, 1) := by decide +kernel
theorem d_X12_feed_72 : decode cX12_feed 72 = .ok (.getfield 93, 3) := by decide +kernel
theorem d_X12_feed_75 : decode cX12_feed 75 = .ok (.iload 6, 2) := by decide +kernel
theorem d_X12_feed_77 : decode cX12_feed 77 = .ok (.iadd, 1) := by decide +kernel
theorem d_X12_feed_78 : decode cX12_feed 78 = .ok (.aload_n 0, 1) := by decide +kernel
theorem d_X12_feed_79 : decode cX12_feed 79 = .ok (.getfield 36, 3) := by decide +kernel
theorem d_X12_feed_82 : decode cX12_feed 82 = .ok (.iload 6, 2) := by decide +kernel
theorem d_X12_feed_84 : decode cX12_feed 84 = .ok (.iconst 4, 1) := by decide +kernel
theorem d_X12_feed_85 : decode cX12_feed 85 = .ok (.idiv, 1) := by decide +kernel
theorem d_X12_feed_86 : decode cX12_feed 86 = .ok (.iaload, 1) := by decide +kernel
theorem d_X12_feed_87 : decode cX12_feed 87 = .ok (.bipush 24, 2) := by decide +kernel
theorem d_X12_feed_89 : decode cX12_feed 89 = .ok (.bipush 8, 2) := by decide +kernel
theorem d_X12_feed_91 : decode cX12_feed 91 = .ok (.iload 6, 2) := by decide +kernel
theorem d_X12_feed_93 : decode cX12_feed 93 = .ok (.iconst 4, 1) := by decide +kernel
theorem d_X12_feed_94 : decode cX12_feed 94 = .ok (.irem, 1) := by decide +kernel
theorem d_X12_feed_95 : decode cX12_feed 95 = .ok (.imul, 1) := by decide +kernel
theorem d_X12_feed_96 : decode cX12_feed 96 = .ok (.isub, 1) := by decide +kernel
theorem d_X12_feed_97 : decode cX12_feed 97 = .ok (.ishr, 1) := by decide +kernel
theorem d_X12_feed_98 : decode cX12_feed 98 = .ok (.i2b, 1) := by decide +kernel
theorem d_X12_feed_99 : decode cX12_feed 99 = .ok (.bastore, 1) := by decide +kernel
theorem d_X12_feed_100 : decode cX12_feed 100 = .ok (.iinc 6 1, 3) := by decide +kernel
theorem d_X12_feed_103 : decode cX12_feed 103 = .ok (.goto (-43), 3) := by decide +kernel
theorem d_X12_feed_106 : decode cX12_feed 106 = .ok (.aload_n 0, 1) := by decide +kernel
theorem d_X12_feed_107 : decode cX12_feed 107 = .ok (.dup, 1) := by decide +kernel
theorem d_X12_feed_108 : decode cX12_feed 108 = .ok (.getfield 93, 3) := by decide +kernel
theorem d_X12_feed_111 : decode cX12_feed 111 = .ok (.bipush 20, 2) := by decide +kernel
theorem d_X12_feed_113 : decode cX12_feed 113 = .ok (.iadd, 1) := by decide +kernel
theorem d_X12_feed_114 : decode cX12_feed 114 = .ok (.putfield 93, 3) := by decide +kernel
theorem d_X12_feed_117 : decode cX12_feed 117 = .ok (.aload_n 0, 1) := by decide +kernel
theorem d_X12_feed_118 : decode cX12_feed 118 = .ok (.getfield 93, 3) := by decide +kernel
theorem d_X12_feed_121 : decode cX12_feed 121 = .ok (.ireturn, 1) := by decide +kernel
theorem s_X12_feed_b60 {G : Gl} (hG : G.1.stackTraces = false) {C : Cx} {n : Nat} {μ : Mem} {l6 : Int32} {y : ((Int32 × Mem) ⊕ Mem)} (hf : f_X12_feed_b60 μ l6 = some y) (hK : (∀ z', y = .inl z' → ∀ n, V G C F_X12_feed 60 [some (.ref (G.2.1 + 264)), none, none, none, none, none, some (.int z'.1)] [] (pic G z'.2) n 0 0) ∧ (∀ x', y = .inr x' → ∀ n, V G C F_X12_feed 106 [some (.ref (G.2.1 + 264)), none, none, none, none, none, none] [] (pic G x') n 0 0)) : V G C F_X12_feed 60 [some (.ref (G.2.1 + 264)), none, none, none, none, none, some (.int l6)] [] (pic G μ) n 0 0 := by
  unfold f_X12_feed_b60 at hf
  refine V_iload d_X12_feed_60 rfl ?_
  refine V_bipush (v := 20) d_X12_feed_62 bp_20 ?_
  refine V_icmp_ge (tgt := 106) d_X12_feed_64 (by decide) (fun c64 => ?_) (fun c64 => ?_)
  · replace hf := iteT c64 hf
    refine V_less (ls' := [some _, none, none, none, none, none, none]) ⟨rfl, trivial⟩ ?_
    cases hf
    exact hK.2 _ rfl _
  · replace hf := iteF c64 hf
    refine V_aload_n d_X12_feed_67 rfl rfl ?_
    refine B_get k_264 fl_RX12_29 d_X12_feed_68 g_12_8 ?_
    refine V_aload_n d_X12_feed_71 rfl rfl ?_
    refine B_get k_264 fl_RX12_93 d_X12_feed_72 g_12_9 ?_
    refine V_iload d_X12_feed_75 rfl ?_
    refine V_iadd d_X12_feed_77 ?_
    refine V_aload_n d_X12_feed_78 rfl rfl ?_
    refine B_get k_264 fl_RX12_36 d_X12_feed_79 g_12_15 ?_
    refine V_iload d_X12_feed_82 rfl ?_
    refine V_iconst (v := 4) d_X12_feed_84 ic_4 ?_
    obtain ⟨t1, ht1, hf⟩ := ob hf
    obtain ⟨gt1, ht1⟩ := dv_some ht1
    refine V_idiv d_X12_feed_85 gt1 ?_
    rw [ht1]
    obtain ⟨t2, ht2, hf⟩ := ob hf
    refine B_iald k_271 ht2 d_X12_feed_86 ?_
    refine V_bipush (v := 24) d_X12_feed_87 bp_24 ?_
    refine V_bipush (v := 8) d_X12_feed_89 bp_8 ?_
    refine V_iload d_X12_feed_91 rfl ?_
    refine V_iconst (v := 4) d_X12_feed_93 ic_4 ?_
    obtain ⟨t3, ht3, hf⟩ := ob hf
    obtain ⟨gt3, ht3⟩ := rm_some ht3
    refine V_irem d_X12_feed_94 gt3 ?_
    rw [ht3]
    refine V_imul d_X12_feed_95 ?_
    refine V_isub d_X12_feed_96 ?_
    refine V_ishr d_X12_feed_97 ?_
    refine V_i2b d_X12_feed_98 ?_
    obtain ⟨μ4, hμ4, hf⟩ := ob hf
    refine B_bast k_270 hμ4 d_X12_feed_99 ?_
    refine V_iinc (v := (l6 + 1)) (ls' := [_, _, _, _, _, _, _]) d_X12_feed_100 rfl (by rw [ic_1]) rfl ?_
    refine V_goto (tgt := 60) d_X12_feed_103 (by decide) ?_
    refine V_less (ls' := [some _, none, none, none, none, none, some _]) ⟨rfl, rfl, trivial⟩ ?_
    cases hf
    exact hK.1 _ rfl _
theorem s_X12_feed_j106 {G : Gl} (hG : G.1.stackTraces = false) {C : Cx} {n : Nat} {μ : Mem}  {r : (Int32 × Mem)} (hf : f_X12_feed_j106 μ = some r) (hK : FinR G C F_X12_feed (some .int) (some (.int r.1)) r.2) : V G C F_X12_feed 106 [some (.ref (G.2.1 + 264)), none, none, none, none, none, none] [] (pic G μ) n 0 0 := by
  unfold f_X12_feed_j106 at hf
  refine V_aload_n d_X12_feed_106 rfl rfl ?_
  refine V_dup d_X12_feed_107 rfl ?_
  refine B_get k_264 fl_RX12_93 d_X12_feed_108 g_12_9 ?_
  refine V_bipush (v := 20) d_X12_feed_111 bp_20 ?_
  refine V_iadd d_X12_feed_113 ?_
  refine B_putI k_264 fl_RX12_93 pt_12_9 (Nat.le_of_ble_eq_true rfl) p_12_9 d_X12_feed_114 ?_
  refine V_aload_n d_X12_feed_117 rfl rfl ?_
  refine B_get k_264 fl_RX12_93 d_X12_feed_118 g_12_9 ?_
  cases hf
  exact R_i hK d_X12_feed_121 (Nat.le_of_ble_eq_true rfl) (Nat.le_of_ble_eq_true rfl)
theorem s_X12_feed_l60 {G : Gl} (hG : G.1.stackTraces = false) {C : Cx} {n : Nat} {μ : Mem} {l6 : Int32} {r : (Int32 × Mem)} (hf : f_X12_feed_l60 μ l6 = some r) (hK : FinR G C F_X12_feed (some .int) (some (.int r.1)) r.2) : V G C F_X12_feed 60 [some (.ref (G.2.1 + 264)), none, none, none, none, none, some (.int l6)] [] (pic G μ) n 0 0 := by
  unfold f_X12_feed_l60 at hf
  obtain ⟨t, hl, hf⟩ := ob hf
  refine loopV (P := fun z => ∀ n, V G C F_X12_feed 60 [some (.ref (G.2.1 + 264)), none, none, none, none, none, some (.int z.1)] [] (pic G z.2) n 0 0) (t := t) ?_ _ _ hl n
  intro z y' hy hI hT n
  refine s_X12_feed_b60 hG hy ⟨hI, fun x9 ex => ?_⟩
  have ex2 := hT x9 ex
  subst ex2
  intro n
  exact s_X12_feed_j106 hG hf hK
theorem s_X12_feed_e {G : Gl} (hG : G.1.stackTraces = false) {C : Cx} {n : Nat} {μ : Mem} {p1 : Int32} {p2 : Int32} {p3 : Int32} {p4 : Int32} {p5 : Int32} {r : (Int32 × Mem)} (hf : f_X12_feed μ p1 p2 p3 p4 p5 = some r) (hK : FinR G C F_X12_feed (some .int) (some (.int r.1)) r.2) : V G C F_X12_feed 0 [some (.ref (G.2.1 + 264)), some (.int p1), some (.int p2), some (.int p3), some (.int p4), some (.int p5), none] [] (pic G μ) n 0 0 := by
  unfold f_X12_feed at hf
  refine V_aload_n d_X12_feed_0 rfl rfl ?_
  refine V_iconst (v := 0) d_X12_feed_1 ic_0 ?_
  refine B_putI k_264 fl_RX12_3 pt_12_0 (Nat.le_of_ble_eq_true rfl) p_12_0 d_X12_feed_2 ?_
  refine V_aload_n d_X12_feed_5 rfl rfl ?_
  refine B_get k_264 fl_RX12_93 d_X12_feed_6 g_12_9 ?_
  refine V_bipush (v := 20) d_X12_feed_9 bp_20 ?_
  refine V_iadd d_X12_feed_11 ?_
  refine V_sipush (v := 400) d_X12_feed_12 sp_400 ?_
  refine V_icmp_le (tgt := 20) d_X12_feed_15 (by decide) (fun c15 => ?_) (fun c15 => ?_)
  · replace hf := iteT c15 hf
    refine V_aload_n d_X12_feed_20 rfl rfl ?_
    refine B_get k_264 fl_RX12_36 d_X12_feed_21 g_12_15 ?_
    refine V_iconst (v := 0) d_X12_feed_24 ic_0 ?_
    refine V_iload_n d_X12_feed_25 rfl rfl ?_
    obtain ⟨μ1, hμ1, hf⟩ := ob hf
    refine B_iast k_271 hμ1 d_X12_feed_26 ?_
    refine V_aload_n d_X12_feed_27 rfl rfl ?_
    refine B_get k_264 fl_RX12_36 d_X12_feed_28 g_12_15 ?_
    refine V_iconst (v := 1) d_X12_feed_31 ic_1 ?_
    refine V_iload_n d_X12_feed_32 rfl rfl ?_
    obtain ⟨μ2, hμ2, hf⟩ := ob hf
    refine B_iast k_271 hμ2 d_X12_feed_33 ?_
    refine V_aload_n d_X12_feed_34 rfl rfl ?_
    refine B_get k_264 fl_RX12_36 d_X12_feed_35 g_12_15 ?_
    refine V_iconst (v := 2) d_X12_feed_38 ic_2 ?_
    refine V_iload_n d_X12_feed_39 rfl rfl ?_
    obtain ⟨μ3, hμ3, hf⟩ := ob hf
    refine B_iast k_271 hμ3 d_X12_feed_40 ?_
    refine V_aload_n d_X12_feed_41 rfl rfl ?_
    refine B_get k_264 fl_RX12_36 d_X12_feed_42 g_12_15 ?_
    refine V_iconst (v := 3) d_X12_feed_45 ic_3 ?_
    refine V_iload d_X12_feed_46 rfl ?_
    obtain ⟨μ4, hμ4, hf⟩ := ob hf
    refine B_iast k_271 hμ4 d_X12_feed_48 ?_
    refine V_aload_n d_X12_feed_49 rfl rfl ?_
    refine B_get k_264 fl_RX12_36 d_X12_feed_50 g_12_15 ?_
    refine V_iconst (v := 4) d_X12_feed_53 ic_4 ?_
    refine V_iload d_X12_feed_54 rfl ?_
    obtain ⟨μ5, hμ5, hf⟩ := ob hf
    refine B_iast k_271 hμ5 d_X12_feed_56 ?_
    refine V_iconst (v := 0) d_X12_feed_57 ic_0 ?_
    refine V_istore (ls' := [_, _, _, _, _, _, _]) d_X12_feed_58 rfl rfl ?_
    refine V_less (ls' := [some _, none, none, none, none, none, some _]) ⟨rfl, rfl, trivial⟩ ?_
    exact s_X12_feed_l60 hG hf hK
  · replace hf := iteF c15 hf
    refine V_iconst (v := (-1)) d_X12_feed_18 ic_m1 ?_
    cases hf
    exact R_i hK d_X12_feed_19 (Nat.le_of_ble_eq_true rfl) (Nat.le_of_ble_eq_true rfl)
theorem s_X12_feed {G : Gl} (hG : G.1.stackTraces = false) {μ : Mem} {p1 : Int32} {p2 : Int32} {p3 : Int32} {p4 : Int32} {p5 : Int32} {r : (Int32 × Mem)} (hf : f_X12_feed μ p1 p2 p3 p4 p5 = some r) : Rt G yX12_feed F_X12_feed (some .int) [.ref (G.2.1 + 264), .int p1, .int p2, .int p3, .int p4, .int p5] μ (some (.int r.1)) r.2 := fun n => Sd.of hG ⟨by decide +kernel, rfl, rfl⟩ rfl (Nat.le_of_ble_eq_true rfl) rfl (fun C hK => s_X12_feed_e hG hf hK)
theorem d_X12_end_0 : decode cX12_end 0 = .ok (.aload_n 0, 1) := by decide +kernel
theorem d_X12_end_1 : decode cX12_end 1 = .ok (.iconst 0, 1) := by decide +kernel
theorem d_X12_end_2 : decode cX12_end 2 = .ok (.putfield 3, 3) := by decide +kernel
theorem d_X12_end_5 : decode cX12_end 5 = .ok (.iload_n 1, 1) := by decide +kernel
theorem d_X12_end_6 : decode cX12_end 6 = .ok (.ifCond .lt 11, 3) := by decide +kernel
theorem d_X12_end_9 : decode cX12_end 9 = .ok (.iload_n 1, 1) := by decide +kernel
theorem d_X12_end_10 : decode cX12_end 10 = .ok (.aload_n 0, 1) := by decide +kernel
theorem d_X12_end_11 : decode cX12_end 11 = .ok (.getfield 93, 3) := by decide +kernel
theorem d_X12_end_14 : decode cX12_end 14 = .ok (.if_icmp .le 5, 3) := by decide +kernel
theorem d_X12_end_17 : decode cX12_end 17 = .ok (.iconst 0, 1) := by decide +kernel
theorem d_X12_end_18 : decode cX12_end 18 = .ok (.ireturn, 1) := by decide +kernel
theorem d_X12_end_19 : decode cX12_end 19 = .ok (.aload_n 0, 1) := by decide +kernel
theorem d_X12_end_20 : decode cX12_end 20 = .ok (.iload_n 1, 1) := by decide +kernel
theorem d_X12_end_21 : decode cX12_end 21 = .ok (.putfield 93, 3) := by decide +kernel
theorem d_X12_end_24 : decode cX12_end 24 = .ok (.iconst 1, 1) := by decide +kernel
theorem d_X12_end_25 : decode cX12_end 25 = .ok (.ireturn, 1) := by decide +kernel
theorem s_X12_end_j17 {G : Gl} (hG : G.1.stackTraces = false) {C : Cx} {n : Nat} {μ : Mem}  {r : (Bool × Mem)} (hf : f_X12_end_j17 μ = some r) (hK : FinR G C F_X12_end (some .boolean) (some (.int (b2i r.1))) r.2) : V G C F_X12_end 17 [none, none] [] (pic G μ) n 0 0 := by
  unfold f_X12_end_j17 at hf
  refine V_iconst (v := 0) d_X12_end_17 ic_0 ?_
  cases hf
  exact R_z hK d_X12_end_18 (Nat.le_of_ble_eq_true rfl) (Nat.le_of_ble_eq_true rfl)
theorem s_X12_end_e {G : Gl} (hG : G.1.stackTraces = false) {C : Cx} {n : Nat} {μ : Mem} {p1 : Int32} {r : (Bool × Mem)} (hf : f_X12_end μ p1 = some r) (hK : FinR G C F_X12_end (some .boolean) (some (.int (b2i r.1))) r.2) : V G C F_X12_end 0 [some (.ref (G.2.1 + 264)), some (.int p1)] [] (pic G μ) n 0 0 := by
  unfold f_X12_end at hf
  refine V_aload_n d_X12_end_0 rfl rfl ?_
  refine V_iconst (v := 0) d_X12_end_1 ic_0 ?_
  refine B_putI k_264 fl_RX12_3 pt_12_0 (Nat.le_of_ble_eq_true rfl) p_12_0 d_X12_end_2 ?_
  refine V_iload_n d_X12_end_5 rfl rfl ?_
  refine V_if_lt (tgt := 17) d_X12_end_6 (by decide) (fun c6 => ?_) (fun c6 => ?_)
  · replace hf := iteT c6 hf
    refine V_less (ls' := [none, none]) trivial ?_
    exact s_X12_end_j17 hG hf hK
  · replace hf := iteF c6 hf
    refine V_iload_n d_X12_end_9 rfl rfl ?_
    refine V_aload_n d_X12_end_10 rfl rfl ?_
    refine B_get k_264 fl_RX12_93 d_X12_end_11 g_12_9 ?_
    refine V_icmp_le (tgt := 19) d_X12_end_14 (by decide) (fun c14 => ?_) (fun c14 => ?_)
    · replace hf := iteT c14 hf
      refine V_aload_n d_X12_end_19 rfl rfl ?_
      refine V_iload_n d_X12_end_20 rfl rfl ?_
      refine B_putI k_264 fl_RX12_93 pt_12_9 (Nat.le_of_ble_eq_true rfl) p_12_9 d_X12_end_21 ?_
      refine V_iconst (v := 1) d_X12_end_24 ic_1 ?_
      cases hf
      exact R_z hK d_X12_end_25 (Nat.le_of_ble_eq_true rfl) (Nat.le_of_ble_eq_true rfl)
    · replace hf := iteF c14 hf
      refine V_less (ls' := [none, none]) trivial ?_
      exact s_X12_end_j17 hG hf hK
theorem s_X12_end {G : Gl} (hG : G.1.stackTraces = false) {μ : Mem} {p1 : Int32} {r : (Bool × Mem)} (hf : f_X12_end μ p1 = some r) : Rt G yX12_end F_X12_end (some .boolean) [.ref (G.2.1 + 264), .int p1] μ (some (.int (b2i r.1))) r.2 := fun n => Sd.of hG ⟨by decide +kernel, rfl, rfl⟩ rfl (Nat.le_of_ble_eq_true rfl) rfl (fun C hK => s_X12_end_e hG hf hK)
theorem d_X12_isAt_0 : decode cX12_isAt 0 = .ok (.aload_n 0, 1) := by decide +kernel
theorem d_X12_isAt_1 : decode cX12_isAt 1 = .ok (.getfield 96, 3) := by decide +kernel
theorem d_X12_isAt_4 : decode cX12_isAt 4 = .ok (.aload_n 0, 1) := by decide +kernel
theorem d_X12_isAt_5 : decode cX12_isAt 5 = .ok (.getfield 99, 3) := by decide +kernel
theorem d_X12_isAt_8 : decode cX12_isAt 8 = .ok (.if_icmp .ge 33, 3) := by decide +kernel
theorem d_X12_isAt_11 : decode cX12_isAt 11 = .ok (.aload_n 0, 1) := by decide +kernel
theorem d_X12_isAt_12 : decode cX12_isAt 12 = .ok (.getfield 29, 3) := by decide +kernel
theorem d_X12_isAt_15 : decode cX12_isAt 15 = .ok (.aload_n 0, 1) := by decide +kernel
theorem d_X12_isAt_16 : decode cX12_isAt 16 = .ok (.getfield 96, 3) := by decide +kernel
theorem d_X12_isAt_19 : decode cX12_isAt 19 = .ok (.baload, 1) := by decide +kernel
theorem d_X12_isAt_20 : decode cX12_isAt 20 = .ok (.iload_n 1, 1) := by decide +kernel
theorem d_X12_isAt_21 : decode cX12_isAt 21 = .ok (.if_icmp .lt 20, 3) := by decide +kernel
theorem d_X12_isAt_24 : decode cX12_isAt 24 = .ok (.aload_n 0, 1) := by decide +kernel
theorem d_X12_isAt_25 : decode cX12_isAt 25 = .ok (.getfield 29, 3) := by decide +kernel
theorem d_X12_isAt_28 : decode cX12_isAt 28 = .ok (.aload_n 0, 1) := by decide +kernel
theorem d_X12_isAt_29 : decode cX12_isAt 29 = .ok (.getfield 96, 3) := by decide +kernel
theorem d_X12_isAt_32 : decode cX12_isAt 32 = .ok (.baload, 1) := by decide +kernel
theorem d_X12_isAt_33 : decode cX12_isAt 33 = .ok (.iload_n 2, 1) := by decide +kernel
theorem d_X12_isAt_34 : decode cX12_isAt 34 = .ok (.if_icmp .gt 7, 3) := by decide +kernel
theorem d_X12_isAt_37 : decode cX12_isAt 37 = .ok (.iconst 1, 1) := by decide +kernel
theorem d_X12_isAt_38 : decode cX12_isAt 38 = .ok (.goto 4, 3) := by decide +kernel
theorem d_X12_isAt_41 : decode cX12_isAt 41 = .ok (.iconst 0, 1) := by decide +kernel
theorem d_X12_isAt_42 : decode cX12_isAt 42 = .ok (.ireturn, 1) := by decide +kernel
theorem s_X12_isAt_j42 {G : Gl} (hG : G.1.stackTraces = false) {C : Cx} {n : Nat} {μ : Mem} {k0 : Bool} {r : Bool} (hf : f_X12_isAt_j42 μ k0 = some r) (hK : FinR G C F_X12_isAt (some .boolean) (some (.int (b2i r))) μ) : V G C F_X12_isAt 42 [none, none, none] [.int (b2i k0)] (pic G μ) n 0 0 := by
  unfold f_X12_isAt_j42 at hf
  cases hf
  exact R_z hK d_X12_isAt_42 (Nat.le_of_ble_eq_true rfl) (Nat.le_of_ble_eq_true rfl)
theorem s_X12_isAt_j41 {G : Gl} (hG : G.1.stackTraces = false) {C : Cx} {n : Nat} {μ : Mem}  {r : Bool} (hf : f_X12_isAt_j41 μ = some r) (hK : FinR G C F_X12_isAt (some .boolean) (some (.int (b2i r))) μ) : V G C F_X12_isAt 41 [none, none, none] [] (pic G μ) n 0 0 := by
  unfold f_X12_isAt_j41 at hf
  refine V_iconst (v := 0) d_X12_isAt_41 ic_0 ?_
  refine V_less (ls' := [none, none, none]) trivial ?_
  exact s_X12_isAt_j42 hG hf hK
theorem s_X12_isAt_e {G : Gl} (hG : G.1.stackTraces = false) {C : Cx} {n : Nat} {μ : Mem} {p1 : Int32} {p2 : Int32} {r : Bool} (hf : f_X12_isAt μ p1 p2 = some r) (hK : FinR G C F_X12_isAt (some .boolean) (some (.int (b2i r))) μ) : V G C F_X12_isAt 0 [some (.ref (G.2.1 + 264)), some (.int p1), some (.int p2)] [] (pic G μ) n 0 0 := by
  unfold f_X12_isAt at hf
  refine V_aload_n d_X12_isAt_0 rfl rfl ?_
  refine B_get k_264 fl_RX12_96 d_X12_isAt_1 g_12_10 ?_
  refine V_aload_n d_X12_isAt_4 rfl rfl ?_
  refine B_get k_264 fl_RX12_99 d_X12_isAt_5 g_12_11 ?_
  refine V_icmp_ge (tgt := 41) d_X12_isAt_8 (by decide) (fun c8 => ?_) (fun c8 => ?_)
  · replace hf := iteT c8 hf
    refine V_less (ls' := [none, none, none]) trivial ?_
    exact s_X12_isAt_j41 hG hf hK
  · replace hf := iteF c8 hf
    refine V_aload_n d_X12_isAt_11 rfl rfl ?_
    refine B_get k_264 fl_RX12_29 d_X12_isAt_12 g_12_8 ?_
    refine V_aload_n d_X12_isAt_15 rfl rfl ?_
    refine B_get k_264 fl_RX12_96 d_X12_isAt_16 g_12_10 ?_
    obtain ⟨t1, ht1, hf⟩ := ob hf
    refine B_bald k_270 ht1 d_X12_isAt_19 ?_
    refine V_iload_n d_X12_isAt_20 rfl rfl ?_
    refine V_icmp_lt (tgt := 41) d_X12_isAt_21 (by decide) (fun c21 => ?_) (fun c21 => ?_)
    · replace hf := iteT c21 hf
      refine V_less (ls' := [none, none, none]) trivial ?_
      exact s_X12_isAt_j41 hG hf hK
    · replace hf := iteF c21 hf
      refine V_aload_n d_X12_isAt_24 rfl rfl ?_
      refine B_get k_264 fl_RX12_29 d_X12_isAt_25 g_12_8 ?_
      refine V_aload_n d_X12_isAt_28 rfl rfl ?_
      refine B_get k_264 fl_RX12_96 d_X12_isAt_29 g_12_10 ?_
      obtain ⟨t2, ht2, hf⟩ := ob hf
      refine B_bald k_270 ht2 d_X12_isAt_32 ?_
      refine V_iload_n d_X12_isAt_33 rfl rfl ?_
      have hJj3 : ∀ j3 : Bool, j3 = (if p2 < t2 then (false : Bool) else true) → V G C F_X12_isAt 42 [none, none, none] [.int (b2i j3)] (pic G μ) n 0 0 := by
        intro j3 ej3
        subst ej3
        cases hf
        exact R_z hK d_X12_isAt_42 (Nat.le_of_ble_eq_true rfl) (Nat.le_of_ble_eq_true rfl)
      refine V_icmp_gt (tgt := 41) d_X12_isAt_34 (by decide) (fun c34 => ?_) (fun c34 => ?_)
      · refine V_iconst (v := 0) d_X12_isAt_41 ic_0 ?_
        refine V_less (ls' := [none, none, none]) trivial ?_
        exact hJj3 false (by rw [if_pos c34])
      · refine V_iconst (v := 1) d_X12_isAt_37 ic_1 ?_
        refine V_goto (tgt := 42) d_X12_isAt_38 (by decide) ?_
        refine V_less (ls' := [none, none, none]) trivial ?_
        exact hJj3 true (by rw [if_neg c34])
theorem s_X12_isAt {G : Gl} (hG : G.1.stackTraces = false) {μ : Mem} {p1 : Int32} {p2 : Int32} {r : Bool} (hf : f_X12_isAt μ p1 p2 = some r) : Rt G yX12_isAt F_X12_isAt (some .boolean) [.ref (G.2.1 + 264), .int p1, .int p2] μ (some (.int (b2i r))) μ := fun n => Sd.of hG ⟨by decide +kernel, rfl, rfl⟩ rfl (Nat.le_of_ble_eq_true rfl) rfl (fun C hK => s_X12_isAt_e hG hf hK)
theorem d_X12_blanks_0 : decode cX12_blanks 0 = .ok (.aload_n 0, 1) := by decide +kernel
theorem d_X12_blanks_1 : decode cX12_blanks 1 = .ok (.bipush 32, 2) := by decide +kernel
theorem d_X12_blanks_3 : decode cX12_blanks 3 = .ok (.bipush 32, 2) := by decide +kernel
theorem d_X12_blanks_5 : decode cX12_blanks 5 = .ok (.invokevirtual 102, 3) := by decide +kernel
theorem d_X12_blanks_8 : decode cX12_blanks 8 = .ok (.ifCond .eq 16, 3) := by decide +kernel
theorem d_X12_blanks_11 : decode cX12_blanks 11 = .ok (.aload_n 0, 1) := by decide +kernel
theorem d_X12_blanks_12 : decode cX12_blanks 12 = .ok (.dup, 1) := by decide +kernel
theorem d_X12_blanks_13 : decode cX12_blanks 13 = .ok (.getfield 96, 3) := by decide +kernel
theorem d_X12_blanks_16 : decode cX12_blanks 16 = .ok (.iconst 1, 1) := by decide +kernel
theorem d_X12_blanks_17 : decode cX12_blanks 17 = .ok (.iadd, 1) := by decide +kernel
theorem d_X12_blanks_18 : decode cX12_blanks 18 = .ok (.putfield 96, 3) := by decide +kernel
theorem d_X12_blanks_21 : decode cX12_blanks 21 = .ok (.goto (-21), 3) := by decide +kernel
theorem d_X12_blanks_24 : decode cX12_blanks 24 = .ok (.aload_n 0, 1) := by decide +kernel
theorem d_X12_blanks_25 : decode cX12_blanks 25 = .ok (.aload_n 0, 1) := by decide +kernel
theorem d_X12_blanks_26 : decode cX12_blanks 26 = .ok (.getfield 96, 3) := by decide +kernel
theorem d_X12_blanks_29 : decode cX12_blanks 29 = .ok (.putfield 106, 3) := by decide +kernel
theorem d_X12_blanks_32 : decode cX12_blanks 32 = .ok (.return_, 1) := by decide +kernel
theorem s_X12_blanks_b0 {G : Gl} (hG : G.1.stackTraces = false) {C : Cx} {n : Nat} {μ : Mem}  {y : (Mem ⊕ Mem)} (hf : f_X12_blanks_b0 μ = some y) (hK : (∀ z', y = .inl z' → ∀ n, V G C F_X12_blanks 0 [some (.ref (G.2.1 + 264))] [] (pic G z') n 0 0) ∧ (∀ x', y = .inr x' → ∀ n, V G C F_X12_blanks 24 [some (.ref (G.2.1 + 264))] [] (pic G x') n 0 0)) : V G C F_X12_blanks 0 [some (.ref (G.2.1 + 264))] [] (pic G μ) n 0 0 := by
  unfold f_X12_blanks_b0 at hf
  refine V_aload_n d_X12_blanks_0 rfl rfl ?_
  refine V_bipush (v := 32) d_X12_blanks_1 bp_32 ?_
  refine V_bipush (v := 32) d_X12_blanks_3 bp_32 ?_
  obtain ⟨t1, ht1, hf⟩ := ob hf
  refine B_callV1 (s_X12_isAt hG ht1) k_264 clX12 m_X12_isAt kv_RX12_102 d_X12_blanks_5 rfl (Nat.le_of_ble_eq_true rfl) ⟨rfl, rfl, Nat.le_of_ble_eq_true rfl, Nat.le_of_ble_eq_true rfl, Nat.le_of_ble_eq_true rfl⟩ (fun n => ?_)
  refine V_if_eq (tgt := 24) d_X12_blanks_8 (by decide) (fun c8 => ?_) (fun c8 => ?_)
  · replace hf := iteF (b2i_nt (b2i_eq0 c8)) hf
    refine V_less (ls' := [some _]) ⟨rfl, trivial⟩ ?_
    cases hf
    exact hK.2 _ rfl _
  · replace hf := iteT (b2i_ne0 c8) hf
    refine V_aload_n d_X12_blanks_11 rfl rfl ?_
    refine V_dup d_X12_blanks_12 rfl ?_
    refine B_get k_264 fl_RX12_96 d_X12_blanks_13 g_12_10 ?_
    refine V_iconst (v := 1) d_X12_blanks_16 ic_1 ?_
    refine V_iadd d_X12_blanks_17 ?_
    refine B_putI k_264 fl_RX12_96 pt_12_10 (Nat.le_of_ble_eq_true rfl) p_12_10 d_X12_blanks_18 ?_
    refine V_goto (tgt := 0) d_X12_blanks_21 (by decide) ?_
    refine V_less (ls' := [some _]) ⟨rfl, trivial⟩ ?_
    cases hf
    exact hK.1 _ rfl _
theorem s_X12_blanks_j24 {G : Gl} (hG : G.1.stackTraces = false) {C : Cx} {n : Nat} {μ : Mem}  {r : Mem} (hf : f_X12_blanks_j24 μ = some r) (hK : FinR G C F_X12_blanks none none r) : V G C F_X12_blanks 24 [some (.ref (G.2.1 + 264))] [] (pic G μ) n 0 0 := by
  unfold f_X12_blanks_j24 at hf
  refine V_aload_n d_X12_blanks_24 rfl rfl ?_
  refine V_aload_n d_X12_blanks_25 rfl rfl ?_
  refine B_get k_264 fl_RX12_96 d_X12_blanks_26 g_12_10 ?_
  refine B_putI k_264 fl_RX12_106 pt_12_12 (Nat.le_of_ble_eq_true rfl) p_12_12 d_X12_blanks_29 ?_
  cases hf
  exact R_v hK d_X12_blanks_32 (Nat.le_of_ble_eq_true rfl) (Nat.le_of_ble_eq_true rfl)
theorem s_X12_blanks_l0 {G : Gl} (hG : G.1.stackTraces = false) {C : Cx} {n : Nat} {μ : Mem}  {r : Mem} (hf : f_X12_blanks_l0 μ = some r) (hK : FinR G C F_X12_blanks none none r) : V G C F_X12_blanks 0 [some (.ref (G.2.1 + 264))] [] (pic G μ) n 0 0 := by
  unfold f_X12_blanks_l0 at hf
  obtain ⟨t, hl, hf⟩ := ob hf
  refine loopV (P := fun z => ∀ n, V G C F_X12_blanks 0 [some (.ref (G.2.1 + 264))] [] (pic G z) n 0 0) (t := t) ?_ _ _ hl n
  intro z y' hy hI hT n
  refine s_X12_blanks_b0 hG hy ⟨hI, fun x9 ex => ?_⟩
  have ex2 := hT x9 ex
  subst ex2
  intro n
  exact s_X12_blanks_j24 hG hf hK
theorem s_X12_blanks_e {G : Gl} (hG : G.1.stackTraces = false) {C : Cx} {n : Nat} {μ : Mem}  {r : Mem} (hf : f_X12_blanks μ = some r) (hK : FinR G C F_X12_blanks none none r) : V G C F_X12_blanks 0 [some (.ref (G.2.1 + 264))] [] (pic G μ) n 0 0 := by
  unfold f_X12_blanks at hf
  refine V_aload_n d_X12_blanks_0 rfl rfl ?_
  refine V_bipush (v := 32) d_X12_blanks_1 bp_32 ?_
  refine V_bipush (v := 32) d_X12_blanks_3 bp_32 ?_
  obtain ⟨t1, ht1, hf⟩ := ob hf
  refine B_callV1 (s_X12_isAt hG ht1) k_264 clX12 m_X12_isAt kv_RX12_102 d_X12_blanks_5 rfl (Nat.le_of_ble_eq_true rfl) ⟨rfl, rfl, Nat.le_of_ble_eq_true rfl, Nat.le_of_ble_eq_true rfl, Nat.le_of_ble_eq_true rfl⟩ (fun n => ?_)
  refine V_if_eq (tgt := 24) d_X12_blanks_8 (by decide) (fun c8 => ?_) (fun c8 => ?_)
  · replace hf := iteF (b2i_nt (b2i_eq0 c8)) hf
    refine V_aload_n d_X12_blanks_24 rfl rfl ?_
    refine V_aload_n d_X12_blanks_25 rfl rfl ?_
    refine B_get k_264 fl_RX12_96 d_X12_blanks_26 g_12_10 ?_
    refine B_putI k_264 fl_RX12_106 pt_12_12 (Nat.le_of_ble_eq_true rfl) p_12_12 d_X12_blanks_29 ?_
    cases hf
    exact R_v hK d_X12_blanks_32 (Nat.le_of_ble_eq_true rfl) (Nat.le_of_ble_eq_true rfl)
  · replace hf := iteT (b2i_ne0 c8) hf
    refine V_aload_n d_X12_blanks_11 rfl rfl ?_
    refine V_dup d_X12_blanks_12 rfl ?_
    refine B_get k_264 fl_RX12_96 d_X12_blanks_13 g_12_10 ?_
    refine V_iconst (v := 1) d_X12_blanks_16 ic_1 ?_
    refine V_iadd d_X12_blanks_17 ?_
    refine B_putI k_264 fl_RX12_96 pt_12_10 (Nat.le_of_ble_eq_true rfl) p_12_10 d_X12_blanks_18 ?_
    refine V_goto (tgt := 0) d_X12_blanks_21 (by decide) ?_
    refine V_less (ls' := [some _]) ⟨rfl, trivial⟩ ?_
    exact s_X12_blanks_l0 hG hf hK
theorem s_X12_blanks {G : Gl} (hG : G.1.stackTraces = false) {μ : Mem} {r : Mem} (hf : f_X12_blanks μ = some r) : Rt G yX12_blanks F_X12_blanks none [.ref (G.2.1 + 264)] μ none r := fun n => Sd.of hG ⟨by decide +kernel, rfl, rfl⟩ rfl (Nat.le_of_ble_eq_true rfl) rfl (fun C hK => s_X12_blanks_e hG hf hK)
theorem d_X12_letters_0 : decode cX12_letters 0 = .ok (.aload_n 0, 1) := by decide +kernel
theorem d_X12_letters_1 : decode cX12_letters 1 = .ok (.invokevirtual 109, 3) := by decide +kernel
theorem d_X12_letters_4 : decode cX12_letters 4 = .ok (.aload_n 0, 1) := by decide +kernel
theorem d_X12_letters_5 : decode cX12_letters 5 = .ok (.bipush 97, 2) := by decide +kernel
theorem d_X12_letters_7 : decode cX12_letters 7 = .ok (.bipush 122, 2) := by decide +kernel
theorem d_X12_letters_9 : decode cX12_letters 9 = .ok (.invokevirtual 102, 3) := by decide +kernel
theorem d_X12_letters_12 : decode cX12_letters 12 = .ok (.ifCond .eq 16, 3) := by decide +kernel
theorem d_X12_letters_15 : decode cX12_letters 15 = .ok (.aload_n 0, 1) := by decide +kernel
theorem d_X12_letters_16 : decode cX12_letters 16 = .ok (.dup, 1) := by decide +kernel
theorem d_X12_letters_17 : decode cX12_letters 17 = .ok (.getfield 96, 3) := by decide +kernel
theorem d_X12_letters_20 : decode cX12_letters 20 = .ok (.iconst 1, 1) := by decide +kernel
theorem d_X12_letters_21 : decode cX12_letters 21 = .ok (.iadd, 1) := by decide +kernel
theorem d_X12_letters_22 : decode cX12_letters 22 = .ok (.putfield 96, 3) := by decide +kernel
theorem d_X12_letters_25 : decode cX12_letters 25 = .ok (.goto (-21), 3) := by decide +kernel
theorem d_X12_letters_28 : decode cX12_letters 28 = .ok (.return_, 1) := by decide +kernel
theorem s_X12_letters_b4 {G : Gl} (hG : G.1.stackTraces = false) {C : Cx} {n : Nat} {μ : Mem}  {y : (Mem ⊕ Mem)} (hf : f_X12_letters_b4 μ = some y) (hK : (∀ z', y = .inl z' → ∀ n, V G C F_X12_letters 4 [some (.ref (G.2.1 + 264))] [] (pic G z') n 0 0) ∧ (∀ x', y = .inr x' → ∀ n, V G C F_X12_letters 28 [none] [] (pic G x') n 0 0)) : V G C F_X12_letters 4 [some (.ref (G.2.1 + 264))] [] (pic G μ) n 0 0 := by
  unfold f_X12_letters_b4 at hf
  refine V_aload_n d_X12_letters_4 rfl rfl ?_
  refine V_bipush (v := 97) d_X12_letters_5 bp_97 ?_
  refine V_bipush (v := 122) d_X12_letters_7 bp_122 ?_
  obtain ⟨t1, ht1, hf⟩ := ob hf
  refine B_callV1 (s_X12_isAt hG ht1) k_264 clX12 m_X12_isAt kv_RX12_102 d_X12_letters_9 rfl (Nat.le_of_ble_eq_true rfl) ⟨rfl, rfl, Nat.le_of_ble_eq_true rfl, Nat.le_of_ble_eq_true rfl, Nat.le_of_ble_eq_true rfl⟩ (fun n => ?_)
  refine V_if_eq (tgt := 28) d_X12_letters_12 (by decide) (fun c12 => ?_) (fun c12 => ?_)
  · replace hf := iteF (b2i_nt (b2i_eq0 c12)) hf
    refine V_less (ls' := [none]) trivial ?_
    cases hf
    exact hK.2 _ rfl _
  · replace hf := iteT (b2i_ne0 c12) hf
    refine V_aload_n d_X12_letters_15 rfl rfl ?_
    refine V_dup d_X12_letters_16 rfl ?_
    refine B_get k_264 fl_RX12_96 d_X12_letters_17 g_12_10 ?_
    refine V_iconst (v := 1) d_X12_letters_20 ic_1 ?_
    refine V_iadd d_X12_letters_21 ?_
    refine B_putI k_264 fl_RX12_96 pt_12_10 (Nat.le_of_ble_eq_true rfl) p_12_10 d_X12_letters_22 ?_
    refine V_goto (tgt := 4) d_X12_letters_25 (by decide) ?_
    refine V_less (ls' := [some _]) ⟨rfl, trivial⟩ ?_
    cases hf
    exact hK.1 _ rfl _
theorem s_X12_letters_j28 {G : Gl} (hG : G.1.stackTraces = false) {C : Cx} {n : Nat} {μ : Mem}  {r : Mem} (hf : f_X12_letters_j28 μ = some r) (hK : FinR G C F_X12_letters none none r) : V G C F_X12_letters 28 [none] [] (pic G μ) n 0 0 := by
  unfold f_X12_letters_j28 at hf
  cases hf
  exact R_v hK d_X12_letters_28 (Nat.le_of_ble_eq_true rfl) (Nat.le_of_ble_eq_true rfl)
theorem s_X12_letters_l4 {G : Gl} (hG : G.1.stackTraces = false) {C : Cx} {n : Nat} {μ : Mem}  {r : Mem} (hf : f_X12_letters_l4 μ = some r) (hK : FinR G C F_X12_letters none none r) : V G C F_X12_letters 4 [some (.ref (G.2.1 + 264))] [] (pic G μ) n 0 0 := by
  unfold f_X12_letters_l4 at hf
  obtain ⟨t, hl, hf⟩ := ob hf
  refine loopV (P := fun z => ∀ n, V G C F_X12_letters 4 [some (.ref (G.2.1 + 264))] [] (pic G z) n 0 0) (t := t) ?_ _ _ hl n
  intro z y' hy hI hT n
  refine s_X12_letters_b4 hG hy ⟨hI, fun x9 ex => ?_⟩
  have ex2 := hT x9 ex
  subst ex2
  intro n
  exact s_X12_letters_j28 hG hf hK
theorem s_X12_letters_e {G : Gl} (hG : G.1.stackTraces = false) {C : Cx} {n : Nat} {μ : Mem}  {r : Mem} (hf : f_X12_letters μ = some r) (hK : FinR G C F_X12_letters none none r) : V G C F_X12_letters 0 [some (.ref (G.2.1 + 264))] [] (pic G μ) n 0 0 := by
  unfold f_X12_letters at hf
  refine V_aload_n d_X12_letters_0 rfl rfl ?_
  obtain ⟨q1, hq1, hf⟩ := ob hf
  refine B_callV0 (s_X12_blanks hG hq1) k_264 clX12 m_X12_blanks kv_RX12_109 d_X12_letters_1 rfl (Nat.le_of_ble_eq_true rfl) ⟨rfl, rfl, Nat.le_of_ble_eq_true rfl, Nat.le_of_ble_eq_true rfl, Nat.le_of_ble_eq_true rfl⟩ (fun n => ?_)
  refine V_less (ls' := [some _]) ⟨rfl, trivial⟩ ?_
  exact s_X12_letters_l4 hG hf hK
theorem s_X12_letters {G : Gl} (hG : G.1.stackTraces = false) {μ : Mem} {r : Mem} (hf : f_X12_letters μ = some r) : Rt G yX12_letters F_X12_letters none [.ref (G.2.1 + 264)] μ none r := fun n => Sd.of hG ⟨by decide +kernel, rfl, rfl⟩ rfl (Nat.le_of_ble_eq_true rfl) rfl (fun C hK => s_X12_letters_e hG hf hK)
theorem d_X12_isWord_0 : decode cX12_isWord 0 = .ok (.aload_n 0, 1) := by decide +kernel
theorem d_X12_isWord_1 : decode cX12_isWord 1 = .ok (.getfield 96, 3) := by decide +kernel
theorem d_X12_isWord_4 : decode cX12_isWord 4 = .ok (.aload_n 0, 1) := by decide +kernel
theorem d_X12_isWord_5 : decode cX12_isWord 5 = .ok (.getfield 106, 3) := by decide +kernel
theorem d_X12_isWord_8 : decode cX12_isWord 8 = .ok (.isub, 1) := by decide +kernel
theorem d_X12_isWord_9 : decode cX12_isWord 9 = .ok (.aload_n 1, 1) := by decide +kernel
theorem d_X12_isWord_10 : decode cX12_isWord 10 = .ok (.invokevirtual 112, 3) := by decide +kernel
theorem d_X12_isWord_13 : decode cX12_isWord 13 = .ok (.if_icmp .ne 7, 3) := by decide +kernel
theorem d_X12_isWord_16 : decode cX12_isWord 16 = .ok (.iconst 1, 1) := by decide +kernel
theorem d_X12_isWord_17 : decode cX12_isWord 17 = .ok (.goto 4, 3) := by decide +kernel
theorem d_X12_isWord_20 : decode cX12_isWord 20 = .ok (.iconst 0, 1) := by decide +kernel
theorem d_X12_isWord_21 : decode cX12_isWord 21 = .ok (.istore_n 2, 1) := by decide +kernel
theorem d_X12_isWord_22 : decode cX12_isWord 22 = .ok (.iconst 0, 1) := by decide +kernel
theorem d_X12_isWord_23 : decode cX12_isWord 23 = .ok (.istore_n 3, 1) := by decide +kernel
theorem d_X12_isWord_24 : decode cX12_isWord 24 = .ok (.iload_n 2, 1) := by decide +kernel
theorem d_X12_isWord_25 : decode cX12_isWord 25 = .ok (.ifCond .eq 42, 3) := by decide +kernel
theorem d_X12_isWord_28 : decode cX12_isWord 28 = .ok (.iload_n 3, 1) := by decide +kernel
theorem d_X12_isWord_29 : decode cX12_isWord 29 = .ok (.aload_n 1, 1) := by decide +kernel
theorem d_X12_isWord_30 : decode cX12_isWord 30 = .ok (.invokevirtual 112, 3) := by decide +kernel
theorem d_X12_isWord_33 : decode cX12_isWord 33 = .ok (.if_icmp .ge 34, 3) := by decide +kernel
theorem d_X12_isWord_36 : decode cX12_isWord 36 = .ok (.aload_n 0, 1) := by decide +kernel
theorem d_X12_isWord_37 : decode cX12_isWord 37 = .ok (.getfield 29, 3) := by decide +kernel
theorem d_X12_isWord_40 : decode cX12_isWord 40 = .ok (.aload_n 0, 1) := by decide +kernel
theorem d_X12_isWord_41 : decode cX12_isWord 41 = .ok (.getfield 106, 3) := by decide +kernel
theorem d_X12_isWord_44 : decode cX12_isWord 44 = .ok (.iload_n 3, 1) := by decide +kernel
theorem d_X12_isWord_45 : decode cX12_isWord 45 = .ok (.iadd, 1) := by decide +kernel
theorem d_X12_isWord_46 : decode cX12_isWord 46 = .ok (.baload, 1) := by decide +kernel
theorem d_X12_isWord_47 : decode cX12_isWord 47 = .ok (.aload_n 1, 1) := by decide +kernel
theorem d_X12_isWord_48 : decode cX12_isWord 48 = .ok (.iload_n 3, 1) := by decide +kernel
theorem d_X12_isWord_49 : decode cX12_isWord 49 = .ok (.invokevirtual 117, 3) := by decide +kernel
theorem d_X12_isWord_52 : decode cX12_isWord 52 = .ok (.if_icmp .ne 7, 3) := by decide +kernel
theorem d_X12_isWord_55 : decode cX12_isWord 55 = .ok (.iconst 1, 1) := by decide +kernel
theorem d_X12_isWord_56 : decode cX12_isWord 56 = .ok (.goto 4, 3) := by decide +kernel
theorem d_X12_isWord_59 : decode cX12_isWord 59 = .ok (.iconst 0, 1) := by decide +kernel
theorem d_X12_isWord_60 : decode cX12_isWord 60 = .ok (.istore_n 2, 1) := by decide +kernel
theorem d_X12_isWord_61 : decode cX12_isWord 61 = .ok (.iinc 3 1, 3) := by decide +kernel
theorem d_X12_isWord_64 : decode cX12_isWord 64 = .ok (.goto (-40), 3) := by decide +kernel
theorem d_X12_isWord_67 : decode cX12_isWord 67 = .ok (.iload_n 2, 1) := by decide +kernel
theorem d_X12_isWord_68 : decode cX12_isWord 68 = .ok (.ireturn, 1) := by decide +kernel
theorem s_X12_isWord_b24 {G : Gl} (hG : G.1.stackTraces = false) {C : Cx} {n : Nat} {μ : Mem} {s1 : Nat} {l2 : Bool} {l3 : Int32} (hs1 : s1 < nS_n) {y : ((Bool × Int32) ⊕ Bool)} (hf : f_X12_isWord_b24 μ s1 l2 l3 = some y) (hK : (∀ z', y = .inl z' → ∀ n, V G C F_X12_isWord 24 [some (.ref (G.2.1 + 264)), some (.ref (G.2.2.2.2.1 s1)), some (.int (b2i z'.1)), some (.int z'.2)] [] (pic G μ) n 0 0) ∧ (∀ x', y = .inr x' → ∀ n, V G C F_X12_isWord 67 [none, none, some (.int (b2i x')), none] [] (pic G μ) n 0 0)) : V G C F_X12_isWord 24 [some (.ref (G.2.1 + 264)), some (.ref (G.2.2.2.2.1 s1)), some (.int (b2i l2)), some (.int l3)] [] (pic G μ) n 0 0 := by
  unfold f_X12_isWord_b24 at hf
  refine V_iload_n d_X12_isWord_24 rfl rfl ?_
  refine V_if_eq (tgt := 67) d_X12_isWord_25 (by decide) (fun c25 => ?_) (fun c25 => ?_)
  · replace hf := iteF (b2i_nt (b2i_eq0 c25)) hf
    refine V_less (ls' := [none, none, some _, none]) ⟨rfl, trivial⟩ ?_
    cases hf
    exact hK.2 _ rfl _
  · replace hf := iteT (b2i_ne0 c25) hf
    refine V_iload_n d_X12_isWord_28 rfl rfl ?_
    refine V_aload_n d_X12_isWord_29 rfl rfl ?_
    refine B_slen hG hs1 kv_RX12_112 d_X12_isWord_30 ⟨Nat.le_of_ble_eq_true rfl, Nat.le_of_ble_eq_true rfl, Nat.le_of_ble_eq_true rfl⟩ (Nat.le_of_ble_eq_true rfl) (fun n => ?_)
    refine V_icmp_ge (tgt := 67) d_X12_isWord_33 (by decide) (fun c33 => ?_) (fun c33 => ?_)
    · replace hf := iteT c33 hf
      refine V_less (ls' := [none, none, some _, none]) ⟨rfl, trivial⟩ ?_
      cases hf
      exact hK.2 _ rfl _
    · replace hf := iteF c33 hf
      refine V_aload_n d_X12_isWord_36 rfl rfl ?_
      refine B_get k_264 fl_RX12_29 d_X12_isWord_37 g_12_8 ?_
      refine V_aload_n d_X12_isWord_40 rfl rfl ?_
      refine B_get k_264 fl_RX12_106 d_X12_isWord_41 g_12_12 ?_
      refine V_iload_n d_X12_isWord_44 rfl rfl ?_
      refine V_iadd d_X12_isWord_45 ?_
      obtain ⟨t1, ht1, hf⟩ := ob hf
      refine B_bald k_270 ht1 d_X12_isWord_46 ?_
      refine V_aload_n d_X12_isWord_47 rfl rfl ?_
      refine V_iload_n d_X12_isWord_48 rfl rfl ?_
      obtain ⟨t2, ht2, hf⟩ := ob hf
      refine B_schar hG hs1 ht2 kv_RX12_117 d_X12_isWord_49 ⟨Nat.le_of_ble_eq_true rfl, Nat.le_of_ble_eq_true rfl, Nat.le_of_ble_eq_true rfl⟩ (Nat.le_of_ble_eq_true rfl) (fun n => ?_)
      have hJj3 : ∀ j3 : Bool, j3 = (if t1 = t2 then (true : Bool) else false) → V G C F_X12_isWord 60 [some (.ref (G.2.1 + 264)), some (.ref (G.2.2.2.2.1 s1)), none, some (.int l3)] [.int (b2i j3)] (pic G μ) n 0 0 := by
        intro j3 ej3
        subst ej3
        refine V_istore_n (ls' := [_, _, _, _]) d_X12_isWord_60 rfl rfl rfl ?_
        refine V_iinc (v := (l3 + 1)) (ls' := [_, _, _, _]) d_X12_isWord_61 rfl (by rw [ic_1]) rfl ?_
        refine V_goto (tgt := 24) d_X12_isWord_64 (by decide) ?_
        refine V_less (ls' := [some _, some _, some _, some _]) ⟨rfl, rfl, rfl, rfl, trivial⟩ ?_
        cases hf
        exact hK.1 _ rfl _
      refine V_icmp_ne (tgt := 59) d_X12_isWord_52 (by decide) (fun c52 => ?_) (fun c52 => ?_)
      · refine V_iconst (v := 0) d_X12_isWord_59 ic_0 ?_
        refine V_less (ls' := [some _, some _, none, some _]) ⟨rfl, rfl, rfl, trivial⟩ ?_
        exact hJj3 false (by rw [if_neg c52])
      · refine V_iconst (v := 1) d_X12_isWord_55 ic_1 ?_
        refine V_goto (tgt := 60) d_X12_isWord_56 (by decide) ?_
        refine V_less (ls' := [some _, some _, none, some _]) ⟨rfl, rfl, rfl, trivial⟩ ?_
        exact hJj3 true (by rw [if_pos c52])
theorem s_X12_isWord_j67 {G : Gl} (hG : G.1.stackTraces = false) {C : Cx} {n : Nat} {μ : Mem} {s1 : Nat} {l2 : Bool} (hs1 : s1 < nS_n) {r : Bool} (hf : f_X12_isWord_j67 μ s1 l2 = some r) (hK : FinR G C F_X12_isWord (some .boolean) (some (.int (b2i r))) μ) : V G C F_X12_isWord 67 [none, none, some (.int (b2i l2)), none] [] (pic G μ) n 0 0 := by
  unfold f_X12_isWord_j67 at hf
  refine V_iload_n d_X12_isWord_67 rfl rfl ?_
  cases hf
  exact R_z hK d_X12_isWord_68 (Nat.le_of_ble_eq_true rfl) (Nat.le_of_ble_eq_true rfl)
theorem s_X12_isWord_l24 {G : Gl} (hG : G.1.stackTraces = false) {C : Cx} {n : Nat} {μ : Mem} {s1 : Nat} {l2 : Bool} {l3 : Int32} (hs1 : s1 < nS_n) {r : Bool} (hf : f_X12_isWord_l24 μ s1 l2 l3 = some r) (hK : FinR G C F_X12_isWord (some .boolean) (some (.int (b2i r))) μ) : V G C F_X12_isWord 24 [some (.ref (G.2.1 + 264)), some (.ref (G.2.2.2.2.1 s1)), some (.int (b2i l2)), some (.int l3)] [] (pic G μ) n 0 0 := by
  unfold f_X12_isWord_l24 at hf
  obtain ⟨t, hl, hf⟩ := ob hf
  refine loopV (P := fun z => ∀ n, V G C F_X12_isWord 24 [some (.ref (G.2.1 + 264)), some (.ref (G.2.2.2.2.1 s1)), some (.int (b2i z.1)), some (.int z.2)] [] (pic G μ) n 0 0) (t := t) ?_ _ _ hl n
  intro z y' hy hI hT n
  refine s_X12_isWord_b24 hG hs1 hy ⟨hI, fun x9 ex => ?_⟩
  have ex2 := hT x9 ex
  subst ex2
  intro n
  exact s_X12_isWord_j67 hG hs1 hf hK
theorem s_X12_isWord_e {G : Gl} (hG : G.1.stackTraces = false) {C : Cx} {n : Nat} {μ : Mem} {s1 : Nat} (hs1 : s1 < nS_n) {r : Bool} (hf : f_X12_isWord μ s1 = some r) (hK : FinR G C F_X12_isWord (some .boolean) (some (.int (b2i r))) μ) : V G C F_X12_isWord 0 [some (.ref (G.2.1 + 264)), some (.ref (G.2.2.2.2.1 s1)), none, none] [] (pic G μ) n 0 0 := by
  unfold f_X12_isWord at hf
  refine V_aload_n d_X12_isWord_0 rfl rfl ?_
  refine B_get k_264 fl_RX12_96 d_X12_isWord_1 g_12_10 ?_
  refine V_aload_n d_X12_isWord_4 rfl rfl ?_
  refine B_get k_264 fl_RX12_106 d_X12_isWord_5 g_12_12 ?_
  refine V_isub d_X12_isWord_8 ?_
  refine V_aload_n d_X12_isWord_9 rfl rfl ?_
  refine B_slen hG hs1 kv_RX12_112 d_X12_isWord_10 ⟨Nat.le_of_ble_eq_true rfl, Nat.le_of_ble_eq_true rfl, Nat.le_of_ble_eq_true rfl⟩ (Nat.le_of_ble_eq_true rfl) (fun n => ?_)
  have hJj1 : ∀ j1 : Bool, j1 = (if ((μ 264 10) - (μ 264 12)) = (slen s1) then (true : Bool) else false) → V G C F_X12_isWord 21 [some (.ref (G.2.1 + 264)), some (.ref (G.2.2.2.2.1 s1)), none, none] [.int (b2i j1)] (pic G μ) n 0 0 := by
    intro j1 ej1
    subst ej1
    refine V_istore_n (ls' := [_, _, _, _]) d_X12_isWord_21 rfl rfl rfl ?_
    refine V_iconst (v := 0) d_X12_isWord_22 ic_0 ?_
    refine V_istore_n (ls' := [_, _, _, _]) d_X12_isWord_23 rfl rfl rfl ?_
    refine V_less (ls' := [some _, some _, some _, some _]) ⟨rfl, rfl, rfl, rfl, trivial⟩ ?_
    exact s_X12_isWord_l24 hG hs1 hf hK
  refine V_icmp_ne (tgt := 20) d_X12_isWord_13 (by decide) (fun c13 => ?_) (fun c13 => ?_)
  · refine V_iconst (v := 0) d_X12_isWord_20 ic_0 ?_
    refine V_less (ls' := [some _, some _, none, none]) ⟨rfl, rfl, trivial⟩ ?_
    exact hJj1 false (by rw [if_neg c13])
  · refine V_iconst (v := 1) d_X12_isWord_16 ic_1 ?_
    refine V_goto (tgt := 21) d_X12_isWord_17 (by decide) ?_
    refine V_less (ls' := [some _, some _, none, none]) ⟨rfl, rfl, trivial⟩ ?_
    exact hJj1 true (by rw [if_pos c13])
theorem s_X12_isWord {G : Gl} (hG : G.1.stackTraces = false) {μ : Mem} {s1 : Nat} (hs1 : s1 < nS_n) {r : Bool} (hf : f_X12_isWord μ s1 = some r) : Rt G yX12_isWord F_X12_isWord (some .boolean) [.ref (G.2.1 + 264), .ref (G.2.2.2.2.1 s1)] μ (some (.int (b2i r))) μ := fun n => Sd.of hG ⟨by decide +kernel, rfl, rfl⟩ rfl (Nat.le_of_ble_eq_true rfl) rfl (fun C hK => s_X12_isWord_e hG hs1 hf hK)
theorem d_X12_passes_0 : decode cX12_passes 0 = .ok (.aload_n 0, 1) := by decide +kernel
theorem d_X12_passes_1 : decode cX12_passes 1 = .ok (.invokevirtual 121, 3) := by decide +kernel
theorem d_X12_passes_4 : decode cX12_passes 4 = .ok (.aload_n 0, 1) := by decide +kernel
theorem d_X12_passes_5 : decode cX12_passes 5 = .ok (.aload_n 1, 1) := by decide +kernel
theorem d_X12_passes_6 : decode cX12_passes 6 = .ok (.invokevirtual 124, 3) := by decide +kernel
theorem d_X12_passes_9 : decode cX12_passes 9 = .ok (.ifCond .eq 5, 3) := by decide +kernel
theorem d_X12_passes_12 : decode cX12_passes 12 = .ok (.iconst 1, 1) := by decide +kernel
theorem d_X12_passes_13 : decode cX12_passes 13 = .ok (.ireturn, 1) := by decide +kernel
theorem d_X12_passes_14 : decode cX12_passes 14 = .ok (.aload_n 0, 1) := by decide +kernel
theorem d_X12_passes_15 : decode cX12_passes 15 = .ok (.aload_n 0, 1) := by decide +kernel
theorem d_X12_passes_16 : decode cX12_passes 16 = .ok (.getfield 106, 3) := by decide +kernel
theorem d_X12_passes_19 : decode cX12_passes 19 = .ok (.putfield 96, 3) := by decide +kernel
theorem d_X12_passes_22 : decode cX12_passes 22 = .ok (.iconst 0, 1) := by decide +kernel
theorem d_X12_passes_23 : decode cX12_passes 23 = .ok (.ireturn, 1) := by decide +kernel
theorem s_X12_passes_e {G : Gl} (hG : G.1.stackTraces = false) {C : Cx} {n : Nat} {μ : Mem} {s1 : Nat} (hs1 : s1 < nS_n) {r : (Bool × Mem)} (hf : f_X12_passes μ s1 = some r) (hK : FinR G C F_X12_passes (some .boolean) (some (.int (b2i r.1))) r.2) : V G C F_X12_passes 0 [some (.ref (G.2.1 + 264)), some (.ref (G.2.2.2.2.1 s1))] [] (pic G μ) n 0 0 := by
  unfold f_X12_passes at hf
  refine V_aload_n d_X12_passes_0 rfl rfl ?_
  obtain ⟨q1, hq1, hf⟩ := ob hf
  refine B_callV0 (s_X12_letters hG hq1) k_264 clX12 m_X12_letters kv_RX12_121 d_X12_passes_1 rfl (Nat.le_of_ble_eq_true rfl) ⟨rfl, rfl, Nat.le_of_ble_eq_true rfl, Nat.le_of_ble_eq_true rfl, Nat.le_of_ble_eq_true rfl⟩ (fun n => ?_)
  refine V_aload_n d_X12_passes_4 rfl rfl ?_
  refine V_aload_n d_X12_passes_5 rfl rfl ?_
  obtain ⟨t2, ht2, hf⟩ := ob hf
  refine B_callV1 (s_X12_isWord hG hs1 ht2) k_264 clX12 m_X12_isWord kv_RX12_124 d_X12_passes_6 rfl (Nat.le_of_ble_eq_true rfl) ⟨rfl, rfl, Nat.le_of_ble_eq_true rfl, Nat.le_of_ble_eq_true rfl, Nat.le_of_ble_eq_true rfl⟩ (fun n => ?_)
  refine V_if_eq (tgt := 14) d_X12_passes_9 (by decide) (fun c9 => ?_) (fun c9 => ?_)
  · replace hf := iteF (b2i_nt (b2i_eq0 c9)) hf
    refine V_aload_n d_X12_passes_14 rfl rfl ?_
    refine V_aload_n d_X12_passes_15 rfl rfl ?_
    refine B_get k_264 fl_RX12_106 d_X12_passes_16 g_12_12 ?_
    refine B_putI k_264 fl_RX12_96 pt_12_10 (Nat.le_of_ble_eq_true rfl) p_12_10 d_X12_passes_19 ?_
    refine V_iconst (v := 0) d_X12_passes_22 ic_0 ?_
    cases hf
    exact R_z hK d_X12_passes_23 (Nat.le_of_ble_eq_true rfl) (Nat.le_of_ble_eq_true rfl)
  · replace hf := iteT (b2i_ne0 c9) hf
    refine V_iconst (v := 1) d_X12_passes_12 ic_1 ?_
    cases hf
    exact R_z hK d_X12_passes_13 (Nat.le_of_ble_eq_true rfl) (Nat.le_of_ble_eq_true rfl)
theorem s_X12_passes {G : Gl} (hG : G.1.stackTraces = false) {μ : Mem} {s1 : Nat} (hs1 : s1 < nS_n) {r : (Bool × Mem)} (hf : f_X12_passes μ s1 = some r) : Rt G yX12_passes F_X12_passes (some .boolean) [.ref (G.2.1 + 264), .ref (G.2.2.2.2.1 s1)] μ (some (.int (b2i r.1))) r.2 := fun n => Sd.of hG ⟨by decide +kernel, rfl, rfl⟩ rfl (Nat.le_of_ble_eq_true rfl) rfl (fun C hK => s_X12_passes_e hG hs1 hf hK)
theorem d_X12_sign_0 : decode cX12_sign 0 = .ok (.aload_n 0, 1) := by decide +kernel
theorem d_X12_sign_1 : decode cX12_sign 1 = .ok (.invokevirtual 109, 3) := by decide +kernel
theorem d_X12_sign_4 : decode cX12_sign 4 = .ok (.aload_n 0, 1) := by decide +kernel
theorem d_X12_sign_5 : decode cX12_sign 5 = .ok (.iload_n 1, 1) := by decide +kernel
theorem d_X12_sign_6 : decode cX12_sign 6 = .ok (.iload_n 1, 1) := by decide +kernel
theorem d_X12_sign_7 : decode cX12_sign 7 = .ok (.invokevirtual 102, 3) := by decide +kernel
theorem d_X12_sign_10 : decode cX12_sign 10 = .ok (.ifCond .ne 5, 3) := by decide +kernel
theorem d_X12_sign_13 : decode cX12_sign 13 = .ok (.iconst 0, 1) := by decide +kernel
theorem d_X12_sign_14 : decode cX12_sign 14 = .ok (.ireturn, 1) := by decide +kernel
theorem d_X12_sign_15 : decode cX12_sign 15 = .ok (.aload_n 0, 1) := by decide +kernel
theorem d_X12_sign_16 : decode cX12_sign 16 = .ok (.dup, 1) := by decide +kernel
theorem d_X12_sign_17 : decode cX12_sign 17 = .ok (.getfield 96, 3) := by decide +kernel
theorem d_X12_sign_20 : decode cX12_sign 20 = .ok (.iconst 1, 1) := by decide +kernel
theorem d_X12_sign_21 : decode cX12_sign 21 = .ok (.iadd, 1) := by decide +kernel
theorem d_X12_sign_22 : decode cX12_sign 22 = .ok (.putfield 96, 3) := by decide +kernel
theorem d_X12_sign_25 : decode cX12_sign 25 = .ok (.iconst 1, 1) := by decide +kernel
theorem d_X12_sign_26 : decode cX12_sign 26 = .ok (.ireturn, 1) := by decide +kernel
theorem s_X12_sign_e {G : Gl} (hG : G.1.stackTraces = false) {C : Cx} {n : Nat} {μ : Mem} {p1 : Int32} {r : (Bool × Mem)} (hf : f_X12_sign μ p1 = some r) (hK : FinR G C F_X12_sign (some .boolean) (some (.int (b2i r.1))) r.2) : V G C F_X12_sign 0 [some (.ref (G.2.1 + 264)), some (.int p1)] [] (pic G μ) n 0 0 := by
  unfold f_X12_sign at hf
  refine V_aload_n d_X12_sign_0 rfl rfl ?_
  obtain ⟨q1, hq1, hf⟩ := ob hf
  refine B_callV0 (s_X12_blanks hG hq1) k_264 clX12 m_X12_blanks kv_RX12_109 d_X12_sign_1 rfl (Nat.le_of_ble_eq_true rfl) ⟨rfl, rfl, Nat.le_of_ble_eq_true rfl, Nat.le_of_ble_eq_true rfl, Nat.le_of_ble_eq_true rfl⟩ (fun n => ?_)
  refine V_aload_n d_X12_sign_4 rfl rfl ?_
  refine V_iload_n d_X12_sign_5 rfl rfl ?_
  refine V_iload_n d_X12_sign_6 rfl rfl ?_
  obtain ⟨t2, ht2, hf⟩ := ob hf
  refine B_callV1 (s_X12_isAt hG ht2) k_264 clX12 m_X12_isAt kv_RX12_102 d_X12_sign_7 rfl (Nat.le_of_ble_eq_true rfl) ⟨rfl, rfl, Nat.le_of_ble_eq_true rfl, Nat.le_of_ble_eq_true rfl, Nat.le_of_ble_eq_true rfl⟩ (fun n => ?_)
  refine V_if_ne (tgt := 15) d_X12_sign_10 (by decide) (fun c10 => ?_) (fun c10 => ?_)
  · replace hf := iteT (b2i_ne0 c10) hf
    refine V_aload_n d_X12_sign_15 rfl rfl ?_
    refine V_dup d_X12_sign_16 rfl ?_
    refine B_get k_264 fl_RX12_96 d_X12_sign_17 g_12_10 ?_
    refine V_iconst (v := 1) d_X12_sign_20 ic_1 ?_
    refine V_iadd d_X12_sign_21 ?_
    refine B_putI k_264 fl_RX12_96 pt_12_10 (Nat.le_of_ble_eq_true rfl) p_12_10 d_X12_sign_22 ?_
    refine V_iconst (v := 1) d_X12_sign_25 ic_1 ?_
    cases hf
    exact R_z hK d_X12_sign_26 (Nat.le_of_ble_eq_true rfl) (Nat.le_of_ble_eq_true rfl)
  · replace hf := iteF (b2i_nt (b2i_eq0 c10)) hf
    refine V_iconst (v := 0) d_X12_sign_13 ic_0 ?_
    cases hf
    exact R_z hK d_X12_sign_14 (Nat.le_of_ble_eq_true rfl) (Nat.le_of_ble_eq_true rfl)
theorem s_X12_sign {G : Gl} (hG : G.1.stackTraces = false) {μ : Mem} {p1 : Int32} {r : (Bool × Mem)} (hf : f_X12_sign μ p1 = some r) : Rt G yX12_sign F_X12_sign (some .boolean) [.ref (G.2.1 + 264), .int p1] μ (some (.int (b2i r.1))) r.2 := fun n => Sd.of hG ⟨by decide +kernel, rfl, rfl⟩ rfl (Nat.le_of_ble_eq_true rfl) rfl (fun C hK => s_X12_sign_e hG hf hK)
theorem d_X12_number_0 : decode cX12_number 0 = .ok (.aload_n 0, 1) := by decide +kernel
theorem d_X12_number_1 : decode cX12_number 1 = .ok (.invokevirtual 109, 3) := by decide +kernel
theorem d_X12_number_4 : decode cX12_number 4 = .ok (.iconst 0, 1) := by decide +kernel
theorem d_X12_number_5 : decode cX12_number 5 = .ok (.istore_n 3, 1) := by decide +kernel
theorem d_X12_number_6 : decode cX12_number 6 = .ok (.aload_n 0, 1) := by decide +kernel
theorem d_X12_number_7 : decode cX12_number 7 = .ok (.bipush 48, 2) := by decide +kernel
theorem d_X12_number_9 : decode cX12_number 9 = .ok (.bipush 57, 2) := by decide +kernel
theorem d_X12_number_11 : decode cX12_number 11 = .ok (.invokevirtual 102, 3) := by decide +kernel
theorem d_X12_number_14 : decode cX12_number 14 = .ok (.ifCond .eq 51, 3) := by decide +kernel
theorem d_X12_number_17 : decode cX12_number 17 = .ok (.aload_n 0, 1) := by decide +kernel
theorem d_X12_number_18 : decode cX12_number 18 = .ok (.getfield 96, 3) := by decide +kernel
theorem d_X12_number_21 : decode cX12_number 21 = .ok (.aload_n 0, 1) := by decide +kernel
theorem d_X12_number_22 : decode cX12_number 22 = .ok (.getfield 106, 3) := by decide +kernel
theorem d_X12_number_25 : decode cX12_number 25 = .ok (.isub, 1) := by decide +kernel
theorem d_X12_number_26 : decode cX12_number 26 = .ok (.iconst 3, 1) := by decide +kernel
theorem d_X12_number_27 : decode cX12_number 27 = .ok (.if_icmp .ge 23, 3) := by decide +kernel
theorem d_X12_number_30 : decode cX12_number 30 = .ok (.bipush 10, 2) := by decide +kernel
theorem d_X12_number_32 : decode cX12_number 32 = .ok (.iload_n 3, 1) := by decide +kernel
theorem d_X12_number_33 : decode cX12_number 33 = .ok (.imul, 1) := by decide +kernel
theorem d_X12_number_34 : decode cX12_number 34 = .ok (.aload_n 0, 1) := by decide +kernel
theorem d_X12_number_35 : decode cX12_number 35 = .ok (.getfield 29, 3) := by decide +kernel
theorem d_X12_number_38 : decode cX12_number 38 = .ok (.aload_n 0, 1) := by decide +kernel
theorem d_X12_number_39 : decode cX12_number 39 = .ok (.getfield 96, 3) := by decide +kernel
theorem d_X12_number_42 : decode cX12_number 42 = .ok (.baload, 1) := by decide +kernel
theorem d_X12_number_43 : decode cX12_number 43 = .ok (.iadd, 1) := by decide +kernel
theorem d_X12_number_44 : decode cX12_number 44 = .ok (.bipush 48, 2) := by decide +kernel
theorem d_X12_number_46 : decode cX12_number 46 = .ok (.isub, 1) := by decide +kernel
theorem d_X12_number_47 : decode cX12_number 47 = .ok (.goto 4, 3) := by decide +kernel
theorem d_X12_number_50 : decode cX12_number 50 = .ok (.iload_n 3, 1) := by decide +kernel
theorem d_X12_number_51 : decode cX12_number 51 = .ok (.istore_n 3, 1) := by decide +kernel
theorem d_X12_number_52 : decode cX12_number 52 = .ok (.aload_n 0, 1) := by decide +kernel
theorem d_X12_number_53 : decode cX12_number 53 = .ok (.dup, 1) := by decide +kernel
theorem d_X12_number_54 : decode cX12_number 54 = .ok (.getfield 96, 3) := by decide +kernel
theorem d_X12_number_57 : decode cX12_number 57 = .ok (.iconst 1, 1) := by decide +kernel
theorem d_X12_number_58 : decode cX12_number 58 = .ok (.iadd, 1) := by decide +kernel
theorem d_X12_number_59 : decode cX12_number 59 = .ok (.putfield 96, 3) := by decide +kernel
theorem d_X12_number_62 : decode cX12_number 62 = .ok (.goto (-56), 3) := by decide +kernel
theorem d_X12_number_65 : decode cX12_number 65 = .ok (.aload_n 0, 1) := by decide +kernel
theorem d_X12_number_66 : decode cX12_number 66 = .ok (.getfield 96, 3) := by decide +kernel
theorem d_X12_number_69 : decode cX12_number 69 = .ok (.aload_n 0, 1) := by decide +kernel
theorem d_X12_number_70 : decode cX12_number 70 = .ok (.getfield 106, 3) := by decide +kernel
theorem d_X12_number_73 : decode cX12_number 73 = .ok (.if_icmp .eq 26, 3) := by decide +kernel
theorem d_X12_number_76 : decode cX12_number 76 = .ok (.aload_n 0, 1) := by decide +kernel
theorem d_X12_number_77 : decode cX12_number 77 = .ok (.getfield 96, 3) := by decide +kernel
theorem d_X12_number_80 : decode cX12_number 80 = .ok (.aload_n 0, 1) := by decide +kernel
theorem d_X12_number_81 : decode cX12_number 81 = .ok (.getfield 106, 3) := by decide +kernel
theorem d_X12_number_84 : decode cX12_number 84 = .ok (.isub, 1) := by decide +kernel
theorem d_X12_number_85 : decode cX12_number 85 = .ok (.iconst 3, 1) := by decide +kernel
theorem d_X12_number_86 : decode cX12_number 86 = .ok (.if_icmp .gt 13, 3) := by decide +kernel
theorem d_X12_number_89 : decode cX12_number 89 = .ok (.iload_n 3, 1) := by decide +kernel
theorem d_X12_number_90 : decode cX12_number 90 = .ok (.iload_n 1, 1) := by decide +kernel
theorem d_X12_number_91 : decode cX12_number 91 = .ok (.if_icmp .lt 8, 3) := by decide +kernel
theorem d_X12_number_94 : decode cX12_number 94 = .ok (.iload_n 3, 1) := by decide +kernel
theorem d_X12_number_95 : decode cX12_number 95 = .ok (.iload_n 2, 1) := by decide +kernel
theorem d_X12_number_96 : decode cX12_number 96 = .ok (.if_icmp .le 7, 3) := by decide +kernel
theorem d_X12_number_99 : decode cX12_number 99 = .ok (.iconst (-1), 1) := by decide +kernel
theorem d_X12_number_100 : decode cX12_number 100 = .ok (.goto 4, 3) := by decide +kernel
theorem d_X12_number_103 : decode cX12_number 103 = .ok (.iload_n 3, 1) := by decide +kernel
theorem d_X12_number_104 : decode cX12_number 104 = .ok (.ireturn, 1) := by decide +kernel
theorem s_X12_number_j51_6 {G : Gl} (hG : G.1.stackTraces = false) {C : Cx} {n : Nat} {μ : Mem} {l1 : Int32} {l2 : Int32} {k0 : Int32} {y : ((Int32 × Mem) ⊕ (Int32 × Mem))} (hf : f_X12_number_j51_6 μ l1 l2 k0 = some y) (hK : (∀ z', y = .inl z' → ∀ n, V G C F_X12_number 6 [some (.ref (G.2.1 + 264)), some (.int l1), some (.int l2), some (.int z'.1)] [] (pic G z'.2) n 0 0) ∧ (∀ x', y = .inr x' → ∀ n, V G C F_X12_number 65 [some (.ref (G.2.1 + 264)), some (.int l1), some (.int l2), some (.int x'.1)] [] (pic G x'.2) n 0 0)) : V G C F_X12_number 51 [some (.ref (G.2.1 + 264)), some (.int l1), some (.int l2), none] [.int k0] (pic G μ) n 0 0 := by
  unfold f_X12_number_j51_6 at hf
  refine V_istore_n (ls' := [_, _, _, _]) d_X12_number_51 rfl rfl rfl ?_
  refine V_aload_n d_X12_number_52 rfl rfl ?_
  refine V_dup d_X12_number_53 rfl ?_
  refine B_get k_264 fl_RX12_96 d_X12_number_54 g_12_10 ?_
  refine V_iconst (v := 1) d_X12_number_57 ic_1 ?_
  refine V_iadd d_X12_number_58 ?_
  refine B_putI k_264 fl_RX12_96 pt_12_10 (Nat.le_of_ble_eq_true rfl) p_12_10 d_X12_number_59 ?_
  refine V_goto (tgt := 6) d_X12_number_62 (by decide) ?_
  refine V_less (ls' := [some _, some _, some _, some _]) ⟨rfl, rfl, rfl, rfl, trivial⟩ ?_
  cases hf
  exact hK.1 _ rfl _
theorem s_X12_number_b6 {G : Gl} (hG : G.1.stackTraces = false) {C : Cx} {n : Nat} {μ : Mem} {l1 : Int32} {l2 : Int32} {l3 : Int32} {y : ((Int32 × Mem) ⊕ (Int32 × Mem))} (hf : f_X12_number_b6 μ l1 l2 l3 = some y) (hK : (∀ z', y = .inl z' → ∀ n, V G C F_X12_number 6 [some (.ref (G.2.1 + 264)), some (.int l1), some (.int l2), some (.int z'.1)] [] (pic G z'.2) n 0 0) ∧ (∀ x', y = .inr x' → ∀ n, V G C F_X12_number 65 [some (.ref (G.2.1 + 264)), some (.int l1), some (.int l2), some (.int x'.1)] [] (pic G x'.2) n 0 0)) : V G C F_X12_number 6 [some (.ref (G.2.1 + 264)), some (.int l1), some (.int l2), some (.int l3)] [] (pic G μ) n 0 0 := by
  unfold f_X12_number_b6 at hf
  refine V_aload_n d_X12_number_6 rfl rfl ?_
  refine V_bipush (v := 48) d_X12_number_7 bp_48 ?_
  refine V_bipush (v := 57) d_X12_number_9 bp_57 ?_
  obtain ⟨t1, ht1, hf⟩ := ob hf
  refine B_callV1 (s_X12_isAt hG ht1) k_264 clX12 m_X12_isAt kv_RX12_102 d_X12_number_11 rfl (Nat.le_of_ble_eq_true rfl) ⟨rfl, rfl, Nat.le_of_ble_eq_true rfl, Nat.le_of_ble_eq_true rfl, Nat.le_of_ble_eq_true rfl⟩ (fun n => ?_)
  refine V_if_eq (tgt := 65) d_X12_number_14 (by decide) (fun c14 => ?_) (fun c14 => ?_)
  · replace hf := iteF (b2i_nt (b2i_eq0 c14)) hf
    refine V_less (ls' := [some _, some _, some _, some _]) ⟨rfl, rfl, rfl, rfl, trivial⟩ ?_
    cases hf
    exact hK.2 _ rfl _
  · replace hf := iteT (b2i_ne0 c14) hf
    refine V_aload_n d_X12_number_17 rfl rfl ?_
    refine B_get k_264 fl_RX12_96 d_X12_number_18 g_12_10 ?_
    refine V_aload_n d_X12_number_21 rfl rfl ?_
    refine B_get k_264 fl_RX12_106 d_X12_number_22 g_12_12 ?_
    refine V_isub d_X12_number_25 ?_
    refine V_iconst (v := 3) d_X12_number_26 ic_3 ?_
    refine V_icmp_ge (tgt := 50) d_X12_number_27 (by decide) (fun c27 => ?_) (fun c27 => ?_)
    · replace hf := iteT c27 hf
      refine V_iload_n d_X12_number_50 rfl rfl ?_
      refine V_less (ls' := [some _, some _, some _, none]) ⟨rfl, rfl, rfl, trivial⟩ ?_
      exact s_X12_number_j51_6 hG hf hK
    · replace hf := iteF c27 hf
      refine V_bipush (v := 10) d_X12_number_30 bp_10 ?_
      refine V_iload_n d_X12_number_32 rfl rfl ?_
      refine V_imul d_X12_number_33 ?_
      refine V_aload_n d_X12_number_34 rfl rfl ?_
      refine B_get k_264 fl_RX12_29 d_X12_number_35 g_12_8 ?_
      refine V_aload_n d_X12_number_38 rfl rfl ?_
      refine B_get k_264 fl_RX12_96 d_X12_number_39 g_12_10 ?_
      obtain ⟨t2, ht2, hf⟩ := ob hf
      refine B_bald k_270 ht2 d_X12_number_42 ?_
      refine V_iadd d_X12_number_43 ?_
      refine V_bipush (v := 48) d_X12_number_44 bp_48 ?_
      refine V_isub d_X12_number_46 ?_
      refine V_goto (tgt := 51) d_X12_number_47 (by decide) ?_
      refine V_less (ls' := [some _, some _, some _, none]) ⟨rfl, rfl, rfl, trivial⟩ ?_
      exact s_X12_number_j51_6 hG hf hK
theorem s_X12_number_j65 {G : Gl} (hG : G.1.stackTraces = false) {C : Cx} {n : Nat} {μ : Mem} {l1 : Int32} {l2 : Int32} {l3 : Int32} {r : (Int32 × Mem)} (hf : f_X12_number_j65 μ l1 l2 l3 = some r) (hK : FinR G C F_X12_number (some .int) (some (.int r.1)) r.2) : V G C F_X12_number 65 [some (.ref (G.2.1 + 264)), some (.int l1), some (.int l2), some (.int l3)] [] (pic G μ) n 0 0 := by
  unfold f_X12_number_j65 at hf
  refine V_aload_n d_X12_number_65 rfl rfl ?_
  refine B_get k_264 fl_RX12_96 d_X12_number_66 g_12_10 ?_
  refine V_aload_n d_X12_number_69 rfl rfl ?_
  refine B_get k_264 fl_RX12_106 d_X12_number_70 g_12_12 ?_
  have hJj1 : ∀ j1 : Int32, j1 = (if (μ 264 10) = (μ 264 12) then ((-1) : Int32) else (if 3 < ((μ 264 10) - (μ 264 12)) then ((-1) : Int32) else (if l3 < l1 then ((-1) : Int32) else (if l3 ≤ l2 then (l3 : Int32) else (-1))))) → V G C F_X12_number 104 [none, none, none, none] [.int j1] (pic G μ) n 0 0 := by
    intro j1 ej1
    subst ej1
    cases hf
    exact R_i hK d_X12_number_104 (Nat.le_of_ble_eq_true rfl) (Nat.le_of_ble_eq_true rfl)
  refine V_icmp_eq (tgt := 99) d_X12_number_73 (by decide) (fun c73 => ?_) (fun c73 => ?_)
  · refine V_iconst (v := (-1)) d_X12_number_99 ic_m1 ?_
    refine V_goto (tgt := 104) d_X12_number_100 (by decide) ?_
    refine V_less (ls' := [none, none, none, none]) trivial ?_
    exact hJj1 (-1) (by rw [if_pos c73])
  · refine V_aload_n d_X12_number_76 rfl rfl ?_
    refine B_get k_264 fl_RX12_96 d_X12_number_77 g_12_10 ?_
    refine V_aload_n d_X12_number_80 rfl rfl ?_
    refine B_get k_264 fl_RX12_106 d_X12_number_81 g_12_12 ?_
    refine V_isub d_X12_number_84 ?_
    refine V_iconst (v := 3) d_X12_number_85 ic_3 ?_
    refine V_icmp_gt (tgt := 99) d_X12_number_86 (by decide) (fun c86 => ?_) (fun c86 => ?_)
    · refine V_iconst (v := (-1)) d_X12_number_99 ic_m1 ?_
      refine V_goto (tgt := 104) d_X12_number_100 (by decide) ?_
      refine V_less (ls' := [none, none, none, none]) trivial ?_
      exact hJj1 (-1) (by rw [if_neg c73, if_pos c86])
    · refine V_iload_n d_X12_number_89 rfl rfl ?_
      refine V_iload_n d_X12_number_90 rfl rfl ?_
      refine V_icmp_lt (tgt := 99) d_X12_number_91 (by decide) (fun c91 => ?_) (fun c91 => ?_)
      · refine V_iconst (v := (-1)) d_X12_number_99 ic_m1 ?_
        refine V_goto (tgt := 104) d_X12_number_100 (by decide) ?_
        refine V_less (ls' := [none, none, none, none]) trivial ?_
        exact hJj1 (-1) (by rw [if_neg c73, if_neg c86, if_pos c91])
      · refine V_iload_n d_X12_number_94 rfl rfl ?_
        refine V_iload_n d_X12_number_95 rfl rfl ?_
        refine V_icmp_le (tgt := 103) d_X12_number_96 (by decide) (fun c96 => ?_) (fun c96 => ?_)
        · refine V_iload_n d_X12_number_103 rfl rfl ?_
          refine V_less (ls' := [none, none, none, none]) trivial ?_
          exact hJj1 l3 (by rw [if_neg c73, if_neg c86, if_neg c91, if_pos c96])
        · refine V_iconst (v := (-1)) d_X12_number_99 ic_m1 ?_
          refine V_goto (tgt := 104) d_X12_number_100 (by decide) ?_
          refine V_less (ls' := [none, none, none, none]) trivial ?_
          exact hJj1 (-1) (by rw [if_neg c73, if_neg c86, if_neg c91, if_neg c96])
theorem s_X12_number_l6 {G : Gl} (hG : G.1.stackTraces = false) {C : Cx} {n : Nat} {μ : Mem} {l1 : Int32} {l2 : Int32} {l3 : Int32} {r : (Int32 × Mem)} (hf : f_X12_number_l6 μ l1 l2 l3 = some r) (hK : FinR G C F_X12_number (some .int) (some (.int r.1)) r.2) : V G C F_X12_number 6 [some (.ref (G.2.1 + 264)), some (.int l1), some (.int l2), some (.int l3)] [] (pic G μ) n 0 0 := by
  unfold f_X12_number_l6 at hf
  obtain ⟨t, hl, hf⟩ := ob hf
  refine loopV (P := fun z => ∀ n, V G C F_X12_number 6 [some (.ref (G.2.1 + 264)), some (.int l1), some (.int l2), some (.int z.1)] [] (pic G z.2) n 0 0) (t := t) ?_ _ _ hl n
  intro z y' hy hI hT n
  refine s_X12_number_b6 hG hy ⟨hI, fun x9 ex => ?_⟩
  have ex2 := hT x9 ex
  subst ex2
  intro n
  exact s_X12_number_j65 hG hf hK
theorem s_X12_number_e {G : Gl} (hG : G.1.stackTraces = false) {C : Cx} {n : Nat} {μ : Mem} {p1 : Int32} {p2 : Int32} {r : (Int32 × Mem)} (hf : f_X12_number μ p1 p2 = some r) (hK : FinR G C F_X12_number (some .int) (some (.int r.1)) r.2) : V G C F_X12_number 0 [some (.ref (G.2.1 + 264)), some (.int p1), some (.int p2), none] [] (pic G μ) n 0 0 := by
  unfold f_X12_number at hf
  refine V_aload_n d_X12_number_0 rfl rfl ?_
  obtain ⟨q1, hq1, hf⟩ := ob hf
  refine B_callV0 (s_X12_blanks hG hq1) k_264 clX12 m_X12_blanks kv_RX12_109 d_X12_number_1 rfl (Nat.le_of_ble_eq_true rfl) ⟨rfl, rfl, Nat.le_of_ble_eq_true rfl, Nat.le_of_ble_eq_true rfl, Nat.le_of_ble_eq_true rfl⟩ (fun n => ?_)
  refine V_iconst (v := 0) d_X12_number_4 ic_0 ?_
  refine V_istore_n (ls' := [_, _, _, _]) d_X12_number_5 rfl rfl rfl ?_
  refine V_less (ls' := [some _, some _, some _, some _]) ⟨rfl, rfl, rfl, rfl, trivial⟩ ?_
  exact s_X12_number_l6 hG hf hK
theorem s_X12_number {G : Gl} (hG : G.1.stackTraces = false) {μ : Mem} {p1 : Int32} {p2 : Int32} {r : (Int32 × Mem)} (hf : f_X12_number μ p1 p2 = some r) : Rt G yX12_number F_X12_number (some .int) [.ref (G.2.1 + 264), .int p1, .int p2] μ (some (.int r.1)) r.2 := fun n => Sd.of hG ⟨by decide +kernel, rfl, rfl⟩ rfl (Nat.le_of_ble_eq_true rfl) rfl (fun C hK => s_X12_number_e hG hf hK)
theorem d_X12_after_0 : decode cX12_after 0 = .ok (.aload_n 0, 1) := by decide +kernel
theorem d_X12_after_1 : decode cX12_after 1 = .ok (.invokevirtual 121, 3) := by decide +kernel
theorem d_X12_after_4 : decode cX12_after 4 = .ok (.aload_n 0, 1) := by decide +kernel
theorem d_X12_after_5 : decode cX12_after 5 = .ok (.aload_n 1, 1) := by decide +kernel
theorem d_X12_after_6 : decode cX12_after 6 = .ok (.invokevirtual 124, 3) := by decide +kernel
theorem d_X12_after_9 : decode cX12_after 9 = .ok (.ifCond .eq 12, 3) := by decide +kernel
theorem d_X12_after_12 : decode cX12_after 12 = .ok (.aload_n 0, 1) := by decide +kernel
theorem d_X12_after_13 : decode cX12_after 13 = .ok (.iload_n 2, 1) := by decide +kernel
theorem d_X12_after_14 : decode cX12_after 14 = .ok (.iload_n 3, 1) := by decide +kernel
theorem d_X12_after_15 : decode cX12_after 15 = .ok (.invokevirtual 128, 3) := by decide +kernel
theorem d_X12_after_18 : decode cX12_after 18 = .ok (.goto 4, 3) := by decide +kernel
theorem d_X12_after_21 : decode cX12_after 21 = .ok (.iconst (-1), 1) := by decide +kernel
theorem d_X12_after_22 : decode cX12_after 22 = .ok (.ireturn, 1) := by decide +kernel
theorem s_X12_after_j22 {G : Gl} (hG : G.1.stackTraces = false) {C : Cx} {n : Nat} {μ : Mem} {s1 : Nat} {k0 : Int32} (hs1 : s1 < nS_n) {r : (Int32 × Mem)} (hf : f_X12_after_j22 μ s1 k0 = some r) (hK : FinR G C F_X12_after (some .int) (some (.int r.1)) r.2) : V G C F_X12_after 22 [none, none, none, none] [.int k0] (pic G μ) n 0 0 := by
  unfold f_X12_after_j22 at hf
  cases hf
  exact R_i hK d_X12_after_22 (Nat.le_of_ble_eq_true rfl) (Nat.le_of_ble_eq_true rfl)
theorem s_X12_after_e {G : Gl} (hG : G.1.stackTraces = false) {C : Cx} {n : Nat} {μ : Mem} {s1 : Nat} {p2 : Int32} {p3 : Int32} (hs1 : s1 < nS_n) {r : (Int32 × Mem)} (hf : f_X12_after μ s1 p2 p3 = some r) (hK : FinR G C F_X12_after (some .int) (some (.int r.1)) r.2) : V G C F_X12_after 0 [some (.ref (G.2.1 + 264)), some (.ref (G.2.2.2.2.1 s1)), some (.int p2), some (.int p3)] [] (pic G μ) n 0 0 := by
  unfold f_X12_after at hf
  refine V_aload_n d_X12_after_0 rfl rfl ?_
  obtain ⟨q1, hq1, hf⟩ := ob hf
  refine B_callV0 (s_X12_letters hG hq1) k_264 clX12 m_X12_letters kv_RX12_121 d_X12_after_1 rfl (Nat.le_of_ble_eq_true rfl) ⟨rfl, rfl, Nat.le_of_ble_eq_true rfl, Nat.le_of_ble_eq_true rfl, Nat.le_of_ble_eq_true rfl⟩ (fun n => ?_)
  refine V_aload_n d_X12_after_4 rfl rfl ?_
  refine V_aload_n d_X12_after_5 rfl rfl ?_
  obtain ⟨t2, ht2, hf⟩ := ob hf
  refine B_callV1 (s_X12_isWord hG hs1 ht2) k_264 clX12 m_X12_isWord kv_RX12_124 d_X12_after_6 rfl (Nat.le_of_ble_eq_true rfl) ⟨rfl, rfl, Nat.le_of_ble_eq_true rfl, Nat.le_of_ble_eq_true rfl, Nat.le_of_ble_eq_true rfl⟩ (fun n => ?_)
  refine V_if_eq (tgt := 21) d_X12_after_9 (by decide) (fun c9 => ?_) (fun c9 => ?_)
  · replace hf := iteF (b2i_nt (b2i_eq0 c9)) hf
    refine V_iconst (v := (-1)) d_X12_after_21 ic_m1 ?_
    refine V_less (ls' := [none, none, none, none]) trivial ?_
    exact s_X12_after_j22 hG hs1 hf hK
  · replace hf := iteT (b2i_ne0 c9) hf
    refine V_aload_n d_X12_after_12 rfl rfl ?_
    refine V_iload_n d_X12_after_13 rfl rfl ?_
    refine V_iload_n d_X12_after_14 rfl rfl ?_
    obtain ⟨q3, hq3, hf⟩ := ob hf
    refine B_callV1 (s_X12_number hG hq3) k_264 clX12 m_X12_number kv_RX12_128 d_X12_after_15 rfl (Nat.le_of_ble_eq_true rfl) ⟨rfl, rfl, Nat.le_of_ble_eq_true rfl, Nat.le_of_ble_eq_true rfl, Nat.le_of_ble_eq_true rfl⟩ (fun n => ?_)
    refine V_goto (tgt := 22) d_X12_after_18 (by decide) ?_
    refine V_less (ls' := [none, none, none, none]) trivial ?_
    exact s_X12_after_j22 hG hs1 hf hK
theorem s_X12_after {G : Gl} (hG : G.1.stackTraces = false) {μ : Mem} {s1 : Nat} {p2 : Int32} {p3 : Int32} (hs1 : s1 < nS_n) {r : (Int32 × Mem)} (hf : f_X12_after μ s1 p2 p3 = some r) : Rt G yX12_after F_X12_after (some .int) [.ref (G.2.1 + 264), .ref (G.2.2.2.2.1 s1), .int p2, .int p3] μ (some (.int r.1)) r.2 := fun n => Sd.of hG ⟨by decide +kernel, rfl, rfl⟩ rfl (Nat.le_of_ble_eq_true rfl) rfl (fun C hK => s_X12_after_e hG hs1 hf hK)
theorem d_X12_fault_0 : decode cX12_fault 0 = .ok (.aload_n 0, 1) := by decide +kernel
theorem d_X12_fault_1 : decode cX12_fault 1 = .ok (.iconst 0, 1) := by decide +kernel
theorem d_X12_fault_2 : decode cX12_fault 2 = .ok (.putfield 3, 3) := by decide +kernel
theorem d_X12_fault_5 : decode cX12_fault 5 = .ok (.aload_n 0, 1) := by decide +kernel
theorem d_X12_fault_6 : decode cX12_fault 6 = .ok (.getfield 33, 3) := by decide +kernel
theorem d_X12_fault_9 : decode cX12_fault 9 = .ok (.ireturn, 1) := by decide +kernel
theorem s_X12_fault_e {G : Gl} (hG : G.1.stackTraces = false) {C : Cx} {n : Nat} {μ : Mem}  {r : (Int32 × Mem)} (hf : f_X12_fault μ = some r) (hK : FinR G C F_X12_fault (some .int) (some (.int r.1)) r.2) : V G C F_X12_fault 0 [some (.ref (G.2.1 + 264))] [] (pic G μ) n 0 0 := by
  unfold f_X12_fault at hf
  refine V_aload_n d_X12_fault_0 rfl rfl ?_
  refine V_iconst (v := 0) d_X12_fault_1 ic_0 ?_
  refine B_putI k_264 fl_RX12_3 pt_12_0 (Nat.le_of_ble_eq_true rfl) p_12_0 d_X12_fault_2 ?_
  refine V_aload_n d_X12_fault_5 rfl rfl ?_
  refine B_get k_264 fl_RX12_33 d_X12_fault_6 g_12_14 ?_
  cases hf
  exact R_i hK d_X12_fault_9 (Nat.le_of_ble_eq_true rfl) (Nat.le_of_ble_eq_true rfl)
theorem s_X12_fault {G : Gl} (hG : G.1.stackTraces = false) {μ : Mem} {r : (Int32 × Mem)} (hf : f_X12_fault μ = some r) : Rt G yX12_fault F_X12_fault (some .int) [.ref (G.2.1 + 264)] μ (some (.int r.1)) r.2 := fun n => Sd.of hG ⟨by decide +kernel, rfl, rfl⟩ rfl (Nat.le_of_ble_eq_true rfl) rfl (fun C hK => s_X12_fault_e hG hf hK)
theorem d_X12_uses_0 : decode cX12_uses 0 = .ok (.aload_n 0, 1) := by decide +kernel
theorem d_X12_uses_1 : decode cX12_uses 1 = .ok (.iconst 0, 1) := by decide +kernel
theorem d_X12_uses_2 : decode cX12_uses 2 = .ok (.putfield 3, 3) := by decide +kernel
theorem d_X12_uses_5 : decode cX12_uses 5 = .ok (.aload_n 0, 1) := by decide +kernel
theorem d_X12_uses_6 : decode cX12_uses 6 = .ok (.aload_n 0, 1) := by decide +kernel
theorem d_X12_uses_7 : decode cX12_uses 7 = .ok (.getfield 93, 3) := by decide +kernel
theorem d_X12_uses_10 : decode cX12_uses 10 = .ok (.putfield 99, 3) := by decide +kernel
theorem d_X12_uses_13 : decode cX12_uses 13 = .ok (.aload_n 0, 1) := by decide +kernel
theorem d_X12_uses_14 : decode cX12_uses 14 = .ok (.iconst 0, 1) := by decide +kernel
theorem d_X12_uses_15 : decode cX12_uses 15 = .ok (.putfield 93, 3) := by decide +kernel
theorem d_X12_uses_18 : decode cX12_uses 18 = .ok (.aload_n 0, 1) := by decide +kernel
theorem d_X12_uses_19 : decode cX12_uses 19 = .ok (.iconst 0, 1) := by decide +kernel
theorem d_X12_uses_20 : decode cX12_uses 20 = .ok (.putfield 96, 3) := by decide +kernel
theorem d_X12_uses_23 : decode cX12_uses 23 = .ok (.return_, 1) := by decide +kernel
theorem s_X12_uses_e {G : Gl} (hG : G.1.stackTraces = false) {C : Cx} {n : Nat} {μ : Mem}  {r : Mem} (hf : f_X12_uses μ = some r) (hK : FinR G C F_X12_uses none none r) : V G C F_X12_uses 0 [some (.ref (G.2.1 + 264))] [] (pic G μ) n 0 0 := by
  unfold f_X12_uses at hf
  refine V_aload_n d_X12_uses_0 rfl rfl ?_
  refine V_iconst (v := 0) d_X12_uses_1 ic_0 ?_
  refine B_putI k_264 fl_RX12_3 pt_12_0 (Nat.le_of_ble_eq_true rfl) p_12_0 d_X12_uses_2 ?_
  refine V_aload_n d_X12_uses_5 rfl rfl ?_
  refine V_aload_n d_X12_uses_6 rfl rfl ?_
  refine B_get k_264 fl_RX12_93 d_X12_uses_7 g_12_9 ?_
  refine B_putI k_264 fl_RX12_99 pt_12_11 (Nat.le_of_ble_eq_true rfl) p_12_11 d_X12_uses_10 ?_
  refine V_aload_n d_X12_uses_13 rfl rfl ?_
  refine V_iconst (v := 0) d_X12_uses_14 ic_0 ?_
  refine B_putI k_264 fl_RX12_93 pt_12_9 (Nat.le_of_ble_eq_true rfl) p_12_9 d_X12_uses_15 ?_
  refine V_aload_n d_X12_uses_18 rfl rfl ?_
  refine V_iconst (v := 0) d_X12_uses_19 ic_0 ?_
  refine B_putI k_264 fl_RX12_96 pt_12_10 (Nat.le_of_ble_eq_true rfl) p_12_10 d_X12_uses_20 ?_
  cases hf
  exact R_v hK d_X12_uses_23 (Nat.le_of_ble_eq_true rfl) (Nat.le_of_ble_eq_true rfl)
theorem s_X12_uses {G : Gl} (hG : G.1.stackTraces = false) {μ : Mem} {r : Mem} (hf : f_X12_uses μ = some r) : Rt G yX12_uses F_X12_uses none [.ref (G.2.1 + 264)] μ none r := fun n => Sd.of hG ⟨by decide +kernel, rfl, rfl⟩ rfl (Nat.le_of_ble_eq_true rfl) rfl (fun C hK => s_X12_uses_e hG hf hK)
theorem d_X12_readPerson_0 : decode cX12_readPerson 0 = .ok (.aload_n 0, 1) := by decide +kernel
theorem d_X12_readPerson_1 : decode cX12_readPerson 1 = .ok (.invokevirtual 59, 3) := by decide +kernel
theorem d_X12_readPerson_4 : decode cX12_readPerson 4 = .ok (.istore_n 1, 1) := by decide +kernel
theorem d_X12_readPerson_5 : decode cX12_readPerson 5 = .ok (.iload_n 1, 1) := by decide +kernel
theorem d_X12_readPerson_6 : decode cX12_readPerson 6 = .ok (.bipush 6, 2) := by decide +kernel
theorem d_X12_readPerson_8 : decode cX12_readPerson 8 = .ok (.if_icmp .ne 5, 3) := by decide +kernel
theorem d_X12_readPerson_11 : decode cX12_readPerson 11 = .ok (.iconst 0, 1) := by decide +kernel
theorem d_X12_readPerson_12 : decode cX12_readPerson 12 = .ok (.ireturn, 1) := by decide +kernel
theorem d_X12_readPerson_13 : decode cX12_readPerson 13 = .ok (.aload_n 0, 1) := by decide +kernel
theorem d_X12_readPerson_14 : decode cX12_readPerson 14 = .ok (.iconst 0, 1) := by decide +kernel
theorem d_X12_readPerson_15 : decode cX12_readPerson 15 = .ok (.sipush 999, 3) := by decide +kernel
theorem d_X12_readPerson_18 : decode cX12_readPerson 18 = .ok (.invokevirtual 128, 3) := by decide +kernel
theorem d_X12_readPerson_21 : decode cX12_readPerson 21 = .ok (.istore_n 2, 1) := by decide +kernel
theorem d_X12_readPerson_22 : decode cX12_readPerson 22 = .ok (.iload_n 2, 1) := by decide +kernel
theorem d_X12_readPerson_23 : decode cX12_readPerson 23 = .ok (.ifCond .ge 7, 3) := by decide +kernel
theorem d_X12_readPerson_26 : decode cX12_readPerson 26 = .ok (.iconst (-1), 1) := by decide +kernel
theorem d_X12_readPerson_27 : decode cX12_readPerson 27 = .ok (.goto 12, 3) := by decide +kernel
theorem d_X12_readPerson_30 : decode cX12_readPerson 30 = .ok (.aload_n 0, 1) := by decide +kernel
theorem d_X12_readPerson_31 : decode cX12_readPerson 31 = .ok (.ldc 131, 2) := by decide +kernel
theorem d_X12_readPerson_33 : decode cX12_readPerson 33 = .ok (.iconst 1, 1) := by decide +kernel
theorem d_X12_readPerson_34 : decode cX12_readPerson 34 = .ok (.bipush 9, 2) := by decide +kernel
theorem d_X12_readPerson_36 : decode cX12_readPerson 36 = .ok (.invokevirtual 133, 3) := by decide +kernel
theorem d_X12_readPerson_39 : decode cX12_readPerson 39 = .ok (.istore_n 3, 1) := by decide +kernel
theorem d_X12_readPerson_40 : decode cX12_readPerson 40 = .ok (.iload_n 3, 1) := by decide +kernel
theorem d_X12_readPerson_41 : decode cX12_readPerson 41 = .ok (.ifCond .ge 7, 3) := by decide +kernel
theorem d_X12_readPerson_44 : decode cX12_readPerson 44 = .ok (.iconst (-1), 1) := by decide +kernel
theorem d_X12_readPerson_45 : decode cX12_readPerson 45 = .ok (.goto 12, 3) := by decide +kernel
theorem d_X12_readPerson_48 : decode cX12_readPerson 48 = .ok (.aload_n 0, 1) := by decide +kernel
theorem d_X12_readPerson_49 : decode cX12_readPerson 49 = .ok (.ldc 137, 2) := by decide +kernel
theorem d_X12_readPerson_51 : decode cX12_readPerson 51 = .ok (.iconst 0, 1) := by decide +kernel
theorem d_X12_readPerson_52 : decode cX12_readPerson 52 = .ok (.bipush 19, 2) := by decide +kernel
theorem d_X12_readPerson_54 : decode cX12_readPerson 54 = .ok (.invokevirtual 133, 3) := by decide +kernel
theorem d_X12_readPerson_57 : decode cX12_readPerson 57 = .ok (.istore 4, 2) := by decide +kernel
theorem d_X12_readPerson_59 : decode cX12_readPerson 59 = .ok (.iload 4, 2) := by decide +kernel
theorem d_X12_readPerson_61 : decode cX12_readPerson 61 = .ok (.ifCond .ge 5, 3) := by decide +kernel
theorem d_X12_readPerson_64 : decode cX12_readPerson 64 = .ok (.iconst 0, 1) := by decide +kernel
theorem d_X12_readPerson_65 : decode cX12_readPerson 65 = .ok (.ireturn, 1) := by decide +kernel
theorem d_X12_readPerson_66 : decode cX12_readPerson 66 = .ok (.aload_n 0, 1) := by decide +kernel
theorem d_X12_readPerson_67 : decode cX12_readPerson 67 = .ok (.getfield 13, 3) := by decide +kernel
theorem d_X12_readPerson_70 : decode cX12_readPerson 70 = .ok (.iload_n 1, 1) := by decide +kernel
theorem d_X12_readPerson_71 : decode cX12_readPerson 71 = .ok (.iconst 0, 1) := by decide +kernel
theorem d_X12_readPerson_72 : decode cX12_readPerson 72 = .ok (.invokestatic 63, 3) := by decide +kernel
theorem d_X12_readPerson_75 : decode cX12_readPerson 75 = .ok (.iload_n 2, 1) := by decide +kernel
theorem d_X12_readPerson_76 : decode cX12_readPerson 76 = .ok (.iastore, 1) := by decide +kernel
theorem d_X12_readPerson_77 : decode cX12_readPerson 77 = .ok (.aload_n 0, 1) := by decide +kernel
theorem d_X12_readPerson_78 : decode cX12_readPerson 78 = .ok (.getfield 13, 3) := by decide +kernel
theorem d_X12_readPerson_81 : decode cX12_readPerson 81 = .ok (.iload_n 1, 1) := by decide +kernel
theorem d_X12_readPerson_82 : decode cX12_readPerson 82 = .ok (.iconst 1, 1) := by decide +kernel
theorem d_X12_readPerson_83 : decode cX12_readPerson 83 = .ok (.invokestatic 63, 3) := by decide +kernel
theorem d_X12_readPerson_86 : decode cX12_readPerson 86 = .ok (.iload_n 3, 1) := by decide +kernel
theorem d_X12_readPerson_87 : decode cX12_readPerson 87 = .ok (.iastore, 1) := by decide +kernel
theorem d_X12_readPerson_88 : decode cX12_readPerson 88 = .ok (.aload_n 0, 1) := by decide +kernel
theorem d_X12_readPerson_89 : decode cX12_readPerson 89 = .ok (.getfield 13, 3) := by decide +kernel
theorem d_X12_readPerson_92 : decode cX12_readPerson 92 = .ok (.iload_n 1, 1) := by decide +kernel
theorem d_X12_readPerson_93 : decode cX12_readPerson 93 = .ok (.iconst 2, 1) := by decide +kernel
theorem d_X12_readPerson_94 : decode cX12_readPerson 94 = .ok (.invokestatic 63, 3) := by decide +kernel
theorem d_X12_readPerson_97 : decode cX12_readPerson 97 = .ok (.iload 4, 2) := by decide +kernel
theorem d_X12_readPerson_99 : decode cX12_readPerson 99 = .ok (.iastore, 1) := by decide +kernel
theorem d_X12_readPerson_100 : decode cX12_readPerson 100 = .ok (.aload_n 0, 1) := by decide +kernel
theorem d_X12_readPerson_101 : decode cX12_readPerson 101 = .ok (.getfield 13, 3) := by decide +kernel
theorem d_X12_readPerson_104 : decode cX12_readPerson 104 = .ok (.iload_n 1, 1) := by decide +kernel
theorem d_X12_readPerson_105 : decode cX12_readPerson 105 = .ok (.iconst 3, 1) := by decide +kernel
theorem d_X12_readPerson_106 : decode cX12_readPerson 106 = .ok (.invokestatic 63, 3) := by decide +kernel
theorem d_X12_readPerson_109 : decode cX12_readPerson 109 = .ok (.iload 4, 2) := by decide +kernel
theorem d_X12_readPerson_111 : decode cX12_readPerson 111 = .ok (.iastore, 1) := by decide +kernel
theorem d_X12_readPerson_112 : decode cX12_readPerson 112 = .ok (.aload_n 0, 1) := by decide +kernel
theorem d_X12_readPerson_113 : decode cX12_readPerson 113 = .ok (.getfield 13, 3) := by decide +kernel
theorem d_X12_readPerson_116 : decode cX12_readPerson 116 = .ok (.iload_n 1, 1) := by decide +kernel
theorem d_X12_readPerson_117 : decode cX12_readPerson 117 = .ok (.iconst 4, 1) := by decide +kernel
theorem d_X12_readPerson_118 : decode cX12_readPerson 118 = .ok (.invokestatic 63, 3) := by decide +kernel
theorem d_X12_readPerson_121 : decode cX12_readPerson 121 = .ok (.iconst 0, 1) := by decide +kernel
theorem d_X12_readPerson_122 : decode cX12_readPerson 122 = .ok (.iastore, 1) := by decide +kernel
theorem d_X12_readPerson_123 : decode cX12_readPerson 123 = .ok (.aload_n 0, 1) := by decide +kernel
theorem d_X12_readPerson_124 : decode cX12_readPerson 124 = .ok (.iconst 2, 1) := by decide +kernel
theorem d_X12_readPerson_125 : decode cX12_readPerson 125 = .ok (.iload_n 1, 1) := by decide +kernel
theorem d_X12_readPerson_126 : decode cX12_readPerson 126 = .ok (.imul, 1) := by decide +kernel
theorem d_X12_readPerson_127 : decode cX12_readPerson 127 = .ok (.invokevirtual 48, 3) := by decide +kernel
theorem d_X12_readPerson_130 : decode cX12_readPerson 130 = .ok (.aload_n 0, 1) := by decide +kernel
theorem d_X12_readPerson_131 : decode cX12_readPerson 131 = .ok (.iconst 2, 1) := by decide +kernel
theorem d_X12_readPerson_132 : decode cX12_readPerson 132 = .ok (.iload_n 1, 1) := by decide +kernel
theorem d_X12_readPerson_133 : decode cX12_readPerson 133 = .ok (.imul, 1) := by decide +kernel
theorem d_X12_readPerson_134 : decode cX12_readPerson 134 = .ok (.iconst 1, 1) := by decide +kernel
theorem d_X12_readPerson_135 : decode cX12_readPerson 135 = .ok (.iadd, 1) := by decide +kernel
theorem d_X12_readPerson_136 : decode cX12_readPerson 136 = .ok (.invokevirtual 48, 3) := by decide +kernel
theorem d_X12_readPerson_139 : decode cX12_readPerson 139 = .ok (.aload_n 0, 1) := by decide +kernel
theorem d_X12_readPerson_140 : decode cX12_readPerson 140 = .ok (.getfield 13, 3) := by decide +kernel
theorem d_X12_readPerson_143 : decode cX12_readPerson 143 = .ok (.iconst 0, 1) := by decide +kernel
theorem d_X12_readPerson_144 : decode cX12_readPerson 144 = .ok (.dup2, 1) := by decide +kernel
theorem d_X12_readPerson_145 : decode cX12_readPerson 145 = .ok (.iaload, 1) := by decide +kernel
theorem d_X12_readPerson_146 : decode cX12_readPerson 146 = .ok (.iconst 1, 1) := by decide +kernel
theorem d_X12_readPerson_147 : decode cX12_readPerson 147 = .ok (.iadd, 1) := by decide +kernel
theorem d_X12_readPerson_148 : decode cX12_readPerson 148 = .ok (.iastore, 1) := by decide +kernel
theorem d_X12_readPerson_149 : decode cX12_readPerson 149 = .ok (.iconst 1, 1) := by decide +kernel
theorem d_X12_readPerson_150 : decode cX12_readPerson 150 = .ok (.ireturn, 1) := by decide +kernel
theorem s_X12_readPerson_j57 {G : Gl} (hG : G.1.stackTraces = false) {C : Cx} {n : Nat} {μ : Mem} {l1 : Int32} {l2 : Int32} {l3 : Int32} {k0 : Int32} {r : (Bool × Mem)} (hf : f_X12_readPerson_j57 μ l1 l2 l3 k0 = some r) (hK : FinR G C F_X12_readPerson (some .boolean) (some (.int (b2i r.1))) r.2) : V G C F_X12_readPerson 57 [some (.ref (G.2.1 + 264)), some (.int l1), some (.int l2), some (.int l3), none] [.int k0] (pic G μ) n 0 0 := by
  unfold f_X12_readPerson_j57 at hf
  refine V_istore (ls' := [_, _, _, _, _]) d_X12_readPerson_57 rfl rfl ?_
  refine V_iload d_X12_readPerson_59 rfl ?_
  refine V_if_ge (tgt := 66) d_X12_readPerson_61 (by decide) (fun c61 => ?_) (fun c61 => ?_)
  · replace hf := iteT c61 hf
    refine V_aload_n d_X12_readPerson_66 rfl rfl ?_
    refine B_get k_264 fl_RX12_13 d_X12_readPerson_67 g_12_1 ?_
    refine V_iload_n d_X12_readPerson_70 rfl rfl ?_
    refine V_iconst (v := 0) d_X12_readPerson_71 ic_0 ?_
    obtain ⟨t1, ht1, hf⟩ := ob hf
    refine B_callS1 (s_X12_at hG ht1) m_X12_at ks_RX12_63 d_X12_readPerson_72 rfl (Nat.le_of_ble_eq_true rfl) ⟨rfl, rfl, Nat.le_of_ble_eq_true rfl, Nat.le_of_ble_eq_true rfl, Nat.le_of_ble_eq_true rfl⟩ (fun n => ?_)
    refine V_iload_n d_X12_readPerson_75 rfl rfl ?_
    obtain ⟨μ2, hμ2, hf⟩ := ob hf
    refine B_iast k_265 hμ2 d_X12_readPerson_76 ?_
    refine V_aload_n d_X12_readPerson_77 rfl rfl ?_
    refine B_get k_264 fl_RX12_13 d_X12_readPerson_78 g_12_1 ?_
    refine V_iload_n d_X12_readPerson_81 rfl rfl ?_
    refine V_iconst (v := 1) d_X12_readPerson_82 ic_1 ?_
    obtain ⟨t3, ht3, hf⟩ := ob hf
    refine B_callS1 (s_X12_at hG ht3) m_X12_at ks_RX12_63 d_X12_readPerson_83 rfl (Nat.le_of_ble_eq_true rfl) ⟨rfl, rfl, Nat.le_of_ble_eq_true rfl, Nat.le_of_ble_eq_true rfl, Nat.le_of_ble_eq_true rfl⟩ (fun n => ?_)
    refine V_iload_n d_X12_readPerson_86 rfl rfl ?_
    obtain ⟨μ4, hμ4, hf⟩ := ob hf
    refine B_iast k_265 hμ4 d_X12_readPerson_87 ?_
    refine V_aload_n d_X12_readPerson_88 rfl rfl ?_
    refine B_get k_264 fl_RX12_13 d_X12_readPerson_89 g_12_1 ?_
    refine V_iload_n d_X12_readPerson_92 rfl rfl ?_
    refine V_iconst (v := 2) d_X12_readPerson_93 ic_2 ?_
    obtain ⟨t5, ht5, hf⟩ := ob hf
    refine B_callS1 (s_X12_at hG ht5) m_X12_at ks_RX12_63 d_X12_readPerson_94 rfl (Nat.le_of_ble_eq_true rfl) ⟨rfl, rfl, Nat.le_of_ble_eq_true rfl, Nat.le_of_ble_eq_true rfl, Nat.le_of_ble_eq_true rfl⟩ (fun n => ?_)
    refine V_iload d_X12_readPerson_97 rfl ?_
    obtain ⟨μ6, hμ6, hf⟩ := ob hf
    refine B_iast k_265 hμ6 d_X12_readPerson_99 ?_
    refine V_aload_n d_X12_readPerson_100 rfl rfl ?_
    refine B_get k_264 fl_RX12_13 d_X12_readPerson_101 g_12_1 ?_
    refine V_iload_n d_X12_readPerson_104 rfl rfl ?_
    refine V_iconst (v := 3) d_X12_readPerson_105 ic_3 ?_
    obtain ⟨t7, ht7, hf⟩ := ob hf
    refine B_callS1 (s_X12_at hG ht7) m_X12_at ks_RX12_63 d_X12_readPerson_106 rfl (Nat.le_of_ble_eq_true rfl) ⟨rfl, rfl, Nat.le_of_ble_eq_true rfl, Nat.le_of_ble_eq_true rfl, Nat.le_of_ble_eq_true rfl⟩ (fun n => ?_)
    refine V_iload d_X12_readPerson_109 rfl ?_
    obtain ⟨μ8, hμ8, hf⟩ := ob hf
    refine B_iast k_265 hμ8 d_X12_readPerson_111 ?_
    refine V_aload_n d_X12_readPerson_112 rfl rfl ?_
    refine B_get k_264 fl_RX12_13 d_X12_readPerson_113 g_12_1 ?_
    refine V_iload_n d_X12_readPerson_116 rfl rfl ?_
    refine V_iconst (v := 4) d_X12_readPerson_117 ic_4 ?_
    obtain ⟨t9, ht9, hf⟩ := ob hf
    refine B_callS1 (s_X12_at hG ht9) m_X12_at ks_RX12_63 d_X12_readPerson_118 rfl (Nat.le_of_ble_eq_true rfl) ⟨rfl, rfl, Nat.le_of_ble_eq_true rfl, Nat.le_of_ble_eq_true rfl, Nat.le_of_ble_eq_true rfl⟩ (fun n => ?_)
    refine V_iconst (v := 0) d_X12_readPerson_121 ic_0 ?_
    obtain ⟨μ10, hμ10, hf⟩ := ob hf
    refine B_iast k_265 hμ10 d_X12_readPerson_122 ?_
    refine V_aload_n d_X12_readPerson_123 rfl rfl ?_
    refine V_iconst (v := 2) d_X12_readPerson_124 ic_2 ?_
    refine V_iload_n d_X12_readPerson_125 rfl rfl ?_
    refine V_imul d_X12_readPerson_126 ?_
    obtain ⟨q11, hq11, hf⟩ := ob hf
    refine B_callV0 (s_X12_comesBack hG hq11) k_264 clX12 m_X12_comesBack kv_RX12_48 d_X12_readPerson_127 rfl (Nat.le_of_ble_eq_true rfl) ⟨rfl, rfl, Nat.le_of_ble_eq_true rfl, Nat.le_of_ble_eq_true rfl, Nat.le_of_ble_eq_true rfl⟩ (fun n => ?_)
    refine V_aload_n d_X12_readPerson_130 rfl rfl ?_
    refine V_iconst (v := 2) d_X12_readPerson_131 ic_2 ?_
    refine V_iload_n d_X12_readPerson_132 rfl rfl ?_
    refine V_imul d_X12_readPerson_133 ?_
    refine V_iconst (v := 1) d_X12_readPerson_134 ic_1 ?_
    refine V_iadd d_X12_readPerson_135 ?_
    obtain ⟨q12, hq12, hf⟩ := ob hf
    refine B_callV0 (s_X12_comesBack hG hq12) k_264 clX12 m_X12_comesBack kv_RX12_48 d_X12_readPerson_136 rfl (Nat.le_of_ble_eq_true rfl) ⟨rfl, rfl, Nat.le_of_ble_eq_true rfl, Nat.le_of_ble_eq_true rfl, Nat.le_of_ble_eq_true rfl⟩ (fun n => ?_)
    refine V_aload_n d_X12_readPerson_139 rfl rfl ?_
    refine B_get k_264 fl_RX12_13 d_X12_readPerson_140 g_12_1 ?_
    refine V_iconst (v := 0) d_X12_readPerson_143 ic_0 ?_
    refine V_dup2 d_X12_readPerson_144 rfl rfl ?_
    obtain ⟨t13, ht13, hf⟩ := ob hf
    refine B_iald k_265 ht13 d_X12_readPerson_145 ?_
    refine V_iconst (v := 1) d_X12_readPerson_146 ic_1 ?_
    refine V_iadd d_X12_readPerson_147 ?_
    obtain ⟨μ14, hμ14, hf⟩ := ob hf
    refine B_iast k_265 hμ14 d_X12_readPerson_148 ?_
    refine V_iconst (v := 1) d_X12_readPerson_149 ic_1 ?_
    cases hf
    exact R_z hK d_X12_readPerson_150 (Nat.le_of_ble_eq_true rfl) (Nat.le_of_ble_eq_true rfl)
  · replace hf := iteF c61 hf
    refine V_iconst (v := 0) d_X12_readPerson_64 ic_0 ?_
    cases hf
    exact R_z hK d_X12_readPerson_65 (Nat.le_of_ble_eq_true rfl) (Nat.le_of_ble_eq_true rfl)
theorem s_X12_readPerson_j39 {G : Gl} (hG : G.1.stackTraces = false) {C : Cx} {n : Nat} {μ : Mem} {l1 : Int32} {l2 : Int32} {k0 : Int32} {r : (Bool × Mem)} (hf : f_X12_readPerson_j39 μ l1 l2 k0 = some r) (hK : FinR G C F_X12_readPerson (some .boolean) (some (.int (b2i r.1))) r.2) : V G C F_X12_readPerson 39 [some (.ref (G.2.1 + 264)), some (.int l1), some (.int l2), none, none] [.int k0] (pic G μ) n 0 0 := by
  unfold f_X12_readPerson_j39 at hf
  refine V_istore_n (ls' := [_, _, _, _, _]) d_X12_readPerson_39 rfl rfl rfl ?_
  refine V_iload_n d_X12_readPerson_40 rfl rfl ?_
  refine V_if_ge (tgt := 48) d_X12_readPerson_41 (by decide) (fun c41 => ?_) (fun c41 => ?_)
  · replace hf := iteT c41 hf
    refine V_aload_n d_X12_readPerson_48 rfl rfl ?_
    refine V_ldcS (i := 53) d_X12_readPerson_49 sT_RX12_137 ?_
    refine V_iconst (v := 0) d_X12_readPerson_51 ic_0 ?_
    refine V_bipush (v := 19) d_X12_readPerson_52 bp_19 ?_
    obtain ⟨q1, hq1, hf⟩ := ob hf
    refine B_callV1 (s_X12_after hG sS_53 hq1) k_264 clX12 m_X12_after kv_RX12_133 d_X12_readPerson_54 rfl (Nat.le_of_ble_eq_true rfl) ⟨rfl, rfl, Nat.le_of_ble_eq_true rfl, Nat.le_of_ble_eq_true rfl, Nat.le_of_ble_eq_true rfl⟩ (fun n => ?_)
    refine V_less (ls' := [some _, some _, some _, some _, none]) ⟨rfl, rfl, rfl, rfl, trivial⟩ ?_
    exact s_X12_readPerson_j57 hG hf hK
  · replace hf := iteF c41 hf
    refine V_iconst (v := (-1)) d_X12_readPerson_44 ic_m1 ?_
    refine V_goto (tgt := 57) d_X12_readPerson_45 (by decide) ?_
    refine V_less (ls' := [some _, some _, some _, some _, none]) ⟨rfl, rfl, rfl, rfl, trivial⟩ ?_
    exact s_X12_readPerson_j57 hG hf hK
theorem s_X12_readPerson_e {G : Gl} (hG : G.1.stackTraces = false) {C : Cx} {n : Nat} {μ : Mem}  {r : (Bool × Mem)} (hf : f_X12_readPerson μ = some r) (hK : FinR G C F_X12_readPerson (some .boolean) (some (.int (b2i r.1))) r.2) : V G C F_X12_readPerson 0 [some (.ref (G.2.1 + 264)), none, none, none, none] [] (pic G μ) n 0 0 := by
  unfold f_X12_readPerson at hf
  refine V_aload_n d_X12_readPerson_0 rfl rfl ?_
  obtain ⟨t1, ht1, hf⟩ := ob hf
  refine B_callV1 (s_X12_people hG ht1) k_264 clX12 m_X12_people kv_RX12_59 d_X12_readPerson_1 rfl (Nat.le_of_ble_eq_true rfl) ⟨rfl, rfl, Nat.le_of_ble_eq_true rfl, Nat.le_of_ble_eq_true rfl, Nat.le_of_ble_eq_true rfl⟩ (fun n => ?_)
  refine V_istore_n (ls' := [_, _, _, _, _]) d_X12_readPerson_4 rfl rfl rfl ?_
  refine V_iload_n d_X12_readPerson_5 rfl rfl ?_
  refine V_bipush (v := 6) d_X12_readPerson_6 bp_6 ?_
  refine V_icmp_ne (tgt := 13) d_X12_readPerson_8 (by decide) (fun c8 => ?_) (fun c8 => ?_)
  · replace hf := iteF c8 hf
    refine V_aload_n d_X12_readPerson_13 rfl rfl ?_
    refine V_iconst (v := 0) d_X12_readPerson_14 ic_0 ?_
    refine V_sipush (v := 999) d_X12_readPerson_15 sp_999 ?_
    obtain ⟨q2, hq2, hf⟩ := ob hf
    refine B_callV1 (s_X12_number hG hq2) k_264 clX12 m_X12_number kv_RX12_128 d_X12_readPerson_18 rfl (Nat.le_of_ble_eq_true rfl) ⟨rfl, rfl, Nat.le_of_ble_eq_true rfl, Nat.le_of_ble_eq_true rfl, Nat.le_of_ble_eq_true rfl⟩ (fun n => ?_)
    refine V_istore_n (ls' := [_, _, _, _, _]) d_X12_readPerson_21 rfl rfl rfl ?_
    refine V_iload_n d_X12_readPerson_22 rfl rfl ?_
    refine V_if_ge (tgt := 30) d_X12_readPerson_23 (by decide) (fun c23 => ?_) (fun c23 => ?_)
    · replace hf := iteT c23 hf
      refine V_aload_n d_X12_readPerson_30 rfl rfl ?_
      refine V_ldcS (i := 52) d_X12_readPerson_31 sT_RX12_131 ?_
      refine V_iconst (v := 1) d_X12_readPerson_33 ic_1 ?_
      refine V_bipush (v := 9) d_X12_readPerson_34 bp_9 ?_
      obtain ⟨q3, hq3, hf⟩ := ob hf
      refine B_callV1 (s_X12_after hG sS_52 hq3) k_264 clX12 m_X12_after kv_RX12_133 d_X12_readPerson_36 rfl (Nat.le_of_ble_eq_true rfl) ⟨rfl, rfl, Nat.le_of_ble_eq_true rfl, Nat.le_of_ble_eq_true rfl, Nat.le_of_ble_eq_true rfl⟩ (fun n => ?_)
      refine V_less (ls' := [some _, some _, some _, none, none]) ⟨rfl, rfl, rfl, trivial⟩ ?_
      exact s_X12_readPerson_j39 hG hf hK
    · replace hf := iteF c23 hf
      refine V_iconst (v := (-1)) d_X12_readPerson_26 ic_m1 ?_
      refine V_goto (tgt := 39) d_X12_readPerson_27 (by decide) ?_
      refine V_less (ls' := [some _, some _, some _, none, none]) ⟨rfl, rfl, rfl, trivial⟩ ?_
      exact s_X12_readPerson_j39 hG hf hK
  · replace hf := iteT c8 hf
    refine V_iconst (v := 0) d_X12_readPerson_11 ic_0 ?_
    cases hf
    exact R_z hK d_X12_readPerson_12 (Nat.le_of_ble_eq_true rfl) (Nat.le_of_ble_eq_true rfl)
theorem s_X12_readPerson {G : Gl} (hG : G.1.stackTraces = false) {μ : Mem} {r : (Bool × Mem)} (hf : f_X12_readPerson μ = some r) : Rt G yX12_readPerson F_X12_readPerson (some .boolean) [.ref (G.2.1 + 264)] μ (some (.int (b2i r.1))) r.2 := fun n => Sd.of hG ⟨by decide +kernel, rfl, rfl⟩ rfl (Nat.le_of_ble_eq_true rfl) rfl (fun C hK => s_X12_readPerson_e hG hf hK)
theorem d_X12_readPledge_0 : decode cX12_readPledge 0 = .ok (.aload_n 0, 1) := by decide +kernel
theorem d_X12_readPledge_1 : decode cX12_readPledge 1 = .ok (.iconst 0, 1) := by decide +kernel
theorem d_X12_readPledge_2 : decode cX12_readPledge 2 = .ok (.aload_n 0, 1) := by decide +kernel
theorem d_X12_readPledge_3 : decode cX12_readPledge 3 = .ok (.invokevirtual 77, 3) := by decide +kernel
theorem d_X12_readPledge_6 : decode cX12_readPledge 6 = .ok (.iconst 1, 1) := by decide +kernel
theorem d_X12_readPledge_7 : decode cX12_readPledge 7 = .ok (.isub, 1) := by decide +kernel
theorem d_X12_readPledge_8 : decode cX12_readPledge 8 = .ok (.invokevirtual 128, 3) := by decide +kernel
theorem d_X12_readPledge_11 : decode cX12_readPledge 11 = .ok (.istore_n 1, 1) := by decide +kernel
theorem d_X12_readPledge_12 : decode cX12_readPledge 12 = .ok (.iload_n 1, 1) := by decide +kernel
theorem d_X12_readPledge_13 : decode cX12_readPledge 13 = .ok (.ifCond .lt 11, 3) := by decide +kernel
theorem d_X12_readPledge_16 : decode cX12_readPledge 16 = .ok (.aload_n 0, 1) := by decide +kernel
theorem d_X12_readPledge_17 : decode cX12_readPledge 17 = .ok (.iload_n 1, 1) := by decide +kernel
theorem d_X12_readPledge_18 : decode cX12_readPledge 18 = .ok (.invokevirtual 138, 3) := by decide +kernel
theorem d_X12_readPledge_21 : decode cX12_readPledge 21 = .ok (.ifCond .ne 5, 3) := by decide +kernel
theorem d_X12_readPledge_24 : decode cX12_readPledge 24 = .ok (.iconst 0, 1) := by decide +kernel
theorem d_X12_readPledge_25 : decode cX12_readPledge 25 = .ok (.ireturn, 1) := by decide +kernel
theorem d_X12_readPledge_26 : decode cX12_readPledge 26 = .ok (.aload_n 0, 1) := by decide +kernel
theorem d_X12_readPledge_27 : decode cX12_readPledge 27 = .ok (.ldc 142, 2) := by decide +kernel
theorem d_X12_readPledge_29 : decode cX12_readPledge 29 = .ok (.iconst 0, 1) := by decide +kernel
theorem d_X12_readPledge_30 : decode cX12_readPledge 30 = .ok (.aload_n 0, 1) := by decide +kernel
theorem d_X12_readPledge_31 : decode cX12_readPledge 31 = .ok (.invokevirtual 59, 3) := by decide +kernel
theorem d_X12_readPledge_34 : decode cX12_readPledge 34 = .ok (.iconst 1, 1) := by decide +kernel
theorem d_X12_readPledge_35 : decode cX12_readPledge 35 = .ok (.isub, 1) := by decide +kernel
theorem d_X12_readPledge_36 : decode cX12_readPledge 36 = .ok (.invokevirtual 133, 3) := by decide +kernel
theorem d_X12_readPledge_39 : decode cX12_readPledge 39 = .ok (.istore_n 2, 1) := by decide +kernel
theorem d_X12_readPledge_40 : decode cX12_readPledge 40 = .ok (.iload_n 2, 1) := by decide +kernel
theorem d_X12_readPledge_41 : decode cX12_readPledge 41 = .ok (.ifCond .lt 11, 3) := by decide +kernel
theorem d_X12_readPledge_44 : decode cX12_readPledge 44 = .ok (.iload_n 2, 1) := by decide +kernel
theorem d_X12_readPledge_45 : decode cX12_readPledge 45 = .ok (.iload_n 1, 1) := by decide +kernel
theorem d_X12_readPledge_46 : decode cX12_readPledge 46 = .ok (.invokestatic 144, 3) := by decide +kernel
theorem d_X12_readPledge_49 : decode cX12_readPledge 49 = .ok (.if_icmp .ne 5, 3) := by decide +kernel
theorem d_X12_readPledge_52 : decode cX12_readPledge 52 = .ok (.iconst 0, 1) := by decide +kernel
theorem d_X12_readPledge_53 : decode cX12_readPledge 53 = .ok (.ireturn, 1) := by decide +kernel
theorem d_X12_readPledge_54 : decode cX12_readPledge 54 = .ok (.aload_n 0, 1) := by decide +kernel
theorem d_X12_readPledge_55 : decode cX12_readPledge 55 = .ok (.ldc 148, 2) := by decide +kernel
theorem d_X12_readPledge_57 : decode cX12_readPledge 57 = .ok (.iconst 1, 1) := by decide +kernel
theorem d_X12_readPledge_58 : decode cX12_readPledge 58 = .ok (.sipush 999, 3) := by decide +kernel
theorem d_X12_readPledge_61 : decode cX12_readPledge 61 = .ok (.invokevirtual 133, 3) := by decide +kernel
theorem d_X12_readPledge_64 : decode cX12_readPledge 64 = .ok (.istore_n 3, 1) := by decide +kernel
theorem d_X12_readPledge_65 : decode cX12_readPledge 65 = .ok (.iload_n 3, 1) := by decide +kernel
theorem d_X12_readPledge_66 : decode cX12_readPledge 66 = .ok (.ifCond .ge 7, 3) := by decide +kernel
theorem d_X12_readPledge_69 : decode cX12_readPledge 69 = .ok (.iconst (-1), 1) := by decide +kernel
theorem d_X12_readPledge_70 : decode cX12_readPledge 70 = .ok (.goto 12, 3) := by decide +kernel
theorem d_X12_readPledge_73 : decode cX12_readPledge 73 = .ok (.aload_n 0, 1) := by decide +kernel
theorem d_X12_readPledge_74 : decode cX12_readPledge 74 = .ok (.ldc 150, 2) := by decide +kernel
theorem d_X12_readPledge_76 : decode cX12_readPledge 76 = .ok (.iconst 0, 1) := by decide +kernel
theorem d_X12_readPledge_77 : decode cX12_readPledge 77 = .ok (.bipush 9, 2) := by decide +kernel
theorem d_X12_readPledge_79 : decode cX12_readPledge 79 = .ok (.invokevirtual 133, 3) := by decide +kernel
theorem d_X12_readPledge_82 : decode cX12_readPledge 82 = .ok (.istore 4, 2) := by decide +kernel
theorem d_X12_readPledge_84 : decode cX12_readPledge 84 = .ok (.iload 4, 2) := by decide +kernel
theorem d_X12_readPledge_86 : decode cX12_readPledge 86 = .ok (.ifCond .ge 7, 3) := by decide +kernel
theorem d_X12_readPledge_89 : decode cX12_readPledge 89 = .ok (.iconst (-1), 1) := by decide +kernel
theorem d_X12_readPledge_90 : decode cX12_readPledge 90 = .ok (.goto 13, 3) := by decide +kernel
theorem d_X12_readPledge_93 : decode cX12_readPledge 93 = .ok (.aload_n 0, 1) := by decide +kernel
theorem d_X12_readPledge_94 : decode cX12_readPledge 94 = .ok (.ldc 152, 2) := by decide +kernel
theorem d_X12_readPledge_96 : decode cX12_readPledge 96 = .ok (.iconst 1, 1) := by decide +kernel
theorem d_X12_readPledge_97 : decode cX12_readPledge 97 = .ok (.sipush 999, 3) := by decide +kernel
theorem d_X12_readPledge_100 : decode cX12_readPledge 100 = .ok (.invokevirtual 133, 3) := by decide +kernel
theorem d_X12_readPledge_103 : decode cX12_readPledge 103 = .ok (.istore 5, 2) := by decide +kernel
theorem d_X12_readPledge_105 : decode cX12_readPledge 105 = .ok (.iload 5, 2) := by decide +kernel
theorem d_X12_readPledge_107 : decode cX12_readPledge 107 = .ok (.ifCond .ge 5, 3) := by decide +kernel
theorem d_X12_readPledge_110 : decode cX12_readPledge 110 = .ok (.iconst 0, 1) := by decide +kernel
theorem d_X12_readPledge_111 : decode cX12_readPledge 111 = .ok (.ireturn, 1) := by decide +kernel
theorem d_X12_readPledge_112 : decode cX12_readPledge 112 = .ok (.iconst (-1), 1) := by decide +kernel
theorem d_X12_readPledge_113 : decode cX12_readPledge 113 = .ok (.istore 6, 2) := by decide +kernel
theorem d_X12_readPledge_115 : decode cX12_readPledge 115 = .ok (.aload_n 0, 1) := by decide +kernel
theorem d_X12_readPledge_116 : decode cX12_readPledge 116 = .ok (.ldc 154, 2) := by decide +kernel
theorem d_X12_readPledge_118 : decode cX12_readPledge 118 = .ok (.invokevirtual 156, 3) := by decide +kernel
theorem d_X12_readPledge_121 : decode cX12_readPledge 121 = .ok (.ifCond .eq 38, 3) := by decide +kernel
theorem d_X12_readPledge_124 : decode cX12_readPledge 124 = .ok (.aload_n 0, 1) := by decide +kernel
theorem d_X12_readPledge_125 : decode cX12_readPledge 125 = .ok (.iconst 0, 1) := by decide +kernel
theorem d_X12_readPledge_126 : decode cX12_readPledge 126 = .ok (.aload_n 0, 1) := by decide +kernel
theorem d_X12_readPledge_127 : decode cX12_readPledge 127 = .ok (.invokevirtual 59, 3) := by decide +kernel
theorem d_X12_readPledge_130 : decode cX12_readPledge 130 = .ok (.iconst 1, 1) := by decide +kernel
theorem d_X12_readPledge_131 : decode cX12_readPledge 131 = .ok (.isub, 1) := by decide +kernel
theorem d_X12_readPledge_132 : decode cX12_readPledge 132 = .ok (.invokevirtual 128, 3) := by decide +kernel
theorem d_X12_readPledge_135 : decode cX12_readPledge 135 = .ok (.istore 6, 2) := by decide +kernel
theorem d_X12_readPledge_137 : decode cX12_readPledge 137 = .ok (.iload 6, 2) := by decide +kernel
theorem d_X12_readPledge_139 : decode cX12_readPledge 139 = .ok (.ifCond .lt 18, 3) := by decide +kernel
theorem d_X12_readPledge_142 : decode cX12_readPledge 142 = .ok (.iload 6, 2) := by decide +kernel
theorem d_X12_readPledge_144 : decode cX12_readPledge 144 = .ok (.iload_n 2, 1) := by decide +kernel
theorem d_X12_readPledge_145 : decode cX12_readPledge 145 = .ok (.if_icmp .eq 12, 3) := by decide +kernel
theorem d_X12_readPledge_148 : decode cX12_readPledge 148 = .ok (.iload 6, 2) := by decide +kernel
theorem d_X12_readPledge_150 : decode cX12_readPledge 150 = .ok (.iload_n 1, 1) := by decide +kernel
theorem d_X12_readPledge_151 : decode cX12_readPledge 151 = .ok (.invokestatic 144, 3) := by decide +kernel
theorem d_X12_readPledge_154 : decode cX12_readPledge 154 = .ok (.if_icmp .ne 5, 3) := by decide +kernel
theorem d_X12_readPledge_157 : decode cX12_readPledge 157 = .ok (.iconst 0, 1) := by decide +kernel
theorem d_X12_readPledge_158 : decode cX12_readPledge 158 = .ok (.ireturn, 1) := by decide +kernel
theorem d_X12_readPledge_159 : decode cX12_readPledge 159 = .ok (.aload_n 0, 1) := by decide +kernel
theorem d_X12_readPledge_160 : decode cX12_readPledge 160 = .ok (.iload_n 1, 1) := by decide +kernel
theorem d_X12_readPledge_161 : decode cX12_readPledge 161 = .ok (.iconst 1, 1) := by decide +kernel
theorem d_X12_readPledge_162 : decode cX12_readPledge 162 = .ok (.iload_n 2, 1) := by decide +kernel
theorem d_X12_readPledge_163 : decode cX12_readPledge 163 = .ok (.iload_n 3, 1) := by decide +kernel
theorem d_X12_readPledge_164 : decode cX12_readPledge 164 = .ok (.iload 4, 2) := by decide +kernel
theorem d_X12_readPledge_166 : decode cX12_readPledge 166 = .ok (.iload 5, 2) := by decide +kernel
theorem d_X12_readPledge_168 : decode cX12_readPledge 168 = .ok (.invokevirtual 80, 3) := by decide +kernel
theorem d_X12_readPledge_171 : decode cX12_readPledge 171 = .ok (.aload_n 0, 1) := by decide +kernel
theorem d_X12_readPledge_172 : decode cX12_readPledge 172 = .ok (.getfield 13, 3) := by decide +kernel
theorem d_X12_readPledge_175 : decode cX12_readPledge 175 = .ok (.iload_n 1, 1) := by decide +kernel
theorem d_X12_readPledge_176 : decode cX12_readPledge 176 = .ok (.iconst 5, 1) := by decide +kernel
theorem d_X12_readPledge_177 : decode cX12_readPledge 177 = .ok (.invokestatic 67, 3) := by decide +kernel
theorem d_X12_readPledge_180 : decode cX12_readPledge 180 = .ok (.iload 6, 2) := by decide +kernel
theorem d_X12_readPledge_182 : decode cX12_readPledge 182 = .ok (.iastore, 1) := by decide +kernel
theorem d_X12_readPledge_183 : decode cX12_readPledge 183 = .ok (.iconst 1, 1) := by decide +kernel
theorem d_X12_readPledge_184 : decode cX12_readPledge 184 = .ok (.ireturn, 1) := by decide +kernel
theorem s_X12_readPledge_j24 {G : Gl} (hG : G.1.stackTraces = false) {C : Cx} {n : Nat} {μ : Mem}  {r : (Bool × Mem)} (hf : f_X12_readPledge_j24 μ = some r) (hK : FinR G C F_X12_readPledge (some .boolean) (some (.int (b2i r.1))) r.2) : V G C F_X12_readPledge 24 [none, none, none, none, none, none, none] [] (pic G μ) n 0 0 := by
  unfold f_X12_readPledge_j24 at hf
  refine V_iconst (v := 0) d_X12_readPledge_24 ic_0 ?_
  cases hf
  exact R_z hK d_X12_readPledge_25 (Nat.le_of_ble_eq_true rfl) (Nat.le_of_ble_eq_true rfl)
theorem s_X12_readPledge_j52 {G : Gl} (hG : G.1.stackTraces = false) {C : Cx} {n : Nat} {μ : Mem}  {r : (Bool × Mem)} (hf : f_X12_readPledge_j52 μ = some r) (hK : FinR G C F_X12_readPledge (some .boolean) (some (.int (b2i r.1))) r.2) : V G C F_X12_readPledge 52 [none, none, none, none, none, none, none] [] (pic G μ) n 0 0 := by
  unfold f_X12_readPledge_j52 at hf
  refine V_iconst (v := 0) d_X12_readPledge_52 ic_0 ?_
  cases hf
  exact R_z hK d_X12_readPledge_53 (Nat.le_of_ble_eq_true rfl) (Nat.le_of_ble_eq_true rfl)
theorem s_X12_readPledge_j159 {G : Gl} (hG : G.1.stackTraces = false) {C : Cx} {n : Nat} {μ : Mem} {l1 : Int32} {l2 : Int32} {l3 : Int32} {l4 : Int32} {l5 : Int32} {l6 : Int32} {r : (Bool × Mem)} (hf : f_X12_readPledge_j159 μ l1 l2 l3 l4 l5 l6 = some r) (hK : FinR G C F_X12_readPledge (some .boolean) (some (.int (b2i r.1))) r.2) : V G C F_X12_readPledge 159 [some (.ref (G.2.1 + 264)), some (.int l1), some (.int l2), some (.int l3), some (.int l4), some (.int l5), some (.int l6)] [] (pic G μ) n 0 0 := by
  unfold f_X12_readPledge_j159 at hf
  refine V_aload_n d_X12_readPledge_159 rfl rfl ?_
  refine V_iload_n d_X12_readPledge_160 rfl rfl ?_
  refine V_iconst (v := 1) d_X12_readPledge_161 ic_1 ?_
  refine V_iload_n d_X12_readPledge_162 rfl rfl ?_
  refine V_iload_n d_X12_readPledge_163 rfl rfl ?_
  refine V_iload d_X12_readPledge_164 rfl ?_
  refine V_iload d_X12_readPledge_166 rfl ?_
  obtain ⟨q1, hq1, hf⟩ := ob hf
  refine B_callV0 (s_X12_tellsLace hG hq1) k_264 clX12 m_X12_tellsLace kv_RX12_80 d_X12_readPledge_168 rfl (Nat.le_of_ble_eq_true rfl) ⟨rfl, rfl, Nat.le_of_ble_eq_true rfl, Nat.le_of_ble_eq_true rfl, Nat.le_of_ble_eq_true rfl⟩ (fun n => ?_)
  refine V_aload_n d_X12_readPledge_171 rfl rfl ?_
  refine B_get k_264 fl_RX12_13 d_X12_readPledge_172 g_12_1 ?_
  refine V_iload_n d_X12_readPledge_175 rfl rfl ?_
  refine V_iconst (v := 5) d_X12_readPledge_176 ic_5 ?_
  obtain ⟨t2, ht2, hf⟩ := ob hf
  refine B_callS1 (s_X12_laceAt hG ht2) m_X12_laceAt ks_RX12_67 d_X12_readPledge_177 rfl (Nat.le_of_ble_eq_true rfl) ⟨rfl, rfl, Nat.le_of_ble_eq_true rfl, Nat.le_of_ble_eq_true rfl, Nat.le_of_ble_eq_true rfl⟩ (fun n => ?_)
  refine V_iload d_X12_readPledge_180 rfl ?_
  obtain ⟨μ3, hμ3, hf⟩ := ob hf
  refine B_iast k_265 hμ3 d_X12_readPledge_182 ?_
  refine V_iconst (v := 1) d_X12_readPledge_183 ic_1 ?_
  cases hf
  exact R_z hK d_X12_readPledge_184 (Nat.le_of_ble_eq_true rfl) (Nat.le_of_ble_eq_true rfl)
theorem s_X12_readPledge_j157 {G : Gl} (hG : G.1.stackTraces = false) {C : Cx} {n : Nat} {μ : Mem}  {r : (Bool × Mem)} (hf : f_X12_readPledge_j157 μ = some r) (hK : FinR G C F_X12_readPledge (some .boolean) (some (.int (b2i r.1))) r.2) : V G C F_X12_readPledge 157 [none, none, none, none, none, none, none] [] (pic G μ) n 0 0 := by
  unfold f_X12_readPledge_j157 at hf
  refine V_iconst (v := 0) d_X12_readPledge_157 ic_0 ?_
  cases hf
  exact R_z hK d_X12_readPledge_158 (Nat.le_of_ble_eq_true rfl) (Nat.le_of_ble_eq_true rfl)
theorem s_X12_readPledge_j103 {G : Gl} (hG : G.1.stackTraces = false) {C : Cx} {n : Nat} {μ : Mem} {l1 : Int32} {l2 : Int32} {l3 : Int32} {l4 : Int32} {k0 : Int32} {r : (Bool × Mem)} (hf : f_X12_readPledge_j103 μ l1 l2 l3 l4 k0 = some r) (hK : FinR G C F_X12_readPledge (some .boolean) (some (.int (b2i r.1))) r.2) : V G C F_X12_readPledge 103 [some (.ref (G.2.1 + 264)), some (.int l1), some (.int l2), some (.int l3), some (.int l4), none, none] [.int k0] (pic G μ) n 0 0 := by
  unfold f_X12_readPledge_j103 at hf
  refine V_istore (ls' := [_, _, _, _, _, _, _]) d_X12_readPledge_103 rfl rfl ?_
  refine V_iload d_X12_readPledge_105 rfl ?_
  refine V_if_ge (tgt := 112) d_X12_readPledge_107 (by decide) (fun c107 => ?_) (fun c107 => ?_)
  · replace hf := iteT c107 hf
    refine V_iconst (v := (-1)) d_X12_readPledge_112 ic_m1 ?_
    refine V_istore (ls' := [_, _, _, _, _, _, _]) d_X12_readPledge_113 rfl rfl ?_
    refine V_aload_n d_X12_readPledge_115 rfl rfl ?_
    refine V_ldcS (i := 58) d_X12_readPledge_116 sT_RX12_154 ?_
    obtain ⟨q1, hq1, hf⟩ := ob hf
    refine B_callV1 (s_X12_passes hG sS_58 hq1) k_264 clX12 m_X12_passes kv_RX12_156 d_X12_readPledge_118 rfl (Nat.le_of_ble_eq_true rfl) ⟨rfl, rfl, Nat.le_of_ble_eq_true rfl, Nat.le_of_ble_eq_true rfl, Nat.le_of_ble_eq_true rfl⟩ (fun n => ?_)
    refine V_if_eq (tgt := 159) d_X12_readPledge_121 (by decide) (fun c121 => ?_) (fun c121 => ?_)
    · replace hf := iteF (b2i_nt (b2i_eq0 c121)) hf
      refine V_less (ls' := [some _, some _, some _, some _, some _, some _, some _]) ⟨rfl, rfl, rfl, rfl, rfl, rfl, rfl, trivial⟩ ?_
      exact s_X12_readPledge_j159 hG hf hK
    · replace hf := iteT (b2i_ne0 c121) hf
      refine V_aload_n d_X12_readPledge_124 rfl rfl ?_
      refine V_iconst (v := 0) d_X12_readPledge_125 ic_0 ?_
      refine V_aload_n d_X12_readPledge_126 rfl rfl ?_
      obtain ⟨t2, ht2, hf⟩ := ob hf
      refine B_callV1 (s_X12_people hG ht2) k_264 clX12 m_X12_people kv_RX12_59 d_X12_readPledge_127 rfl (Nat.le_of_ble_eq_true rfl) ⟨rfl, rfl, Nat.le_of_ble_eq_true rfl, Nat.le_of_ble_eq_true rfl, Nat.le_of_ble_eq_true rfl⟩ (fun n => ?_)
      refine V_iconst (v := 1) d_X12_readPledge_130 ic_1 ?_
      refine V_isub d_X12_readPledge_131 ?_
      obtain ⟨q3, hq3, hf⟩ := ob hf
      refine B_callV1 (s_X12_number hG hq3) k_264 clX12 m_X12_number kv_RX12_128 d_X12_readPledge_132 rfl (Nat.le_of_ble_eq_true rfl) ⟨rfl, rfl, Nat.le_of_ble_eq_true rfl, Nat.le_of_ble_eq_true rfl, Nat.le_of_ble_eq_true rfl⟩ (fun n => ?_)
      refine V_istore (ls' := [_, _, _, _, _, _, _]) d_X12_readPledge_135 rfl rfl ?_
      refine V_iload d_X12_readPledge_137 rfl ?_
      refine V_if_lt (tgt := 157) d_X12_readPledge_139 (by decide) (fun c139 => ?_) (fun c139 => ?_)
      · replace hf := iteT c139 hf
        refine V_less (ls' := [none, none, none, none, none, none, none]) trivial ?_
        exact s_X12_readPledge_j157 hG hf hK
      · replace hf := iteF c139 hf
        refine V_iload d_X12_readPledge_142 rfl ?_
        refine V_iload_n d_X12_readPledge_144 rfl rfl ?_
        refine V_icmp_eq (tgt := 157) d_X12_readPledge_145 (by decide) (fun c145 => ?_) (fun c145 => ?_)
        · replace hf := iteT c145 hf
          refine V_less (ls' := [none, none, none, none, none, none, none]) trivial ?_
          exact s_X12_readPledge_j157 hG hf hK
        · replace hf := iteF c145 hf
          refine V_iload d_X12_readPledge_148 rfl ?_
          refine V_iload_n d_X12_readPledge_150 rfl rfl ?_
          obtain ⟨t4, ht4, hf⟩ := ob hf
          refine B_callS1 (s_X12_ownerOf hG ht4) m_X12_ownerOf ks_RX12_144 d_X12_readPledge_151 rfl (Nat.le_of_ble_eq_true rfl) ⟨rfl, rfl, Nat.le_of_ble_eq_true rfl, Nat.le_of_ble_eq_true rfl, Nat.le_of_ble_eq_true rfl⟩ (fun n => ?_)
          refine V_icmp_ne (tgt := 159) d_X12_readPledge_154 (by decide) (fun c154 => ?_) (fun c154 => ?_)
          · replace hf := iteF c154 hf
            refine V_less (ls' := [some _, some _, some _, some _, some _, some _, some _]) ⟨rfl, rfl, rfl, rfl, rfl, rfl, rfl, trivial⟩ ?_
            exact s_X12_readPledge_j159 hG hf hK
          · replace hf := iteT c154 hf
            refine V_less (ls' := [none, none, none, none, none, none, none]) trivial ?_
            exact s_X12_readPledge_j157 hG hf hK
  · replace hf := iteF c107 hf
    refine V_iconst (v := 0) d_X12_readPledge_110 ic_0 ?_
    cases hf
    exact R_z hK d_X12_readPledge_111 (Nat.le_of_ble_eq_true rfl) (Nat.le_of_ble_eq_true rfl)
theorem s_X12_readPledge_j82 {G : Gl} (hG : G.1.stackTraces = false) {C : Cx} {n : Nat} {μ : Mem} {l1 : Int32} {l2 : Int32} {l3 : Int32} {k0 : Int32} {r : (Bool × Mem)} (hf : f_X12_readPledge_j82 μ l1 l2 l3 k0 = some r) (hK : FinR G C F_X12_readPledge (some .boolean) (some (.int (b2i r.1))) r.2) : V G C F_X12_readPledge 82 [some (.ref (G.2.1 + 264)), some (.int l1), some (.int l2), some (.int l3), none, none, none] [.int k0] (pic G μ) n 0 0 := by
  unfold f_X12_readPledge_j82 at hf
  refine V_istore (ls' := [_, _, _, _, _, _, _]) d_X12_readPledge_82 rfl rfl ?_
  refine V_iload d_X12_readPledge_84 rfl ?_
  refine V_if_ge (tgt := 93) d_X12_readPledge_86 (by decide) (fun c86 => ?_) (fun c86 => ?_)
  · replace hf := iteT c86 hf
    refine V_aload_n d_X12_readPledge_93 rfl rfl ?_
    refine V_ldcS (i := 57) d_X12_readPledge_94 sT_RX12_152 ?_
    refine V_iconst (v := 1) d_X12_readPledge_96 ic_1 ?_
    refine V_sipush (v := 999) d_X12_readPledge_97 sp_999 ?_
    obtain ⟨q1, hq1, hf⟩ := ob hf
    refine B_callV1 (s_X12_after hG sS_57 hq1) k_264 clX12 m_X12_after kv_RX12_133 d_X12_readPledge_100 rfl (Nat.le_of_ble_eq_true rfl) ⟨rfl, rfl, Nat.le_of_ble_eq_true rfl, Nat.le_of_ble_eq_true rfl, Nat.le_of_ble_eq_true rfl⟩ (fun n => ?_)
    refine V_less (ls' := [some _, some _, some _, some _, some _, none, none]) ⟨rfl, rfl, rfl, rfl, rfl, trivial⟩ ?_
    exact s_X12_readPledge_j103 hG hf hK
  · replace hf := iteF c86 hf
    refine V_iconst (v := (-1)) d_X12_readPledge_89 ic_m1 ?_
    refine V_goto (tgt := 103) d_X12_readPledge_90 (by decide) ?_
    refine V_less (ls' := [some _, some _, some _, some _, some _, none, none]) ⟨rfl, rfl, rfl, rfl, rfl, trivial⟩ ?_
    exact s_X12_readPledge_j103 hG hf hK
theorem s_X12_readPledge_e {G : Gl} (hG : G.1.stackTraces = false) {C : Cx} {n : Nat} {μ : Mem}  {r : (Bool × Mem)} (hf : f_X12_readPledge μ = some r) (hK : FinR G C F_X12_readPledge (some .boolean) (some (.int (b2i r.1))) r.2) : V G C F_X12_readPledge 0 [some (.ref (G.2.1 + 264)), none, none, none, none, none, none] [] (pic G μ) n 0 0 := by
  unfold f_X12_readPledge at hf
  refine V_aload_n d_X12_readPledge_0 rfl rfl ?_
  refine V_iconst (v := 0) d_X12_readPledge_1 ic_0 ?_
  refine V_aload_n d_X12_readPledge_2 rfl rfl ?_
  obtain ⟨t1, ht1, hf⟩ := ob hf
  refine B_callV1 (s_X12_laces hG ht1) k_264 clX12 m_X12_laces kv_RX12_77 d_X12_readPledge_3 rfl (Nat.le_of_ble_eq_true rfl) ⟨rfl, rfl, Nat.le_of_ble_eq_true rfl, Nat.le_of_ble_eq_true rfl, Nat.le_of_ble_eq_true rfl⟩ (fun n => ?_)
  refine V_iconst (v := 1) d_X12_readPledge_6 ic_1 ?_
  refine V_isub d_X12_readPledge_7 ?_
  obtain ⟨q2, hq2, hf⟩ := ob hf
  refine B_callV1 (s_X12_number hG hq2) k_264 clX12 m_X12_number kv_RX12_128 d_X12_readPledge_8 rfl (Nat.le_of_ble_eq_true rfl) ⟨rfl, rfl, Nat.le_of_ble_eq_true rfl, Nat.le_of_ble_eq_true rfl, Nat.le_of_ble_eq_true rfl⟩ (fun n => ?_)
  refine V_istore_n (ls' := [_, _, _, _, _, _, _]) d_X12_readPledge_11 rfl rfl rfl ?_
  refine V_iload_n d_X12_readPledge_12 rfl rfl ?_
  refine V_if_lt (tgt := 24) d_X12_readPledge_13 (by decide) (fun c13 => ?_) (fun c13 => ?_)
  · replace hf := iteT c13 hf
    refine V_less (ls' := [none, none, none, none, none, none, none]) trivial ?_
    exact s_X12_readPledge_j24 hG hf hK
  · replace hf := iteF c13 hf
    refine V_aload_n d_X12_readPledge_16 rfl rfl ?_
    refine V_iload_n d_X12_readPledge_17 rfl rfl ?_
    obtain ⟨t3, ht3, hf⟩ := ob hf
    refine B_callV1 (s_X12_isIn hG ht3) k_264 clX12 m_X12_isIn kv_RX12_138 d_X12_readPledge_18 rfl (Nat.le_of_ble_eq_true rfl) ⟨rfl, rfl, Nat.le_of_ble_eq_true rfl, Nat.le_of_ble_eq_true rfl, Nat.le_of_ble_eq_true rfl⟩ (fun n => ?_)
    refine V_if_ne (tgt := 26) d_X12_readPledge_21 (by decide) (fun c21 => ?_) (fun c21 => ?_)
    · replace hf := iteT (b2i_ne0 c21) hf
      refine V_aload_n d_X12_readPledge_26 rfl rfl ?_
      refine V_ldcS (i := 54) d_X12_readPledge_27 sT_RX12_142 ?_
      refine V_iconst (v := 0) d_X12_readPledge_29 ic_0 ?_
      refine V_aload_n d_X12_readPledge_30 rfl rfl ?_
      obtain ⟨t4, ht4, hf⟩ := ob hf
      refine B_callV1 (s_X12_people hG ht4) k_264 clX12 m_X12_people kv_RX12_59 d_X12_readPledge_31 rfl (Nat.le_of_ble_eq_true rfl) ⟨rfl, rfl, Nat.le_of_ble_eq_true rfl, Nat.le_of_ble_eq_true rfl, Nat.le_of_ble_eq_true rfl⟩ (fun n => ?_)
      refine V_iconst (v := 1) d_X12_readPledge_34 ic_1 ?_
      refine V_isub d_X12_readPledge_35 ?_
      obtain ⟨q5, hq5, hf⟩ := ob hf
      refine B_callV1 (s_X12_after hG sS_54 hq5) k_264 clX12 m_X12_after kv_RX12_133 d_X12_readPledge_36 rfl (Nat.le_of_ble_eq_true rfl) ⟨rfl, rfl, Nat.le_of_ble_eq_true rfl, Nat.le_of_ble_eq_true rfl, Nat.le_of_ble_eq_true rfl⟩ (fun n => ?_)
      refine V_istore_n (ls' := [_, _, _, _, _, _, _]) d_X12_readPledge_39 rfl rfl rfl ?_
      refine V_iload_n d_X12_readPledge_40 rfl rfl ?_
      refine V_if_lt (tgt := 52) d_X12_readPledge_41 (by decide) (fun c41 => ?_) (fun c41 => ?_)
      · replace hf := iteT c41 hf
        refine V_less (ls' := [none, none, none, none, none, none, none]) trivial ?_
        exact s_X12_readPledge_j52 hG hf hK
      · replace hf := iteF c41 hf
        refine V_iload_n d_X12_readPledge_44 rfl rfl ?_
        refine V_iload_n d_X12_readPledge_45 rfl rfl ?_
        obtain ⟨t6, ht6, hf⟩ := ob hf
        refine B_callS1 (s_X12_ownerOf hG ht6) m_X12_ownerOf ks_RX12_144 d_X12_readPledge_46 rfl (Nat.le_of_ble_eq_true rfl) ⟨rfl, rfl, Nat.le_of_ble_eq_true rfl, Nat.le_of_ble_eq_true rfl, Nat.le_of_ble_eq_true rfl⟩ (fun n => ?_)
        refine V_icmp_ne (tgt := 54) d_X12_readPledge_49 (by decide) (fun c49 => ?_) (fun c49 => ?_)
        · replace hf := iteF c49 hf
          refine V_aload_n d_X12_readPledge_54 rfl rfl ?_
          refine V_ldcS (i := 55) d_X12_readPledge_55 sT_RX12_148 ?_
          refine V_iconst (v := 1) d_X12_readPledge_57 ic_1 ?_
          refine V_sipush (v := 999) d_X12_readPledge_58 sp_999 ?_
          obtain ⟨q7, hq7, hf⟩ := ob hf
          refine B_callV1 (s_X12_after hG sS_55 hq7) k_264 clX12 m_X12_after kv_RX12_133 d_X12_readPledge_61 rfl (Nat.le_of_ble_eq_true rfl) ⟨rfl, rfl, Nat.le_of_ble_eq_true rfl, Nat.le_of_ble_eq_true rfl, Nat.le_of_ble_eq_true rfl⟩ (fun n => ?_)
          refine V_istore_n (ls' := [_, _, _, _, _, _, _]) d_X12_readPledge_64 rfl rfl rfl ?_
          refine V_iload_n d_X12_readPledge_65 rfl rfl ?_
          refine V_if_ge (tgt := 73) d_X12_readPledge_66 (by decide) (fun c66 => ?_) (fun c66 => ?_)
          · replace hf := iteT c66 hf
            refine V_aload_n d_X12_readPledge_73 rfl rfl ?_
            refine V_ldcS (i := 56) d_X12_readPledge_74 sT_RX12_150 ?_
            refine V_iconst (v := 0) d_X12_readPledge_76 ic_0 ?_
            refine V_bipush (v := 9) d_X12_readPledge_77 bp_9 ?_
            obtain ⟨q8, hq8, hf⟩ := ob hf
            refine B_callV1 (s_X12_after hG sS_56 hq8) k_264 clX12 m_X12_after kv_RX12_133 d_X12_readPledge_79 rfl (Nat.le_of_ble_eq_true rfl) ⟨rfl, rfl, Nat.le_of_ble_eq_true rfl, Nat.le_of_ble_eq_true rfl, Nat.le_of_ble_eq_true rfl⟩ (fun n => ?_)
            refine V_less (ls' := [some _, some _, some _, some _, none, none, none]) ⟨rfl, rfl, rfl, rfl, trivial⟩ ?_
            exact s_X12_readPledge_j82 hG hf hK
          · replace hf := iteF c66 hf
            refine V_iconst (v := (-1)) d_X12_readPledge_69 ic_m1 ?_
            refine V_goto (tgt := 82) d_X12_readPledge_70 (by decide) ?_
            refine V_less (ls' := [some _, some _, some _, some _, none, none, none]) ⟨rfl, rfl, rfl, rfl, trivial⟩ ?_
            exact s_X12_readPledge_j82 hG hf hK
        · replace hf := iteT c49 hf
          refine V_less (ls' := [none, none, none, none, none, none, none]) trivial ?_
          exact s_X12_readPledge_j52 hG hf hK
    · replace hf := iteF (b2i_nt (b2i_eq0 c21)) hf
      refine V_less (ls' := [none, none, none, none, none, none, none]) trivial ?_
      exact s_X12_readPledge_j24 hG hf hK
theorem s_X12_readPledge {G : Gl} (hG : G.1.stackTraces = false) {μ : Mem} {r : (Bool × Mem)} (hf : f_X12_readPledge μ = some r) : Rt G yX12_readPledge F_X12_readPledge (some .boolean) [.ref (G.2.1 + 264)] μ (some (.int (b2i r.1))) r.2 := fun n => Sd.of hG ⟨by decide +kernel, rfl, rfl⟩ rfl (Nat.le_of_ble_eq_true rfl) rfl (fun C hK => s_X12_readPledge_e hG hf hK)
theorem d_X12_readNumber_0 : decode cX12_readNumber 0 = .ok (.aload_n 0, 1) := by decide +kernel
theorem d_X12_readNumber_1 : decode cX12_readNumber 1 = .ok (.iconst 0, 1) := by decide +kernel
theorem d_X12_readNumber_2 : decode cX12_readNumber 2 = .ok (.iload_n 2, 1) := by decide +kernel
theorem d_X12_readNumber_3 : decode cX12_readNumber 3 = .ok (.invokevirtual 128, 3) := by decide +kernel
theorem d_X12_readNumber_6 : decode cX12_readNumber 6 = .ok (.istore_n 3, 1) := by decide +kernel
theorem d_X12_readNumber_7 : decode cX12_readNumber 7 = .ok (.aload_n 0, 1) := by decide +kernel
theorem d_X12_readNumber_8 : decode cX12_readNumber 8 = .ok (.getfield 13, 3) := by decide +kernel
theorem d_X12_readNumber_11 : decode cX12_readNumber 11 = .ok (.iload_n 1, 1) := by decide +kernel
theorem d_X12_readNumber_12 : decode cX12_readNumber 12 = .ok (.iload_n 3, 1) := by decide +kernel
theorem d_X12_readNumber_13 : decode cX12_readNumber 13 = .ok (.ifCond .ge 12, 3) := by decide +kernel
theorem d_X12_readNumber_16 : decode cX12_readNumber 16 = .ok (.aload_n 0, 1) := by decide +kernel
theorem d_X12_readNumber_17 : decode cX12_readNumber 17 = .ok (.getfield 13, 3) := by decide +kernel
theorem d_X12_readNumber_20 : decode cX12_readNumber 20 = .ok (.iload_n 1, 1) := by decide +kernel
theorem d_X12_readNumber_21 : decode cX12_readNumber 21 = .ok (.iaload, 1) := by decide +kernel
theorem d_X12_readNumber_22 : decode cX12_readNumber 22 = .ok (.goto 4, 3) := by decide +kernel
theorem d_X12_readNumber_25 : decode cX12_readNumber 25 = .ok (.iload_n 3, 1) := by decide +kernel
theorem d_X12_readNumber_26 : decode cX12_readNumber 26 = .ok (.iastore, 1) := by decide +kernel
theorem d_X12_readNumber_27 : decode cX12_readNumber 27 = .ok (.iload_n 3, 1) := by decide +kernel
theorem d_X12_readNumber_28 : decode cX12_readNumber 28 = .ok (.ifCond .lt 7, 3) := by decide +kernel
theorem d_X12_readNumber_31 : decode cX12_readNumber 31 = .ok (.iconst 1, 1) := by decide +kernel
theorem d_X12_readNumber_32 : decode cX12_readNumber 32 = .ok (.goto 4, 3) := by decide +kernel
theorem d_X12_readNumber_35 : decode cX12_readNumber 35 = .ok (.iconst 0, 1) := by decide +kernel
theorem d_X12_readNumber_36 : decode cX12_readNumber 36 = .ok (.ireturn, 1) := by decide +kernel
theorem s_X12_readNumber_j26 {G : Gl} (hG : G.1.stackTraces = false) {C : Cx} {n : Nat} {μ : Mem} {l3 : Int32} {k1 : Int32} {k2 : Int32} {r : (Bool × Mem)} (hf : f_X12_readNumber_j26 μ l3 k1 k2 = some r) (hK : FinR G C F_X12_readNumber (some .boolean) (some (.int (b2i r.1))) r.2) : V G C F_X12_readNumber 26 [none, none, none, some (.int l3)] [.int k2, .int k1, .ref (G.2.1 + 265)] (pic G μ) n 0 0 := by
  unfold f_X12_readNumber_j26 at hf
  obtain ⟨μ1, hμ1, hf⟩ := ob hf
  refine B_iast k_265 hμ1 d_X12_readNumber_26 ?_
  refine V_iload_n d_X12_readNumber_27 rfl rfl ?_
  have hJj2 : ∀ j2 : Bool, j2 = (if l3 < 0 then (false : Bool) else true) → V G C F_X12_readNumber 36 [none, none, none, none] [.int (b2i j2)] (pic G μ1) n 0 0 := by
    intro j2 ej2
    subst ej2
    cases hf
    exact R_z hK d_X12_readNumber_36 (Nat.le_of_ble_eq_true rfl) (Nat.le_of_ble_eq_true rfl)
  refine V_if_lt (tgt := 35) d_X12_readNumber_28 (by decide) (fun c28 => ?_) (fun c28 => ?_)
  · refine V_iconst (v := 0) d_X12_readNumber_35 ic_0 ?_
    refine V_less (ls' := [none, none, none, none]) trivial ?_
    exact hJj2 false (by rw [if_pos c28])
  · refine V_iconst (v := 1) d_X12_readNumber_31 ic_1 ?_
    refine V_goto (tgt := 36) d_X12_readNumber_32 (by decide) ?_
    refine V_less (ls' := [none, none, none, none]) trivial ?_
    exact hJj2 true (by rw [if_neg c28])
theorem s_X12_readNumber_e {G : Gl} (hG : G.1.stackTraces = false) {C : Cx} {n : Nat} {μ : Mem} {p1 : Int32} {p2 : Int32} {r : (Bool × Mem)} (hf : f_X12_readNumber μ p1 p2 = some r) (hK : FinR G C F_X12_readNumber (some .boolean) (some (.int (b2i r.1))) r.2) : V G C F_X12_readNumber 0 [some (.ref (G.2.1 + 264)), some (.int p1), some (.int p2), none] [] (pic G μ) n 0 0 := by
  unfold f_X12_readNumber at hf
  refine V_aload_n d_X12_readNumber_0 rfl rfl ?_
  refine V_iconst (v := 0) d_X12_readNumber_1 ic_0 ?_
  refine V_iload_n d_X12_readNumber_2 rfl rfl ?_
  obtain ⟨q1, hq1, hf⟩ := ob hf
  refine B_callV1 (s_X12_number hG hq1) k_264 clX12 m_X12_number kv_RX12_128 d_X12_readNumber_3 rfl (Nat.le_of_ble_eq_true rfl) ⟨rfl, rfl, Nat.le_of_ble_eq_true rfl, Nat.le_of_ble_eq_true rfl, Nat.le_of_ble_eq_true rfl⟩ (fun n => ?_)
  refine V_istore_n (ls' := [_, _, _, _]) d_X12_readNumber_6 rfl rfl rfl ?_
  refine V_aload_n d_X12_readNumber_7 rfl rfl ?_
  refine B_get k_264 fl_RX12_13 d_X12_readNumber_8 g_12_1 ?_
  refine V_iload_n d_X12_readNumber_11 rfl rfl ?_
  refine V_iload_n d_X12_readNumber_12 rfl rfl ?_
  refine V_if_ge (tgt := 25) d_X12_readNumber_13 (by decide) (fun c13 => ?_) (fun c13 => ?_)
  · replace hf := iteT c13 hf
    refine V_iload_n d_X12_readNumber_25 rfl rfl ?_
    refine V_less (ls' := [none, none, none, some _]) ⟨rfl, trivial⟩ ?_
    exact s_X12_readNumber_j26 hG hf hK
  · replace hf := iteF c13 hf
    refine V_aload_n d_X12_readNumber_16 rfl rfl ?_
    refine B_get k_264 fl_RX12_13 d_X12_readNumber_17 g_12_1 ?_
    refine V_iload_n d_X12_readNumber_20 rfl rfl ?_
    obtain ⟨t2, ht2, hf⟩ := ob hf
    refine B_iald k_265 ht2 d_X12_readNumber_21 ?_
    refine V_goto (tgt := 26) d_X12_readNumber_22 (by decide) ?_
    refine V_less (ls' := [none, none, none, some _]) ⟨rfl, trivial⟩ ?_
    exact s_X12_readNumber_j26 hG hf hK
theorem s_X12_readNumber {G : Gl} (hG : G.1.stackTraces = false) {μ : Mem} {p1 : Int32} {p2 : Int32} {r : (Bool × Mem)} (hf : f_X12_readNumber μ p1 p2 = some r) : Rt G yX12_readNumber F_X12_readNumber (some .boolean) [.ref (G.2.1 + 264), .int p1, .int p2] μ (some (.int (b2i r.1))) r.2 := fun n => Sd.of hG ⟨by decide +kernel, rfl, rfl⟩ rfl (Nat.le_of_ble_eq_true rfl) rfl (fun C hK => s_X12_readNumber_e hG hf hK)
theorem d_X12_readMud_0 : decode cX12_readMud 0 = .ok (.aload_n 0, 1) := by decide +kernel
theorem d_X12_readMud_1 : decode cX12_readMud 1 = .ok (.iconst 0, 1) := by decide +kernel
theorem d_X12_readMud_2 : decode cX12_readMud 2 = .ok (.bipush 19, 2) := by decide +kernel
theorem d_X12_readMud_4 : decode cX12_readMud 4 = .ok (.invokevirtual 128, 3) := by decide +kernel
theorem d_X12_readMud_7 : decode cX12_readMud 7 = .ok (.istore_n 1, 1) := by decide +kernel
theorem d_X12_readMud_8 : decode cX12_readMud 8 = .ok (.iload_n 1, 1) := by decide +kernel
theorem d_X12_readMud_9 : decode cX12_readMud 9 = .ok (.ifCond .lt 20, 3) := by decide +kernel
theorem d_X12_readMud_12 : decode cX12_readMud 12 = .ok (.aload_n 0, 1) := by decide +kernel
theorem d_X12_readMud_13 : decode cX12_readMud 13 = .ok (.bipush 8, 2) := by decide +kernel
theorem d_X12_readMud_15 : decode cX12_readMud 15 = .ok (.iload_n 1, 1) := by decide +kernel
theorem d_X12_readMud_16 : decode cX12_readMud 16 = .ok (.iadd, 1) := by decide +kernel
theorem d_X12_readMud_17 : decode cX12_readMud 17 = .ok (.bipush 9, 2) := by decide +kernel
theorem d_X12_readMud_19 : decode cX12_readMud 19 = .ok (.invokevirtual 159, 3) := by decide +kernel
theorem d_X12_readMud_22 : decode cX12_readMud 22 = .ok (.ifCond .eq 7, 3) := by decide +kernel
theorem d_X12_readMud_25 : decode cX12_readMud 25 = .ok (.iconst 1, 1) := by decide +kernel
theorem d_X12_readMud_26 : decode cX12_readMud 26 = .ok (.goto 4, 3) := by decide +kernel
theorem d_X12_readMud_29 : decode cX12_readMud 29 = .ok (.iconst 0, 1) := by decide +kernel
theorem d_X12_readMud_30 : decode cX12_readMud 30 = .ok (.ireturn, 1) := by decide +kernel
theorem s_X12_readMud_j30 {G : Gl} (hG : G.1.stackTraces = false) {C : Cx} {n : Nat} {μ : Mem} {k0 : Bool} {r : (Bool × Mem)} (hf : f_X12_readMud_j30 μ k0 = some r) (hK : FinR G C F_X12_readMud (some .boolean) (some (.int (b2i r.1))) r.2) : V G C F_X12_readMud 30 [none, none] [.int (b2i k0)] (pic G μ) n 0 0 := by
  unfold f_X12_readMud_j30 at hf
  cases hf
  exact R_z hK d_X12_readMud_30 (Nat.le_of_ble_eq_true rfl) (Nat.le_of_ble_eq_true rfl)
theorem s_X12_readMud_j29 {G : Gl} (hG : G.1.stackTraces = false) {C : Cx} {n : Nat} {μ : Mem}  {r : (Bool × Mem)} (hf : f_X12_readMud_j29 μ = some r) (hK : FinR G C F_X12_readMud (some .boolean) (some (.int (b2i r.1))) r.2) : V G C F_X12_readMud 29 [none, none] [] (pic G μ) n 0 0 := by
  unfold f_X12_readMud_j29 at hf
  refine V_iconst (v := 0) d_X12_readMud_29 ic_0 ?_
  refine V_less (ls' := [none, none]) trivial ?_
  exact s_X12_readMud_j30 hG hf hK
theorem s_X12_readMud_e {G : Gl} (hG : G.1.stackTraces = false) {C : Cx} {n : Nat} {μ : Mem}  {r : (Bool × Mem)} (hf : f_X12_readMud μ = some r) (hK : FinR G C F_X12_readMud (some .boolean) (some (.int (b2i r.1))) r.2) : V G C F_X12_readMud 0 [some (.ref (G.2.1 + 264)), none] [] (pic G μ) n 0 0 := by
  unfold f_X12_readMud at hf
  refine V_aload_n d_X12_readMud_0 rfl rfl ?_
  refine V_iconst (v := 0) d_X12_readMud_1 ic_0 ?_
  refine V_bipush (v := 19) d_X12_readMud_2 bp_19 ?_
  obtain ⟨q1, hq1, hf⟩ := ob hf
  refine B_callV1 (s_X12_number hG hq1) k_264 clX12 m_X12_number kv_RX12_128 d_X12_readMud_4 rfl (Nat.le_of_ble_eq_true rfl) ⟨rfl, rfl, Nat.le_of_ble_eq_true rfl, Nat.le_of_ble_eq_true rfl, Nat.le_of_ble_eq_true rfl⟩ (fun n => ?_)
  refine V_istore_n (ls' := [_, _]) d_X12_readMud_7 rfl rfl rfl ?_
  refine V_iload_n d_X12_readMud_8 rfl rfl ?_
  refine V_if_lt (tgt := 29) d_X12_readMud_9 (by decide) (fun c9 => ?_) (fun c9 => ?_)
  · replace hf := iteT c9 hf
    refine V_less (ls' := [none, none]) trivial ?_
    exact s_X12_readMud_j29 hG hf hK
  · replace hf := iteF c9 hf
    refine V_aload_n d_X12_readMud_12 rfl rfl ?_
    refine V_bipush (v := 8) d_X12_readMud_13 bp_8 ?_
    refine V_iload_n d_X12_readMud_15 rfl rfl ?_
    refine V_iadd d_X12_readMud_16 ?_
    refine V_bipush (v := 9) d_X12_readMud_17 bp_9 ?_
    obtain ⟨q2, hq2, hf⟩ := ob hf
    refine B_callV1 (s_X12_readNumber hG hq2) k_264 clX12 m_X12_readNumber kv_RX12_159 d_X12_readMud_19 rfl (Nat.le_of_ble_eq_true rfl) ⟨rfl, rfl, Nat.le_of_ble_eq_true rfl, Nat.le_of_ble_eq_true rfl, Nat.le_of_ble_eq_true rfl⟩ (fun n => ?_)
    have hJj3 : ∀ j3 : Bool, j3 = (if q2.1 = true then (true : Bool) else false) → V G C F_X12_readMud 30 [none, none] [.int (b2i j3)] (pic G q2.2) n 0 0 := by
      intro j3 ej3
      subst ej3
      cases hf
      exact R_z hK d_X12_readMud_30 (Nat.le_of_ble_eq_true rfl) (Nat.le_of_ble_eq_true rfl)
    refine V_if_eq (tgt := 29) d_X12_readMud_22 (by decide) (fun c22 => ?_) (fun c22 => ?_)
    · refine V_iconst (v := 0) d_X12_readMud_29 ic_0 ?_
      refine V_less (ls' := [none, none]) trivial ?_
      exact hJj3 false (by rw [if_neg (b2i_nt (b2i_eq0 c22))])
    · refine V_iconst (v := 1) d_X12_readMud_25 ic_1 ?_
      refine V_goto (tgt := 30) d_X12_readMud_26 (by decide) ?_
      refine V_less (ls' := [none, none]) trivial ?_
      exact hJj3 true (by rw [if_pos (b2i_ne0 c22)])
theorem s_X12_readMud {G : Gl} (hG : G.1.stackTraces = false) {μ : Mem} {r : (Bool × Mem)} (hf : f_X12_readMud μ = some r) : Rt G yX12_readMud F_X12_readMud (some .boolean) [.ref (G.2.1 + 264)] μ (some (.int (b2i r.1))) r.2 := fun n => Sd.of hG ⟨by decide +kernel, rfl, rfl⟩ rfl (Nat.le_of_ble_eq_true rfl) rfl (fun C hK => s_X12_readMud_e hG hf hK)
theorem d_X12_readGoal_0 : decode cX12_readGoal 0 = .ok (.aload_n 0, 1) := by decide +kernel
theorem d_X12_readGoal_1 : decode cX12_readGoal 1 = .ok (.iconst 0, 1) := by decide +kernel
theorem d_X12_readGoal_2 : decode cX12_readGoal 2 = .ok (.aload_n 0, 1) := by decide +kernel
theorem d_X12_readGoal_3 : decode cX12_readGoal 3 = .ok (.invokevirtual 59, 3) := by decide +kernel
theorem d_X12_readGoal_6 : decode cX12_readGoal 6 = .ok (.iconst 1, 1) := by decide +kernel
theorem d_X12_readGoal_7 : decode cX12_readGoal 7 = .ok (.isub, 1) := by decide +kernel
theorem d_X12_readGoal_8 : decode cX12_readGoal 8 = .ok (.invokevirtual 128, 3) := by decide +kernel
theorem d_X12_readGoal_11 : decode cX12_readGoal 11 = .ok (.istore_n 1, 1) := by decide +kernel
theorem d_X12_readGoal_12 : decode cX12_readGoal 12 = .ok (.iload_n 1, 1) := by decide +kernel
theorem d_X12_readGoal_13 : decode cX12_readGoal 13 = .ok (.ifCond .lt 21, 3) := by decide +kernel
theorem d_X12_readGoal_16 : decode cX12_readGoal 16 = .ok (.aload_n 0, 1) := by decide +kernel
theorem d_X12_readGoal_17 : decode cX12_readGoal 17 = .ok (.iload_n 1, 1) := by decide +kernel
theorem d_X12_readGoal_18 : decode cX12_readGoal 18 = .ok (.iconst 3, 1) := by decide +kernel
theorem d_X12_readGoal_19 : decode cX12_readGoal 19 = .ok (.invokestatic 63, 3) := by decide +kernel
theorem d_X12_readGoal_22 : decode cX12_readGoal 22 = .ok (.bipush 19, 2) := by decide +kernel
theorem d_X12_readGoal_24 : decode cX12_readGoal 24 = .ok (.invokevirtual 159, 3) := by decide +kernel
theorem d_X12_readGoal_27 : decode cX12_readGoal 27 = .ok (.ifCond .eq 7, 3) := by decide +kernel
theorem d_X12_readGoal_30 : decode cX12_readGoal 30 = .ok (.iconst 1, 1) := by decide +kernel
theorem d_X12_readGoal_31 : decode cX12_readGoal 31 = .ok (.goto 4, 3) := by decide +kernel
theorem d_X12_readGoal_34 : decode cX12_readGoal 34 = .ok (.iconst 0, 1) := by decide +kernel
theorem d_X12_readGoal_35 : decode cX12_readGoal 35 = .ok (.ireturn, 1) := by decide +kernel
theorem s_X12_readGoal_j35 {G : Gl} (hG : G.1.stackTraces = false) {C : Cx} {n : Nat} {μ : Mem} {k0 : Bool} {r : (Bool × Mem)} (hf : f_X12_readGoal_j35 μ k0 = some r) (hK : FinR G C F_X12_readGoal (some .boolean) (some (.int (b2i r.1))) r.2) : V G C F_X12_readGoal 35 [none, none] [.int (b2i k0)] (pic G μ) n 0 0 := by
  unfold f_X12_readGoal_j35 at hf
  cases hf
  exact R_z hK d_X12_readGoal_35 (Nat.le_of_ble_eq_true rfl) (Nat.le_of_ble_eq_true rfl)
theorem s_X12_readGoal_j34 {G : Gl} (hG : G.1.stackTraces = false) {C : Cx} {n : Nat} {μ : Mem}  {r : (Bool × Mem)} (hf : f_X12_readGoal_j34 μ = some r) (hK : FinR G C F_X12_readGoal (some .boolean) (some (.int (b2i r.1))) r.2) : V G C F_X12_readGoal 34 [none, none] [] (pic G μ) n 0 0 := by
  unfold f_X12_readGoal_j34 at hf
  refine V_iconst (v := 0) d_X12_readGoal_34 ic_0 ?_
  refine V_less (ls' := [none, none]) trivial ?_
  exact s_X12_readGoal_j35 hG hf hK
theorem s_X12_readGoal_e {G : Gl} (hG : G.1.stackTraces = false) {C : Cx} {n : Nat} {μ : Mem}  {r : (Bool × Mem)} (hf : f_X12_readGoal μ = some r) (hK : FinR G C F_X12_readGoal (some .boolean) (some (.int (b2i r.1))) r.2) : V G C F_X12_readGoal 0 [some (.ref (G.2.1 + 264)), none] [] (pic G μ) n 0 0 := by
  unfold f_X12_readGoal at hf
  refine V_aload_n d_X12_readGoal_0 rfl rfl ?_
  refine V_iconst (v := 0) d_X12_readGoal_1 ic_0 ?_
  refine V_aload_n d_X12_readGoal_2 rfl rfl ?_
  obtain ⟨t1, ht1, hf⟩ := ob hf
  refine B_callV1 (s_X12_people hG ht1) k_264 clX12 m_X12_people kv_RX12_59 d_X12_readGoal_3 rfl (Nat.le_of_ble_eq_true rfl) ⟨rfl, rfl, Nat.le_of_ble_eq_true rfl, Nat.le_of_ble_eq_true rfl, Nat.le_of_ble_eq_true rfl⟩ (fun n => ?_)
  refine V_iconst (v := 1) d_X12_readGoal_6 ic_1 ?_
  refine V_isub d_X12_readGoal_7 ?_
  obtain ⟨q2, hq2, hf⟩ := ob hf
  refine B_callV1 (s_X12_number hG hq2) k_264 clX12 m_X12_number kv_RX12_128 d_X12_readGoal_8 rfl (Nat.le_of_ble_eq_true rfl) ⟨rfl, rfl, Nat.le_of_ble_eq_true rfl, Nat.le_of_ble_eq_true rfl, Nat.le_of_ble_eq_true rfl⟩ (fun n => ?_)
  refine V_istore_n (ls' := [_, _]) d_X12_readGoal_11 rfl rfl rfl ?_
  refine V_iload_n d_X12_readGoal_12 rfl rfl ?_
  refine V_if_lt (tgt := 34) d_X12_readGoal_13 (by decide) (fun c13 => ?_) (fun c13 => ?_)
  · replace hf := iteT c13 hf
    refine V_less (ls' := [none, none]) trivial ?_
    exact s_X12_readGoal_j34 hG hf hK
  · replace hf := iteF c13 hf
    refine V_aload_n d_X12_readGoal_16 rfl rfl ?_
    refine V_iload_n d_X12_readGoal_17 rfl rfl ?_
    refine V_iconst (v := 3) d_X12_readGoal_18 ic_3 ?_
    obtain ⟨t3, ht3, hf⟩ := ob hf
    refine B_callS1 (s_X12_at hG ht3) m_X12_at ks_RX12_63 d_X12_readGoal_19 rfl (Nat.le_of_ble_eq_true rfl) ⟨rfl, rfl, Nat.le_of_ble_eq_true rfl, Nat.le_of_ble_eq_true rfl, Nat.le_of_ble_eq_true rfl⟩ (fun n => ?_)
    refine V_bipush (v := 19) d_X12_readGoal_22 bp_19 ?_
    obtain ⟨q4, hq4, hf⟩ := ob hf
    refine B_callV1 (s_X12_readNumber hG hq4) k_264 clX12 m_X12_readNumber kv_RX12_159 d_X12_readGoal_24 rfl (Nat.le_of_ble_eq_true rfl) ⟨rfl, rfl, Nat.le_of_ble_eq_true rfl, Nat.le_of_ble_eq_true rfl, Nat.le_of_ble_eq_true rfl⟩ (fun n => ?_)
    have hJj5 : ∀ j5 : Bool, j5 = (if q4.1 = true then (true : Bool) else false) → V G C F_X12_readGoal 35 [none, none] [.int (b2i j5)] (pic G q4.2) n 0 0 := by
      intro j5 ej5
      subst ej5
      cases hf
      exact R_z hK d_X12_readGoal_35 (Nat.le_of_ble_eq_true rfl) (Nat.le_of_ble_eq_true rfl)
    refine V_if_eq (tgt := 34) d_X12_readGoal_27 (by decide) (fun c27 => ?_) (fun c27 => ?_)
    · refine V_iconst (v := 0) d_X12_readGoal_34 ic_0 ?_
      refine V_less (ls' := [none, none]) trivial ?_
      exact hJj5 false (by rw [if_neg (b2i_nt (b2i_eq0 c27))])
    · refine V_iconst (v := 1) d_X12_readGoal_30 ic_1 ?_
      refine V_goto (tgt := 35) d_X12_readGoal_31 (by decide) ?_
      refine V_less (ls' := [none, none]) trivial ?_
      exact hJj5 true (by rw [if_pos (b2i_ne0 c27)])
theorem s_X12_readGoal {G : Gl} (hG : G.1.stackTraces = false) {μ : Mem} {r : (Bool × Mem)} (hf : f_X12_readGoal μ = some r) : Rt G yX12_readGoal F_X12_readGoal (some .boolean) [.ref (G.2.1 + 264)] μ (some (.int (b2i r.1))) r.2 := fun n => Sd.of hG ⟨by decide +kernel, rfl, rfl⟩ rfl (Nat.le_of_ble_eq_true rfl) rfl (fun C hK => s_X12_readGoal_e hG hf hK)
theorem d_X12_readLandLine_0 : decode cX12_readLandLine 0 = .ok (.aload_n 0, 1) := by decide +kernel
theorem d_X12_readLandLine_1 : decode cX12_readLandLine 1 = .ok (.ldc 162, 2) := by decide +kernel
theorem d_X12_readLandLine_3 : decode cX12_readLandLine 3 = .ok (.invokevirtual 124, 3) := by decide +kernel
theorem d_X12_readLandLine_6 : decode cX12_readLandLine 6 = .ok (.ifCond .eq 8, 3) := by decide +kernel
theorem d_X12_readLandLine_9 : decode cX12_readLandLine 9 = .ok (.aload_n 0, 1) := by decide +kernel
theorem d_X12_readLandLine_10 : decode cX12_readLandLine 10 = .ok (.invokevirtual 164, 3) := by decide +kernel
theorem d_X12_readLandLine_13 : decode cX12_readLandLine 13 = .ok (.ireturn, 1) := by decide +kernel
theorem d_X12_readLandLine_14 : decode cX12_readLandLine 14 = .ok (.aload_n 0, 1) := by decide +kernel
theorem d_X12_readLandLine_15 : decode cX12_readLandLine 15 = .ok (.ldc 168, 2) := by decide +kernel
theorem d_X12_readLandLine_17 : decode cX12_readLandLine 17 = .ok (.invokevirtual 124, 3) := by decide +kernel
theorem d_X12_readLandLine_20 : decode cX12_readLandLine 20 = .ok (.ifCond .eq 8, 3) := by decide +kernel
theorem d_X12_readLandLine_23 : decode cX12_readLandLine 23 = .ok (.aload_n 0, 1) := by decide +kernel
theorem d_X12_readLandLine_24 : decode cX12_readLandLine 24 = .ok (.invokevirtual 170, 3) := by decide +kernel
theorem d_X12_readLandLine_27 : decode cX12_readLandLine 27 = .ok (.ireturn, 1) := by decide +kernel
theorem d_X12_readLandLine_28 : decode cX12_readLandLine 28 = .ok (.aload_n 0, 1) := by decide +kernel
theorem d_X12_readLandLine_29 : decode cX12_readLandLine 29 = .ok (.ldc 173, 2) := by decide +kernel
theorem d_X12_readLandLine_31 : decode cX12_readLandLine 31 = .ok (.invokevirtual 124, 3) := by decide +kernel
theorem d_X12_readLandLine_34 : decode cX12_readLandLine 34 = .ok (.ifCond .eq 8, 3) := by decide +kernel
theorem d_X12_readLandLine_37 : decode cX12_readLandLine 37 = .ok (.aload_n 0, 1) := by decide +kernel
theorem d_X12_readLandLine_38 : decode cX12_readLandLine 38 = .ok (.invokevirtual 175, 3) := by decide +kernel
theorem d_X12_readLandLine_41 : decode cX12_readLandLine 41 = .ok (.ireturn, 1) := by decide +kernel
theorem d_X12_readLandLine_42 : decode cX12_readLandLine 42 = .ok (.aload_n 0, 1) := by decide +kernel
theorem d_X12_readLandLine_43 : decode cX12_readLandLine 43 = .ok (.ldc 178, 2) := by decide +kernel
theorem d_X12_readLandLine_45 : decode cX12_readLandLine 45 = .ok (.invokevirtual 124, 3) := by decide +kernel
theorem d_X12_readLandLine_48 : decode cX12_readLandLine 48 = .ok (.ifCond .eq 8, 3) := by decide +kernel
theorem d_X12_readLandLine_51 : decode cX12_readLandLine 51 = .ok (.aload_n 0, 1) := by decide +kernel
theorem d_X12_readLandLine_52 : decode cX12_readLandLine 52 = .ok (.invokevirtual 180, 3) := by decide +kernel
theorem d_X12_readLandLine_55 : decode cX12_readLandLine 55 = .ok (.ireturn, 1) := by decide +kernel
theorem d_X12_readLandLine_56 : decode cX12_readLandLine 56 = .ok (.aload_n 0, 1) := by decide +kernel
theorem d_X12_readLandLine_57 : decode cX12_readLandLine 57 = .ok (.ldc 183, 2) := by decide +kernel
theorem d_X12_readLandLine_59 : decode cX12_readLandLine 59 = .ok (.invokevirtual 124, 3) := by decide +kernel
theorem d_X12_readLandLine_62 : decode cX12_readLandLine 62 = .ok (.ifCond .eq 11, 3) := by decide +kernel
theorem d_X12_readLandLine_65 : decode cX12_readLandLine 65 = .ok (.aload_n 0, 1) := by decide +kernel
theorem d_X12_readLandLine_66 : decode cX12_readLandLine 66 = .ok (.iconst 4, 1) := by decide +kernel
theorem d_X12_readLandLine_67 : decode cX12_readLandLine 67 = .ok (.bipush 99, 2) := by decide +kernel
theorem d_X12_readLandLine_69 : decode cX12_readLandLine 69 = .ok (.invokevirtual 159, 3) := by decide +kernel
theorem d_X12_readLandLine_72 : decode cX12_readLandLine 72 = .ok (.ireturn, 1) := by decide +kernel
theorem d_X12_readLandLine_73 : decode cX12_readLandLine 73 = .ok (.aload_n 0, 1) := by decide +kernel
theorem d_X12_readLandLine_74 : decode cX12_readLandLine 74 = .ok (.ldc 185, 2) := by decide +kernel
theorem d_X12_readLandLine_76 : decode cX12_readLandLine 76 = .ok (.invokevirtual 124, 3) := by decide +kernel
theorem d_X12_readLandLine_79 : decode cX12_readLandLine 79 = .ok (.ifCond .eq 18, 3) := by decide +kernel
theorem d_X12_readLandLine_82 : decode cX12_readLandLine 82 = .ok (.aload_n 0, 1) := by decide +kernel
theorem d_X12_readLandLine_83 : decode cX12_readLandLine 83 = .ok (.iconst 3, 1) := by decide +kernel
theorem d_X12_readLandLine_84 : decode cX12_readLandLine 84 = .ok (.sipush 999, 3) := by decide +kernel
theorem d_X12_readLandLine_87 : decode cX12_readLandLine 87 = .ok (.invokevirtual 159, 3) := by decide +kernel
theorem d_X12_readLandLine_90 : decode cX12_readLandLine 90 = .ok (.ifCond .eq 7, 3) := by decide +kernel
theorem d_X12_readLandLine_93 : decode cX12_readLandLine 93 = .ok (.iconst 1, 1) := by decide +kernel
theorem d_X12_readLandLine_94 : decode cX12_readLandLine 94 = .ok (.goto 4, 3) := by decide +kernel
theorem d_X12_readLandLine_97 : decode cX12_readLandLine 97 = .ok (.iconst 0, 1) := by decide +kernel
theorem d_X12_readLandLine_98 : decode cX12_readLandLine 98 = .ok (.ireturn, 1) := by decide +kernel
theorem s_X12_readLandLine_j98 {G : Gl} (hG : G.1.stackTraces = false) {C : Cx} {n : Nat} {μ : Mem} {k0 : Bool} {r : (Bool × Mem)} (hf : f_X12_readLandLine_j98 μ k0 = some r) (hK : FinR G C F_X12_readLandLine (some .boolean) (some (.int (b2i r.1))) r.2) : V G C F_X12_readLandLine 98 [none] [.int (b2i k0)] (pic G μ) n 0 0 := by
  unfold f_X12_readLandLine_j98 at hf
  cases hf
  exact R_z hK d_X12_readLandLine_98 (Nat.le_of_ble_eq_true rfl) (Nat.le_of_ble_eq_true rfl)
theorem s_X12_readLandLine_j97 {G : Gl} (hG : G.1.stackTraces = false) {C : Cx} {n : Nat} {μ : Mem}  {r : (Bool × Mem)} (hf : f_X12_readLandLine_j97 μ = some r) (hK : FinR G C F_X12_readLandLine (some .boolean) (some (.int (b2i r.1))) r.2) : V G C F_X12_readLandLine 97 [none] [] (pic G μ) n 0 0 := by
  unfold f_X12_readLandLine_j97 at hf
  refine V_iconst (v := 0) d_X12_readLandLine_97 ic_0 ?_
  refine V_less (ls' := [none]) trivial ?_
  exact s_X12_readLandLine_j98 hG hf hK
theorem s_X12_readLandLine_e {G : Gl} (hG : G.1.stackTraces = false) {C : Cx} {n : Nat} {μ : Mem}  {r : (Bool × Mem)} (hf : f_X12_readLandLine μ = some r) (hK : FinR G C F_X12_readLandLine (some .boolean) (some (.int (b2i r.1))) r.2) : V G C F_X12_readLandLine 0 [some (.ref (G.2.1 + 264))] [] (pic G μ) n 0 0 := by
  unfold f_X12_readLandLine at hf
  refine V_aload_n d_X12_readLandLine_0 rfl rfl ?_
  refine V_ldcS (i := 59) d_X12_readLandLine_1 sT_RX12_162 ?_
  obtain ⟨t1, ht1, hf⟩ := ob hf
  refine B_callV1 (s_X12_isWord hG sS_59 ht1) k_264 clX12 m_X12_isWord kv_RX12_124 d_X12_readLandLine_3 rfl (Nat.le_of_ble_eq_true rfl) ⟨rfl, rfl, Nat.le_of_ble_eq_true rfl, Nat.le_of_ble_eq_true rfl, Nat.le_of_ble_eq_true rfl⟩ (fun n => ?_)
  refine V_if_eq (tgt := 14) d_X12_readLandLine_6 (by decide) (fun c6 => ?_) (fun c6 => ?_)
  · replace hf := iteF (b2i_nt (b2i_eq0 c6)) hf
    refine V_aload_n d_X12_readLandLine_14 rfl rfl ?_
    refine V_ldcS (i := 60) d_X12_readLandLine_15 sT_RX12_168 ?_
    obtain ⟨t2, ht2, hf⟩ := ob hf
    refine B_callV1 (s_X12_isWord hG sS_60 ht2) k_264 clX12 m_X12_isWord kv_RX12_124 d_X12_readLandLine_17 rfl (Nat.le_of_ble_eq_true rfl) ⟨rfl, rfl, Nat.le_of_ble_eq_true rfl, Nat.le_of_ble_eq_true rfl, Nat.le_of_ble_eq_true rfl⟩ (fun n => ?_)
    refine V_if_eq (tgt := 28) d_X12_readLandLine_20 (by decide) (fun c20 => ?_) (fun c20 => ?_)
    · replace hf := iteF (b2i_nt (b2i_eq0 c20)) hf
      refine V_aload_n d_X12_readLandLine_28 rfl rfl ?_
      refine V_ldcS (i := 61) d_X12_readLandLine_29 sT_RX12_173 ?_
      obtain ⟨t3, ht3, hf⟩ := ob hf
      refine B_callV1 (s_X12_isWord hG sS_61 ht3) k_264 clX12 m_X12_isWord kv_RX12_124 d_X12_readLandLine_31 rfl (Nat.le_of_ble_eq_true rfl) ⟨rfl, rfl, Nat.le_of_ble_eq_true rfl, Nat.le_of_ble_eq_true rfl, Nat.le_of_ble_eq_true rfl⟩ (fun n => ?_)
      refine V_if_eq (tgt := 42) d_X12_readLandLine_34 (by decide) (fun c34 => ?_) (fun c34 => ?_)
      · replace hf := iteF (b2i_nt (b2i_eq0 c34)) hf
        refine V_aload_n d_X12_readLandLine_42 rfl rfl ?_
        refine V_ldcS (i := 62) d_X12_readLandLine_43 sT_RX12_178 ?_
        obtain ⟨t4, ht4, hf⟩ := ob hf
        refine B_callV1 (s_X12_isWord hG sS_62 ht4) k_264 clX12 m_X12_isWord kv_RX12_124 d_X12_readLandLine_45 rfl (Nat.le_of_ble_eq_true rfl) ⟨rfl, rfl, Nat.le_of_ble_eq_true rfl, Nat.le_of_ble_eq_true rfl, Nat.le_of_ble_eq_true rfl⟩ (fun n => ?_)
        refine V_if_eq (tgt := 56) d_X12_readLandLine_48 (by decide) (fun c48 => ?_) (fun c48 => ?_)
        · replace hf := iteF (b2i_nt (b2i_eq0 c48)) hf
          refine V_aload_n d_X12_readLandLine_56 rfl rfl ?_
          refine V_ldcS (i := 63) d_X12_readLandLine_57 sT_RX12_183 ?_
          obtain ⟨t5, ht5, hf⟩ := ob hf
          refine B_callV1 (s_X12_isWord hG sS_63 ht5) k_264 clX12 m_X12_isWord kv_RX12_124 d_X12_readLandLine_59 rfl (Nat.le_of_ble_eq_true rfl) ⟨rfl, rfl, Nat.le_of_ble_eq_true rfl, Nat.le_of_ble_eq_true rfl, Nat.le_of_ble_eq_true rfl⟩ (fun n => ?_)
          refine V_if_eq (tgt := 73) d_X12_readLandLine_62 (by decide) (fun c62 => ?_) (fun c62 => ?_)
          · replace hf := iteF (b2i_nt (b2i_eq0 c62)) hf
            refine V_aload_n d_X12_readLandLine_73 rfl rfl ?_
            refine V_ldcS (i := 64) d_X12_readLandLine_74 sT_RX12_185 ?_
            obtain ⟨t6, ht6, hf⟩ := ob hf
            refine B_callV1 (s_X12_isWord hG sS_64 ht6) k_264 clX12 m_X12_isWord kv_RX12_124 d_X12_readLandLine_76 rfl (Nat.le_of_ble_eq_true rfl) ⟨rfl, rfl, Nat.le_of_ble_eq_true rfl, Nat.le_of_ble_eq_true rfl, Nat.le_of_ble_eq_true rfl⟩ (fun n => ?_)
            refine V_if_eq (tgt := 97) d_X12_readLandLine_79 (by decide) (fun c79 => ?_) (fun c79 => ?_)
            · replace hf := iteF (b2i_nt (b2i_eq0 c79)) hf
              refine V_less (ls' := [none]) trivial ?_
              exact s_X12_readLandLine_j97 hG hf hK
            · replace hf := iteT (b2i_ne0 c79) hf
              refine V_aload_n d_X12_readLandLine_82 rfl rfl ?_
              refine V_iconst (v := 3) d_X12_readLandLine_83 ic_3 ?_
              refine V_sipush (v := 999) d_X12_readLandLine_84 sp_999 ?_
              obtain ⟨q7, hq7, hf⟩ := ob hf
              refine B_callV1 (s_X12_readNumber hG hq7) k_264 clX12 m_X12_readNumber kv_RX12_159 d_X12_readLandLine_87 rfl (Nat.le_of_ble_eq_true rfl) ⟨rfl, rfl, Nat.le_of_ble_eq_true rfl, Nat.le_of_ble_eq_true rfl, Nat.le_of_ble_eq_true rfl⟩ (fun n => ?_)
              have hJj8 : ∀ j8 : Bool, j8 = (if q7.1 = true then (true : Bool) else false) → V G C F_X12_readLandLine 98 [none] [.int (b2i j8)] (pic G q7.2) n 0 0 := by
                intro j8 ej8
                subst ej8
                cases hf
                exact R_z hK d_X12_readLandLine_98 (Nat.le_of_ble_eq_true rfl) (Nat.le_of_ble_eq_true rfl)
              refine V_if_eq (tgt := 97) d_X12_readLandLine_90 (by decide) (fun c90 => ?_) (fun c90 => ?_)
              · refine V_iconst (v := 0) d_X12_readLandLine_97 ic_0 ?_
                refine V_less (ls' := [none]) trivial ?_
                exact hJj8 false (by rw [if_neg (b2i_nt (b2i_eq0 c90))])
              · refine V_iconst (v := 1) d_X12_readLandLine_93 ic_1 ?_
                refine V_goto (tgt := 98) d_X12_readLandLine_94 (by decide) ?_
                refine V_less (ls' := [none]) trivial ?_
                exact hJj8 true (by rw [if_pos (b2i_ne0 c90)])
          · replace hf := iteT (b2i_ne0 c62) hf
            refine V_aload_n d_X12_readLandLine_65 rfl rfl ?_
            refine V_iconst (v := 4) d_X12_readLandLine_66 ic_4 ?_
            refine V_bipush (v := 99) d_X12_readLandLine_67 bp_99 ?_
            obtain ⟨q9, hq9, hf⟩ := ob hf
            refine B_callV1 (s_X12_readNumber hG hq9) k_264 clX12 m_X12_readNumber kv_RX12_159 d_X12_readLandLine_69 rfl (Nat.le_of_ble_eq_true rfl) ⟨rfl, rfl, Nat.le_of_ble_eq_true rfl, Nat.le_of_ble_eq_true rfl, Nat.le_of_ble_eq_true rfl⟩ (fun n => ?_)
            cases hf
            exact R_z hK d_X12_readLandLine_72 (Nat.le_of_ble_eq_true rfl) (Nat.le_of_ble_eq_true rfl)
        · replace hf := iteT (b2i_ne0 c48) hf
          refine V_aload_n d_X12_readLandLine_51 rfl rfl ?_
          obtain ⟨q10, hq10, hf⟩ := ob hf
          refine B_callV1 (s_X12_readGoal hG hq10) k_264 clX12 m_X12_readGoal kv_RX12_180 d_X12_readLandLine_52 rfl (Nat.le_of_ble_eq_true rfl) ⟨rfl, rfl, Nat.le_of_ble_eq_true rfl, Nat.le_of_ble_eq_true rfl, Nat.le_of_ble_eq_true rfl⟩ (fun n => ?_)
          cases hf
          exact R_z hK d_X12_readLandLine_55 (Nat.le_of_ble_eq_true rfl) (Nat.le_of_ble_eq_true rfl)
      · replace hf := iteT (b2i_ne0 c34) hf
        refine V_aload_n d_X12_readLandLine_37 rfl rfl ?_
        obtain ⟨q11, hq11, hf⟩ := ob hf
        refine B_callV1 (s_X12_readMud hG hq11) k_264 clX12 m_X12_readMud kv_RX12_175 d_X12_readLandLine_38 rfl (Nat.le_of_ble_eq_true rfl) ⟨rfl, rfl, Nat.le_of_ble_eq_true rfl, Nat.le_of_ble_eq_true rfl, Nat.le_of_ble_eq_true rfl⟩ (fun n => ?_)
        cases hf
        exact R_z hK d_X12_readLandLine_41 (Nat.le_of_ble_eq_true rfl) (Nat.le_of_ble_eq_true rfl)
    · replace hf := iteT (b2i_ne0 c20) hf
      refine V_aload_n d_X12_readLandLine_23 rfl rfl ?_
      obtain ⟨q12, hq12, hf⟩ := ob hf
      refine B_callV1 (s_X12_readPledge hG hq12) k_264 clX12 m_X12_readPledge kv_RX12_170 d_X12_readLandLine_24 rfl (Nat.le_of_ble_eq_true rfl) ⟨rfl, rfl, Nat.le_of_ble_eq_true rfl, Nat.le_of_ble_eq_true rfl, Nat.le_of_ble_eq_true rfl⟩ (fun n => ?_)
      cases hf
      exact R_z hK d_X12_readLandLine_27 (Nat.le_of_ble_eq_true rfl) (Nat.le_of_ble_eq_true rfl)
  · replace hf := iteT (b2i_ne0 c6) hf
    refine V_aload_n d_X12_readLandLine_9 rfl rfl ?_
    obtain ⟨q13, hq13, hf⟩ := ob hf
    refine B_callV1 (s_X12_readPerson hG hq13) k_264 clX12 m_X12_readPerson kv_RX12_164 d_X12_readLandLine_10 rfl (Nat.le_of_ble_eq_true rfl) ⟨rfl, rfl, Nat.le_of_ble_eq_true rfl, Nat.le_of_ble_eq_true rfl, Nat.le_of_ble_eq_true rfl⟩ (fun n => ?_)
    cases hf
    exact R_z hK d_X12_readLandLine_13 (Nat.le_of_ble_eq_true rfl) (Nat.le_of_ble_eq_true rfl)
theorem s_X12_readLandLine {G : Gl} (hG : G.1.stackTraces = false) {μ : Mem} {r : (Bool × Mem)} (hf : f_X12_readLandLine μ = some r) : Rt G yX12_readLandLine F_X12_readLandLine (some .boolean) [.ref (G.2.1 + 264)] μ (some (.int (b2i r.1))) r.2 := fun n => Sd.of hG ⟨by decide +kernel, rfl, rfl⟩ rfl (Nat.le_of_ble_eq_true rfl) rfl (fun C hK => s_X12_readLandLine_e hG hf hK)
theorem d_X12_emits_0 : decode cX12_emits 0 = .ok (.aload_n 0, 1) := by decide +kernel
theorem d_X12_emits_1 : decode cX12_emits 1 = .ok (.getfield 13, 3) := by decide +kernel
theorem d_X12_emits_4 : decode cX12_emits 4 = .ok (.sipush 1268, 3) := by decide +kernel
theorem d_X12_emits_7 : decode cX12_emits 7 = .ok (.iconst 2, 1) := by decide +kernel
theorem d_X12_emits_8 : decode cX12_emits 8 = .ok (.aload_n 0, 1) := by decide +kernel
theorem d_X12_emits_9 : decode cX12_emits 9 = .ok (.getfield 187, 3) := by decide +kernel
theorem d_X12_emits_12 : decode cX12_emits 12 = .ok (.imul, 1) := by decide +kernel
theorem d_X12_emits_13 : decode cX12_emits 13 = .ok (.iadd, 1) := by decide +kernel
theorem d_X12_emits_14 : decode cX12_emits 14 = .ok (.iload_n 1, 1) := by decide +kernel
theorem d_X12_emits_15 : decode cX12_emits 15 = .ok (.iastore, 1) := by decide +kernel
theorem d_X12_emits_16 : decode cX12_emits 16 = .ok (.aload_n 0, 1) := by decide +kernel
theorem d_X12_emits_17 : decode cX12_emits 17 = .ok (.getfield 13, 3) := by decide +kernel
theorem d_X12_emits_20 : decode cX12_emits 20 = .ok (.sipush 1268, 3) := by decide +kernel
theorem d_X12_emits_23 : decode cX12_emits 23 = .ok (.iconst 2, 1) := by decide +kernel
theorem d_X12_emits_24 : decode cX12_emits 24 = .ok (.aload_n 0, 1) := by decide +kernel
theorem d_X12_emits_25 : decode cX12_emits 25 = .ok (.getfield 187, 3) := by decide +kernel
theorem d_X12_emits_28 : decode cX12_emits 28 = .ok (.imul, 1) := by decide +kernel
theorem d_X12_emits_29 : decode cX12_emits 29 = .ok (.iadd, 1) := by decide +kernel
theorem d_X12_emits_30 : decode cX12_emits 30 = .ok (.iconst 1, 1) := by decide +kernel
theorem d_X12_emits_31 : decode cX12_emits 31 = .ok (.iadd, 1) := by decide +kernel
theorem d_X12_emits_32 : decode cX12_emits 32 = .ok (.iload_n 2, 1) := by decide +kernel
theorem d_X12_emits_33 : decode cX12_emits 33 = .ok (.iastore, 1) := by decide +kernel
theorem d_X12_emits_34 : decode cX12_emits 34 = .ok (.aload_n 0, 1) := by decide +kernel
theorem d_X12_emits_35 : decode cX12_emits 35 = .ok (.dup, 1) := by decide +kernel
theorem d_X12_emits_36 : decode cX12_emits 36 = .ok (.getfield 187, 3) := by decide +kernel
theorem d_X12_emits_39 : decode cX12_emits 39 = .ok (.iconst 1, 1) := by decide +kernel
theorem d_X12_emits_40 : decode cX12_emits 40 = .ok (.iadd, 1) := by decide +kernel
theorem d_X12_emits_41 : decode cX12_emits 41 = .ok (.putfield 187, 3) := by decide +kernel
theorem d_X12_emits_44 : decode cX12_emits 44 = .ok (.return_, 1) := by decide +kernel
theorem s_X12_emits_e {G : Gl} (hG : G.1.stackTraces = false) {C : Cx} {n : Nat} {μ : Mem} {p1 : Int32} {p2 : Int32} {r : Mem} (hf : f_X12_emits μ p1 p2 = some r) (hK : FinR G C F_X12_emits none none r) : V G C F_X12_emits 0 [some (.ref (G.2.1 + 264)), some (.int p1), some (.int p2)] [] (pic G μ) n 0 0 := by
  unfold f_X12_emits at hf
  refine V_aload_n d_X12_emits_0 rfl rfl ?_
  refine B_get k_264 fl_RX12_13 d_X12_emits_1 g_12_1 ?_
  refine V_sipush (v := 1268) d_X12_emits_4 sp_1268 ?_
  refine V_iconst (v := 2) d_X12_emits_7 ic_2 ?_
  refine V_aload_n d_X12_emits_8 rfl rfl ?_
  refine B_get k_264 fl_RX12_187 d_X12_emits_9 g_12_16 ?_
  refine V_imul d_X12_emits_12 ?_
  refine V_iadd d_X12_emits_13 ?_
  refine V_iload_n d_X12_emits_14 rfl rfl ?_
  obtain ⟨μ1, hμ1, hf⟩ := ob hf
  refine B_iast k_265 hμ1 d_X12_emits_15 ?_
  refine V_aload_n d_X12_emits_16 rfl rfl ?_
  refine B_get k_264 fl_RX12_13 d_X12_emits_17 g_12_1 ?_
  refine V_sipush (v := 1268) d_X12_emits_20 sp_1268 ?_
  refine V_iconst (v := 2) d_X12_emits_23 ic_2 ?_
  refine V_aload_n d_X12_emits_24 rfl rfl ?_
  refine B_get k_264 fl_RX12_187 d_X12_emits_25 g_12_16 ?_
  refine V_imul d_X12_emits_28 ?_
  refine V_iadd d_X12_emits_29 ?_
  refine V_iconst (v := 1) d_X12_emits_30 ic_1 ?_
  refine V_iadd d_X12_emits_31 ?_
  refine V_iload_n d_X12_emits_32 rfl rfl ?_
  obtain ⟨μ2, hμ2, hf⟩ := ob hf
  refine B_iast k_265 hμ2 d_X12_emits_33 ?_
  refine V_aload_n d_X12_emits_34 rfl rfl ?_
  refine V_dup d_X12_emits_35 rfl ?_
  refine B_get k_264 fl_RX12_187 d_X12_emits_36 g_12_16 ?_
  refine V_iconst (v := 1) d_X12_emits_39 ic_1 ?_
  refine V_iadd d_X12_emits_40 ?_
  refine B_putI k_264 fl_RX12_187 pt_12_16 (Nat.le_of_ble_eq_true rfl) p_12_16 d_X12_emits_41 ?_
  cases hf
  exact R_v hK d_X12_emits_44 (Nat.le_of_ble_eq_true rfl) (Nat.le_of_ble_eq_true rfl)
theorem s_X12_emits {G : Gl} (hG : G.1.stackTraces = false) {μ : Mem} {p1 : Int32} {p2 : Int32} {r : Mem} (hf : f_X12_emits μ p1 p2 = some r) : Rt G yX12_emits F_X12_emits none [.ref (G.2.1 + 264), .int p1, .int p2] μ none r := fun n => Sd.of hG ⟨by decide +kernel, rfl, rfl⟩ rfl (Nat.le_of_ble_eq_true rfl) rfl (fun C hK => s_X12_emits_e hG hf hK)
theorem d_X12_readPart_0 : decode cX12_readPart 0 = .ok (.aload_n 0, 1) := by decide +kernel
theorem d_X12_readPart_1 : decode cX12_readPart 1 = .ok (.invokevirtual 121, 3) := by decide +kernel
theorem d_X12_readPart_4 : decode cX12_readPart 4 = .ok (.aload_n 0, 1) := by decide +kernel
theorem d_X12_readPart_5 : decode cX12_readPart 5 = .ok (.getfield 96, 3) := by decide +kernel
theorem d_X12_readPart_8 : decode cX12_readPart 8 = .ok (.aload_n 0, 1) := by decide +kernel
theorem d_X12_readPart_9 : decode cX12_readPart 9 = .ok (.getfield 106, 3) := by decide +kernel
theorem d_X12_readPart_12 : decode cX12_readPart 12 = .ok (.if_icmp .ne 22, 3) := by decide +kernel
theorem d_X12_readPart_15 : decode cX12_readPart 15 = .ok (.aload_n 0, 1) := by decide +kernel
theorem d_X12_readPart_16 : decode cX12_readPart 16 = .ok (.iconst 0, 1) := by decide +kernel
theorem d_X12_readPart_17 : decode cX12_readPart 17 = .ok (.sipush 999, 3) := by decide +kernel
theorem d_X12_readPart_20 : decode cX12_readPart 20 = .ok (.invokevirtual 128, 3) := by decide +kernel
theorem d_X12_readPart_23 : decode cX12_readPart 23 = .ok (.istore_n 1, 1) := by decide +kernel
theorem d_X12_readPart_24 : decode cX12_readPart 24 = .ok (.aload_n 0, 1) := by decide +kernel
theorem d_X12_readPart_25 : decode cX12_readPart 25 = .ok (.bipush 9, 2) := by decide +kernel
theorem d_X12_readPart_27 : decode cX12_readPart 27 = .ok (.iload_n 1, 1) := by decide +kernel
theorem d_X12_readPart_28 : decode cX12_readPart 28 = .ok (.invokevirtual 190, 3) := by decide +kernel
theorem d_X12_readPart_31 : decode cX12_readPart 31 = .ok (.goto 103, 3) := by decide +kernel
theorem d_X12_readPart_34 : decode cX12_readPart 34 = .ok (.aload_n 0, 1) := by decide +kernel
theorem d_X12_readPart_35 : decode cX12_readPart 35 = .ok (.ldc 194, 2) := by decide +kernel
theorem d_X12_readPart_37 : decode cX12_readPart 37 = .ok (.invokevirtual 124, 3) := by decide +kernel
theorem d_X12_readPart_40 : decode cX12_readPart 40 = .ok (.ifCond .eq 7, 3) := by decide +kernel
theorem d_X12_readPart_43 : decode cX12_readPart 43 = .ok (.iconst 0, 1) := by decide +kernel
theorem d_X12_readPart_44 : decode cX12_readPart 44 = .ok (.goto 83, 3) := by decide +kernel
theorem d_X12_readPart_47 : decode cX12_readPart 47 = .ok (.aload_n 0, 1) := by decide +kernel
theorem d_X12_readPart_48 : decode cX12_readPart 48 = .ok (.ldc 196, 2) := by decide +kernel
theorem d_X12_readPart_50 : decode cX12_readPart 50 = .ok (.invokevirtual 124, 3) := by decide +kernel
theorem d_X12_readPart_53 : decode cX12_readPart 53 = .ok (.ifCond .eq 7, 3) := by decide +kernel
theorem d_X12_readPart_56 : decode cX12_readPart 56 = .ok (.iconst 1, 1) := by decide +kernel
theorem d_X12_readPart_57 : decode cX12_readPart 57 = .ok (.goto 70, 3) := by decide +kernel
theorem d_X12_readPart_60 : decode cX12_readPart 60 = .ok (.aload_n 0, 1) := by decide +kernel
theorem d_X12_readPart_61 : decode cX12_readPart 61 = .ok (.ldc 198, 2) := by decide +kernel
theorem d_X12_readPart_63 : decode cX12_readPart 63 = .ok (.invokevirtual 124, 3) := by decide +kernel
theorem d_X12_readPart_66 : decode cX12_readPart 66 = .ok (.ifCond .eq 7, 3) := by decide +kernel
theorem d_X12_readPart_69 : decode cX12_readPart 69 = .ok (.iconst 2, 1) := by decide +kernel
theorem d_X12_readPart_70 : decode cX12_readPart 70 = .ok (.goto 57, 3) := by decide +kernel
theorem d_X12_readPart_73 : decode cX12_readPart 73 = .ok (.aload_n 0, 1) := by decide +kernel
theorem d_X12_readPart_74 : decode cX12_readPart 74 = .ok (.ldc 200, 2) := by decide +kernel
theorem d_X12_readPart_76 : decode cX12_readPart 76 = .ok (.invokevirtual 124, 3) := by decide +kernel
theorem d_X12_readPart_79 : decode cX12_readPart 79 = .ok (.ifCond .eq 7, 3) := by decide +kernel
theorem d_X12_readPart_82 : decode cX12_readPart 82 = .ok (.iconst 3, 1) := by decide +kernel
theorem d_X12_readPart_83 : decode cX12_readPart 83 = .ok (.goto 44, 3) := by decide +kernel
theorem d_X12_readPart_86 : decode cX12_readPart 86 = .ok (.aload_n 0, 1) := by decide +kernel
theorem d_X12_readPart_87 : decode cX12_readPart 87 = .ok (.ldc 173, 2) := by decide +kernel
theorem d_X12_readPart_89 : decode cX12_readPart 89 = .ok (.invokevirtual 124, 3) := by decide +kernel
theorem d_X12_readPart_92 : decode cX12_readPart 92 = .ok (.ifCond .eq 7, 3) := by decide +kernel
theorem d_X12_readPart_95 : decode cX12_readPart 95 = .ok (.iconst 4, 1) := by decide +kernel
theorem d_X12_readPart_96 : decode cX12_readPart 96 = .ok (.goto 31, 3) := by decide +kernel
theorem d_X12_readPart_99 : decode cX12_readPart 99 = .ok (.aload_n 0, 1) := by decide +kernel
theorem d_X12_readPart_100 : decode cX12_readPart 100 = .ok (.ldc 202, 2) := by decide +kernel
theorem d_X12_readPart_102 : decode cX12_readPart 102 = .ok (.invokevirtual 124, 3) := by decide +kernel
theorem d_X12_readPart_105 : decode cX12_readPart 105 = .ok (.ifCond .eq 7, 3) := by decide +kernel
theorem d_X12_readPart_108 : decode cX12_readPart 108 = .ok (.iconst 5, 1) := by decide +kernel
theorem d_X12_readPart_109 : decode cX12_readPart 109 = .ok (.goto 18, 3) := by decide +kernel
theorem d_X12_readPart_112 : decode cX12_readPart 112 = .ok (.aload_n 0, 1) := by decide +kernel
theorem d_X12_readPart_113 : decode cX12_readPart 113 = .ok (.ldc 185, 2) := by decide +kernel
theorem d_X12_readPart_115 : decode cX12_readPart 115 = .ok (.invokevirtual 124, 3) := by decide +kernel
theorem d_X12_readPart_118 : decode cX12_readPart 118 = .ok (.ifCond .eq 8, 3) := by decide +kernel
theorem d_X12_readPart_121 : decode cX12_readPart 121 = .ok (.bipush 6, 2) := by decide +kernel
theorem d_X12_readPart_123 : decode cX12_readPart 123 = .ok (.goto 4, 3) := by decide +kernel
theorem d_X12_readPart_126 : decode cX12_readPart 126 = .ok (.iconst (-1), 1) := by decide +kernel
theorem d_X12_readPart_127 : decode cX12_readPart 127 = .ok (.istore_n 1, 1) := by decide +kernel
theorem d_X12_readPart_128 : decode cX12_readPart 128 = .ok (.aload_n 0, 1) := by decide +kernel
theorem d_X12_readPart_129 : decode cX12_readPart 129 = .ok (.iload_n 1, 1) := by decide +kernel
theorem d_X12_readPart_130 : decode cX12_readPart 130 = .ok (.iconst 0, 1) := by decide +kernel
theorem d_X12_readPart_131 : decode cX12_readPart 131 = .ok (.invokevirtual 190, 3) := by decide +kernel
theorem d_X12_readPart_134 : decode cX12_readPart 134 = .ok (.iload_n 1, 1) := by decide +kernel
theorem d_X12_readPart_135 : decode cX12_readPart 135 = .ok (.ifCond .lt 7, 3) := by decide +kernel
theorem d_X12_readPart_138 : decode cX12_readPart 138 = .ok (.iconst 1, 1) := by decide +kernel
theorem d_X12_readPart_139 : decode cX12_readPart 139 = .ok (.goto 4, 3) := by decide +kernel
theorem d_X12_readPart_142 : decode cX12_readPart 142 = .ok (.iconst 0, 1) := by decide +kernel
theorem d_X12_readPart_143 : decode cX12_readPart 143 = .ok (.ireturn, 1) := by decide +kernel
theorem s_X12_readPart_j134 {G : Gl} (hG : G.1.stackTraces = false) {C : Cx} {n : Nat} {μ : Mem} {l1 : Int32} {r : (Bool × Mem)} (hf : f_X12_readPart_j134 μ l1 = some r) (hK : FinR G C F_X12_readPart (some .boolean) (some (.int (b2i r.1))) r.2) : V G C F_X12_readPart 134 [none, some (.int l1)] [] (pic G μ) n 0 0 := by
  unfold f_X12_readPart_j134 at hf
  refine V_iload_n d_X12_readPart_134 rfl rfl ?_
  have hJj1 : ∀ j1 : Bool, j1 = (if l1 < 0 then (false : Bool) else true) → V G C F_X12_readPart 143 [none, none] [.int (b2i j1)] (pic G μ) n 0 0 := by
    intro j1 ej1
    subst ej1
    cases hf
    exact R_z hK d_X12_readPart_143 (Nat.le_of_ble_eq_true rfl) (Nat.le_of_ble_eq_true rfl)
  refine V_if_lt (tgt := 142) d_X12_readPart_135 (by decide) (fun c135 => ?_) (fun c135 => ?_)
  · refine V_iconst (v := 0) d_X12_readPart_142 ic_0 ?_
    refine V_less (ls' := [none, none]) trivial ?_
    exact hJj1 false (by rw [if_pos c135])
  · refine V_iconst (v := 1) d_X12_readPart_138 ic_1 ?_
    refine V_goto (tgt := 143) d_X12_readPart_139 (by decide) ?_
    refine V_less (ls' := [none, none]) trivial ?_
    exact hJj1 true (by rw [if_neg c135])
theorem s_X12_readPart_j127 {G : Gl} (hG : G.1.stackTraces = false) {C : Cx} {n : Nat} {μ : Mem} {k0 : Int32} {r : (Bool × Mem)} (hf : f_X12_readPart_j127 μ k0 = some r) (hK : FinR G C F_X12_readPart (some .boolean) (some (.int (b2i r.1))) r.2) : V G C F_X12_readPart 127 [some (.ref (G.2.1 + 264)), none] [.int k0] (pic G μ) n 0 0 := by
  unfold f_X12_readPart_j127 at hf
  refine V_istore_n (ls' := [_, _]) d_X12_readPart_127 rfl rfl rfl ?_
  refine V_aload_n d_X12_readPart_128 rfl rfl ?_
  refine V_iload_n d_X12_readPart_129 rfl rfl ?_
  refine V_iconst (v := 0) d_X12_readPart_130 ic_0 ?_
  obtain ⟨q1, hq1, hf⟩ := ob hf
  refine B_callV0 (s_X12_emits hG hq1) k_264 clX12 m_X12_emits kv_RX12_190 d_X12_readPart_131 rfl (Nat.le_of_ble_eq_true rfl) ⟨rfl, rfl, Nat.le_of_ble_eq_true rfl, Nat.le_of_ble_eq_true rfl, Nat.le_of_ble_eq_true rfl⟩ (fun n => ?_)
  refine V_less (ls' := [none, some _]) ⟨rfl, trivial⟩ ?_
  exact s_X12_readPart_j134 hG hf hK
theorem s_X12_readPart_e {G : Gl} (hG : G.1.stackTraces = false) {C : Cx} {n : Nat} {μ : Mem}  {r : (Bool × Mem)} (hf : f_X12_readPart μ = some r) (hK : FinR G C F_X12_readPart (some .boolean) (some (.int (b2i r.1))) r.2) : V G C F_X12_readPart 0 [some (.ref (G.2.1 + 264)), none] [] (pic G μ) n 0 0 := by
  unfold f_X12_readPart at hf
  refine V_aload_n d_X12_readPart_0 rfl rfl ?_
  obtain ⟨q1, hq1, hf⟩ := ob hf
  refine B_callV0 (s_X12_letters hG hq1) k_264 clX12 m_X12_letters kv_RX12_121 d_X12_readPart_1 rfl (Nat.le_of_ble_eq_true rfl) ⟨rfl, rfl, Nat.le_of_ble_eq_true rfl, Nat.le_of_ble_eq_true rfl, Nat.le_of_ble_eq_true rfl⟩ (fun n => ?_)
  refine V_aload_n d_X12_readPart_4 rfl rfl ?_
  refine B_get k_264 fl_RX12_96 d_X12_readPart_5 g_12_10 ?_
  refine V_aload_n d_X12_readPart_8 rfl rfl ?_
  refine B_get k_264 fl_RX12_106 d_X12_readPart_9 g_12_12 ?_
  refine V_icmp_ne (tgt := 34) d_X12_readPart_12 (by decide) (fun c12 => ?_) (fun c12 => ?_)
  · replace hf := iteF c12 hf
    refine V_aload_n d_X12_readPart_34 rfl rfl ?_
    refine V_ldcS (i := 65) d_X12_readPart_35 sT_RX12_194 ?_
    obtain ⟨t2, ht2, hf⟩ := ob hf
    refine B_callV1 (s_X12_isWord hG sS_65 ht2) k_264 clX12 m_X12_isWord kv_RX12_124 d_X12_readPart_37 rfl (Nat.le_of_ble_eq_true rfl) ⟨rfl, rfl, Nat.le_of_ble_eq_true rfl, Nat.le_of_ble_eq_true rfl, Nat.le_of_ble_eq_true rfl⟩ (fun n => ?_)
    refine V_if_eq (tgt := 47) d_X12_readPart_40 (by decide) (fun c40 => ?_) (fun c40 => ?_)
    · replace hf := iteF (b2i_nt (b2i_eq0 c40)) hf
      refine V_aload_n d_X12_readPart_47 rfl rfl ?_
      refine V_ldcS (i := 66) d_X12_readPart_48 sT_RX12_196 ?_
      obtain ⟨t3, ht3, hf⟩ := ob hf
      refine B_callV1 (s_X12_isWord hG sS_66 ht3) k_264 clX12 m_X12_isWord kv_RX12_124 d_X12_readPart_50 rfl (Nat.le_of_ble_eq_true rfl) ⟨rfl, rfl, Nat.le_of_ble_eq_true rfl, Nat.le_of_ble_eq_true rfl, Nat.le_of_ble_eq_true rfl⟩ (fun n => ?_)
      refine V_if_eq (tgt := 60) d_X12_readPart_53 (by decide) (fun c53 => ?_) (fun c53 => ?_)
      · replace hf := iteF (b2i_nt (b2i_eq0 c53)) hf
        refine V_aload_n d_X12_readPart_60 rfl rfl ?_
        refine V_ldcS (i := 67) d_X12_readPart_61 sT_RX12_198 ?_
        obtain ⟨t4, ht4, hf⟩ := ob hf
        refine B_callV1 (s_X12_isWord hG sS_67 ht4) k_264 clX12 m_X12_isWord kv_RX12_124 d_X12_readPart_63 rfl (Nat.le_of_ble_eq_true rfl) ⟨rfl, rfl, Nat.le_of_ble_eq_true rfl, Nat.le_of_ble_eq_true rfl, Nat.le_of_ble_eq_true rfl⟩ (fun n => ?_)
        refine V_if_eq (tgt := 73) d_X12_readPart_66 (by decide) (fun c66 => ?_) (fun c66 => ?_)
        · replace hf := iteF (b2i_nt (b2i_eq0 c66)) hf
          refine V_aload_n d_X12_readPart_73 rfl rfl ?_
          refine V_ldcS (i := 68) d_X12_readPart_74 sT_RX12_200 ?_
          obtain ⟨t5, ht5, hf⟩ := ob hf
          refine B_callV1 (s_X12_isWord hG sS_68 ht5) k_264 clX12 m_X12_isWord kv_RX12_124 d_X12_readPart_76 rfl (Nat.le_of_ble_eq_true rfl) ⟨rfl, rfl, Nat.le_of_ble_eq_true rfl, Nat.le_of_ble_eq_true rfl, Nat.le_of_ble_eq_true rfl⟩ (fun n => ?_)
          refine V_if_eq (tgt := 86) d_X12_readPart_79 (by decide) (fun c79 => ?_) (fun c79 => ?_)
          · replace hf := iteF (b2i_nt (b2i_eq0 c79)) hf
            refine V_aload_n d_X12_readPart_86 rfl rfl ?_
            refine V_ldcS (i := 61) d_X12_readPart_87 sT_RX12_173 ?_
            obtain ⟨t6, ht6, hf⟩ := ob hf
            refine B_callV1 (s_X12_isWord hG sS_61 ht6) k_264 clX12 m_X12_isWord kv_RX12_124 d_X12_readPart_89 rfl (Nat.le_of_ble_eq_true rfl) ⟨rfl, rfl, Nat.le_of_ble_eq_true rfl, Nat.le_of_ble_eq_true rfl, Nat.le_of_ble_eq_true rfl⟩ (fun n => ?_)
            refine V_if_eq (tgt := 99) d_X12_readPart_92 (by decide) (fun c92 => ?_) (fun c92 => ?_)
            · replace hf := iteF (b2i_nt (b2i_eq0 c92)) hf
              refine V_aload_n d_X12_readPart_99 rfl rfl ?_
              refine V_ldcS (i := 69) d_X12_readPart_100 sT_RX12_202 ?_
              obtain ⟨t7, ht7, hf⟩ := ob hf
              refine B_callV1 (s_X12_isWord hG sS_69 ht7) k_264 clX12 m_X12_isWord kv_RX12_124 d_X12_readPart_102 rfl (Nat.le_of_ble_eq_true rfl) ⟨rfl, rfl, Nat.le_of_ble_eq_true rfl, Nat.le_of_ble_eq_true rfl, Nat.le_of_ble_eq_true rfl⟩ (fun n => ?_)
              refine V_if_eq (tgt := 112) d_X12_readPart_105 (by decide) (fun c105 => ?_) (fun c105 => ?_)
              · replace hf := iteF (b2i_nt (b2i_eq0 c105)) hf
                refine V_aload_n d_X12_readPart_112 rfl rfl ?_
                refine V_ldcS (i := 64) d_X12_readPart_113 sT_RX12_185 ?_
                obtain ⟨t8, ht8, hf⟩ := ob hf
                refine B_callV1 (s_X12_isWord hG sS_64 ht8) k_264 clX12 m_X12_isWord kv_RX12_124 d_X12_readPart_115 rfl (Nat.le_of_ble_eq_true rfl) ⟨rfl, rfl, Nat.le_of_ble_eq_true rfl, Nat.le_of_ble_eq_true rfl, Nat.le_of_ble_eq_true rfl⟩ (fun n => ?_)
                have hJj9 : ∀ j9 : Int32, j9 = (if t8 = true then (6 : Int32) else (-1)) → V G C F_X12_readPart 127 [some (.ref (G.2.1 + 264)), none] [.int j9] (pic G q1) n 0 0 := by
                  intro j9 ej9
                  subst ej9
                  refine V_istore_n (ls' := [_, _]) d_X12_readPart_127 rfl rfl rfl ?_
                  refine V_aload_n d_X12_readPart_128 rfl rfl ?_
                  refine V_iload_n d_X12_readPart_129 rfl rfl ?_
                  refine V_iconst (v := 0) d_X12_readPart_130 ic_0 ?_
                  obtain ⟨q10, hq10, hf⟩ := ob hf
                  refine B_callV0 (s_X12_emits hG hq10) k_264 clX12 m_X12_emits kv_RX12_190 d_X12_readPart_131 rfl (Nat.le_of_ble_eq_true rfl) ⟨rfl, rfl, Nat.le_of_ble_eq_true rfl, Nat.le_of_ble_eq_true rfl, Nat.le_of_ble_eq_true rfl⟩ (fun n => ?_)
                  refine V_less (ls' := [none, some _]) ⟨rfl, trivial⟩ ?_
                  exact s_X12_readPart_j134 hG hf hK
                refine V_if_eq (tgt := 126) d_X12_readPart_118 (by decide) (fun c118 => ?_) (fun c118 => ?_)
                · refine V_iconst (v := (-1)) d_X12_readPart_126 ic_m1 ?_
                  refine V_less (ls' := [some _, none]) ⟨rfl, trivial⟩ ?_
                  exact hJj9 (-1) (by rw [if_neg (b2i_nt (b2i_eq0 c118))])
                · refine V_bipush (v := 6) d_X12_readPart_121 bp_6 ?_
                  refine V_goto (tgt := 127) d_X12_readPart_123 (by decide) ?_
                  refine V_less (ls' := [some _, none]) ⟨rfl, trivial⟩ ?_
                  exact hJj9 6 (by rw [if_pos (b2i_ne0 c118)])
              · replace hf := iteT (b2i_ne0 c105) hf
                refine V_iconst (v := 5) d_X12_readPart_108 ic_5 ?_
                refine V_goto (tgt := 127) d_X12_readPart_109 (by decide) ?_
                refine V_less (ls' := [some _, none]) ⟨rfl, trivial⟩ ?_
                exact s_X12_readPart_j127 hG hf hK
            · replace hf := iteT (b2i_ne0 c92) hf
              refine V_iconst (v := 4) d_X12_readPart_95 ic_4 ?_
              refine V_goto (tgt := 127) d_X12_readPart_96 (by decide) ?_
              refine V_less (ls' := [some _, none]) ⟨rfl, trivial⟩ ?_
              exact s_X12_readPart_j127 hG hf hK
          · replace hf := iteT (b2i_ne0 c79) hf
            refine V_iconst (v := 3) d_X12_readPart_82 ic_3 ?_
            refine V_goto (tgt := 127) d_X12_readPart_83 (by decide) ?_
            refine V_less (ls' := [some _, none]) ⟨rfl, trivial⟩ ?_
            exact s_X12_readPart_j127 hG hf hK
        · replace hf := iteT (b2i_ne0 c66) hf
          refine V_iconst (v := 2) d_X12_readPart_69 ic_2 ?_
          refine V_goto (tgt := 127) d_X12_readPart_70 (by decide) ?_
          refine V_less (ls' := [some _, none]) ⟨rfl, trivial⟩ ?_
          exact s_X12_readPart_j127 hG hf hK
      · replace hf := iteT (b2i_ne0 c53) hf
        refine V_iconst (v := 1) d_X12_readPart_56 ic_1 ?_
        refine V_goto (tgt := 127) d_X12_readPart_57 (by decide) ?_
        refine V_less (ls' := [some _, none]) ⟨rfl, trivial⟩ ?_
        exact s_X12_readPart_j127 hG hf hK
    · replace hf := iteT (b2i_ne0 c40) hf
      refine V_iconst (v := 0) d_X12_readPart_43 ic_0 ?_
      refine V_goto (tgt := 127) d_X12_readPart_44 (by decide) ?_
      refine V_less (ls' := [some _, none]) ⟨rfl, trivial⟩ ?_
      exact s_X12_readPart_j127 hG hf hK
  · replace hf := iteT c12 hf
    refine V_aload_n d_X12_readPart_15 rfl rfl ?_
    refine V_iconst (v := 0) d_X12_readPart_16 ic_0 ?_
    refine V_sipush (v := 999) d_X12_readPart_17 sp_999 ?_
    obtain ⟨q11, hq11, hf⟩ := ob hf
    refine B_callV1 (s_X12_number hG hq11) k_264 clX12 m_X12_number kv_RX12_128 d_X12_readPart_20 rfl (Nat.le_of_ble_eq_true rfl) ⟨rfl, rfl, Nat.le_of_ble_eq_true rfl, Nat.le_of_ble_eq_true rfl, Nat.le_of_ble_eq_true rfl⟩ (fun n => ?_)
    refine V_istore_n (ls' := [_, _]) d_X12_readPart_23 rfl rfl rfl ?_
    refine V_aload_n d_X12_readPart_24 rfl rfl ?_
    refine V_bipush (v := 9) d_X12_readPart_25 bp_9 ?_
    refine V_iload_n d_X12_readPart_27 rfl rfl ?_
    obtain ⟨q12, hq12, hf⟩ := ob hf
    refine B_callV0 (s_X12_emits hG hq12) k_264 clX12 m_X12_emits kv_RX12_190 d_X12_readPart_28 rfl (Nat.le_of_ble_eq_true rfl) ⟨rfl, rfl, Nat.le_of_ble_eq_true rfl, Nat.le_of_ble_eq_true rfl, Nat.le_of_ble_eq_true rfl⟩ (fun n => ?_)
    refine V_goto (tgt := 134) d_X12_readPart_31 (by decide) ?_
    refine V_less (ls' := [none, some _]) ⟨rfl, trivial⟩ ?_
    exact s_X12_readPart_j134 hG hf hK
theorem s_X12_readPart {G : Gl} (hG : G.1.stackTraces = false) {μ : Mem} {r : (Bool × Mem)} (hf : f_X12_readPart μ = some r) : Rt G yX12_readPart F_X12_readPart (some .boolean) [.ref (G.2.1 + 264)] μ (some (.int (b2i r.1))) r.2 := fun n => Sd.of hG ⟨by decide +kernel, rfl, rfl⟩ rfl (Nat.le_of_ble_eq_true rfl) rfl (fun C hK => s_X12_readPart_e hG hf hK)
theorem d_X12_readSum_0 : decode cX12_readSum 0 = .ok (.aload_n 0, 1) := by decide +kernel
theorem d_X12_readSum_1 : decode cX12_readSum 1 = .ok (.invokevirtual 204, 3) := by decide +kernel
theorem d_X12_readSum_4 : decode cX12_readSum 4 = .ok (.ifCond .ne 5, 3) := by decide +kernel
theorem d_X12_readSum_7 : decode cX12_readSum 7 = .ok (.iconst 0, 1) := by decide +kernel
theorem d_X12_readSum_8 : decode cX12_readSum 8 = .ok (.ireturn, 1) := by decide +kernel
theorem d_X12_readSum_9 : decode cX12_readSum 9 = .ok (.aload_n 0, 1) := by decide +kernel
theorem d_X12_readSum_10 : decode cX12_readSum 10 = .ok (.bipush 43, 2) := by decide +kernel
theorem d_X12_readSum_12 : decode cX12_readSum 12 = .ok (.invokevirtual 207, 3) := by decide +kernel
theorem d_X12_readSum_15 : decode cX12_readSum 15 = .ok (.ifCond .eq 22, 3) := by decide +kernel
theorem d_X12_readSum_18 : decode cX12_readSum 18 = .ok (.aload_n 0, 1) := by decide +kernel
theorem d_X12_readSum_19 : decode cX12_readSum 19 = .ok (.invokevirtual 204, 3) := by decide +kernel
theorem d_X12_readSum_22 : decode cX12_readSum 22 = .ok (.ifCond .ne 5, 3) := by decide +kernel
theorem d_X12_readSum_25 : decode cX12_readSum 25 = .ok (.iconst 0, 1) := by decide +kernel
theorem d_X12_readSum_26 : decode cX12_readSum 26 = .ok (.ireturn, 1) := by decide +kernel
theorem d_X12_readSum_27 : decode cX12_readSum 27 = .ok (.aload_n 0, 1) := by decide +kernel
theorem d_X12_readSum_28 : decode cX12_readSum 28 = .ok (.bipush 10, 2) := by decide +kernel
theorem d_X12_readSum_30 : decode cX12_readSum 30 = .ok (.iconst 0, 1) := by decide +kernel
theorem d_X12_readSum_31 : decode cX12_readSum 31 = .ok (.invokevirtual 190, 3) := by decide +kernel
theorem d_X12_readSum_34 : decode cX12_readSum 34 = .ok (.goto (-25), 3) := by decide +kernel
theorem d_X12_readSum_37 : decode cX12_readSum 37 = .ok (.iconst 1, 1) := by decide +kernel
theorem d_X12_readSum_38 : decode cX12_readSum 38 = .ok (.ireturn, 1) := by decide +kernel
theorem s_X12_readSum_b9 {G : Gl} (hG : G.1.stackTraces = false) {C : Cx} {n : Nat} {μ : Mem}  {y : (Mem ⊕ (Mem ⊕ (Bool × Mem)))} (hf : f_X12_readSum_b9 μ = some y) (hK : (∀ z', y = .inl z' → ∀ n, V G C F_X12_readSum 9 [some (.ref (G.2.1 + 264))] [] (pic G z') n 0 0) ∧ (∀ x', y = .inr x' → ((∀ x'', x' = .inl x'' → ∀ n, V G C F_X12_readSum 37 [none] [] (pic G x'') n 0 0) ∧ (∀ x''', x' = .inr x''' → FinR G C F_X12_readSum (some .boolean) (some (.int (b2i x'''.1))) x'''.2)))) : V G C F_X12_readSum 9 [some (.ref (G.2.1 + 264))] [] (pic G μ) n 0 0 := by
  unfold f_X12_readSum_b9 at hf
  refine V_aload_n d_X12_readSum_9 rfl rfl ?_
  refine V_bipush (v := 43) d_X12_readSum_10 bp_43 ?_
  obtain ⟨q1, hq1, hf⟩ := ob hf
  refine B_callV1 (s_X12_sign hG hq1) k_264 clX12 m_X12_sign kv_RX12_207 d_X12_readSum_12 rfl (Nat.le_of_ble_eq_true rfl) ⟨rfl, rfl, Nat.le_of_ble_eq_true rfl, Nat.le_of_ble_eq_true rfl, Nat.le_of_ble_eq_true rfl⟩ (fun n => ?_)
  refine V_if_eq (tgt := 37) d_X12_readSum_15 (by decide) (fun c15 => ?_) (fun c15 => ?_)
  · replace hf := iteF (b2i_nt (b2i_eq0 c15)) hf
    refine V_less (ls' := [none]) trivial ?_
    cases hf
    exact (hK.2 _ rfl).1 _ rfl _
  · replace hf := iteT (b2i_ne0 c15) hf
    refine V_aload_n d_X12_readSum_18 rfl rfl ?_
    obtain ⟨q2, hq2, hf⟩ := ob hf
    refine B_callV1 (s_X12_readPart hG hq2) k_264 clX12 m_X12_readPart kv_RX12_204 d_X12_readSum_19 rfl (Nat.le_of_ble_eq_true rfl) ⟨rfl, rfl, Nat.le_of_ble_eq_true rfl, Nat.le_of_ble_eq_true rfl, Nat.le_of_ble_eq_true rfl⟩ (fun n => ?_)
    refine V_if_ne (tgt := 27) d_X12_readSum_22 (by decide) (fun c22 => ?_) (fun c22 => ?_)
    · replace hf := iteT (b2i_ne0 c22) hf
      refine V_aload_n d_X12_readSum_27 rfl rfl ?_
      refine V_bipush (v := 10) d_X12_readSum_28 bp_10 ?_
      refine V_iconst (v := 0) d_X12_readSum_30 ic_0 ?_
      obtain ⟨q3, hq3, hf⟩ := ob hf
      refine B_callV0 (s_X12_emits hG hq3) k_264 clX12 m_X12_emits kv_RX12_190 d_X12_readSum_31 rfl (Nat.le_of_ble_eq_true rfl) ⟨rfl, rfl, Nat.le_of_ble_eq_true rfl, Nat.le_of_ble_eq_true rfl, Nat.le_of_ble_eq_true rfl⟩ (fun n => ?_)
      refine V_goto (tgt := 9) d_X12_readSum_34 (by decide) ?_
      refine V_less (ls' := [some _]) ⟨rfl, trivial⟩ ?_
      cases hf
      exact hK.1 _ rfl _
    · replace hf := iteF (b2i_nt (b2i_eq0 c22)) hf
      refine V_iconst (v := 0) d_X12_readSum_25 ic_0 ?_
      cases hf
      exact R_z ((hK.2 _ rfl).2 _ rfl) d_X12_readSum_26 (Nat.le_of_ble_eq_true rfl) (Nat.le_of_ble_eq_true rfl)
theorem s_X12_readSum_j37 {G : Gl} (hG : G.1.stackTraces = false) {C : Cx} {n : Nat} {μ : Mem}  {r : (Bool × Mem)} (hf : f_X12_readSum_j37 μ = some r) (hK : FinR G C F_X12_readSum (some .boolean) (some (.int (b2i r.1))) r.2) : V G C F_X12_readSum 37 [none] [] (pic G μ) n 0 0 := by
  unfold f_X12_readSum_j37 at hf
  refine V_iconst (v := 1) d_X12_readSum_37 ic_1 ?_
  cases hf
  exact R_z hK d_X12_readSum_38 (Nat.le_of_ble_eq_true rfl) (Nat.le_of_ble_eq_true rfl)
theorem s_X12_readSum_l9 {G : Gl} (hG : G.1.stackTraces = false) {C : Cx} {n : Nat} {μ : Mem}  {r : (Bool × Mem)} (hf : f_X12_readSum_l9 μ = some r) (hK : FinR G C F_X12_readSum (some .boolean) (some (.int (b2i r.1))) r.2) : V G C F_X12_readSum 9 [some (.ref (G.2.1 + 264))] [] (pic G μ) n 0 0 := by
  unfold f_X12_readSum_l9 at hf
  obtain ⟨t, hl, hf⟩ := ob hf
  refine loopV (P := fun z => ∀ n, V G C F_X12_readSum 9 [some (.ref (G.2.1 + 264))] [] (pic G z) n 0 0) (t := t) ?_ _ _ hl n
  intro z y' hy hI hT n
  refine s_X12_readSum_b9 hG hy ⟨hI, fun x9 ex => ?_⟩
  have ex2 := hT x9 ex
  subst ex2
  refine ⟨fun e he => ?_, fun x2 hx => ?_⟩
  · subst he
    intro n
    exact s_X12_readSum_j37 hG hf hK
  · subst hx
    cases hf
    exact hK
theorem s_X12_readSum_e {G : Gl} (hG : G.1.stackTraces = false) {C : Cx} {n : Nat} {μ : Mem}  {r : (Bool × Mem)} (hf : f_X12_readSum μ = some r) (hK : FinR G C F_X12_readSum (some .boolean) (some (.int (b2i r.1))) r.2) : V G C F_X12_readSum 0 [some (.ref (G.2.1 + 264))] [] (pic G μ) n 0 0 := by
  unfold f_X12_readSum at hf
  refine V_aload_n d_X12_readSum_0 rfl rfl ?_
  obtain ⟨q1, hq1, hf⟩ := ob hf
  refine B_callV1 (s_X12_readPart hG hq1) k_264 clX12 m_X12_readPart kv_RX12_204 d_X12_readSum_1 rfl (Nat.le_of_ble_eq_true rfl) ⟨rfl, rfl, Nat.le_of_ble_eq_true rfl, Nat.le_of_ble_eq_true rfl, Nat.le_of_ble_eq_true rfl⟩ (fun n => ?_)
  refine V_if_ne (tgt := 9) d_X12_readSum_4 (by decide) (fun c4 => ?_) (fun c4 => ?_)
  · replace hf := iteT (b2i_ne0 c4) hf
    refine V_less (ls' := [some _]) ⟨rfl, trivial⟩ ?_
    exact s_X12_readSum_l9 hG hf hK
  · replace hf := iteF (b2i_nt (b2i_eq0 c4)) hf
    refine V_iconst (v := 0) d_X12_readSum_7 ic_0 ?_
    cases hf
    exact R_z hK d_X12_readSum_8 (Nat.le_of_ble_eq_true rfl) (Nat.le_of_ble_eq_true rfl)
theorem s_X12_readSum {G : Gl} (hG : G.1.stackTraces = false) {μ : Mem} {r : (Bool × Mem)} (hf : f_X12_readSum μ = some r) : Rt G yX12_readSum F_X12_readSum (some .boolean) [.ref (G.2.1 + 264)] μ (some (.int (b2i r.1))) r.2 := fun n => Sd.of hG ⟨by decide +kernel, rfl, rfl⟩ rfl (Nat.le_of_ble_eq_true rfl) rfl (fun C hK => s_X12_readSum_e hG hf hK)
theorem d_X12_readTag_0 : decode cX12_readTag 0 = .ok (.aload_n 0, 1) := by decide +kernel
theorem d_X12_readTag_1 : decode cX12_readTag 1 = .ok (.invokevirtual 121, 3) := by decide +kernel
theorem d_X12_readTag_4 : decode cX12_readTag 4 = .ok (.aload_n 0, 1) := by decide +kernel
theorem d_X12_readTag_5 : decode cX12_readTag 5 = .ok (.ldc 210, 2) := by decide +kernel
theorem d_X12_readTag_7 : decode cX12_readTag 7 = .ok (.invokevirtual 124, 3) := by decide +kernel
theorem d_X12_readTag_10 : decode cX12_readTag 10 = .ok (.ifCond .eq 8, 3) := by decide +kernel
theorem d_X12_readTag_13 : decode cX12_readTag 13 = .ok (.bipush 7, 2) := by decide +kernel
theorem d_X12_readTag_15 : decode cX12_readTag 15 = .ok (.goto 18, 3) := by decide +kernel
theorem d_X12_readTag_18 : decode cX12_readTag 18 = .ok (.aload_n 0, 1) := by decide +kernel
theorem d_X12_readTag_19 : decode cX12_readTag 19 = .ok (.ldc 212, 2) := by decide +kernel
theorem d_X12_readTag_21 : decode cX12_readTag 21 = .ok (.invokevirtual 124, 3) := by decide +kernel
theorem d_X12_readTag_24 : decode cX12_readTag 24 = .ok (.ifCond .eq 8, 3) := by decide +kernel
theorem d_X12_readTag_27 : decode cX12_readTag 27 = .ok (.bipush 8, 2) := by decide +kernel
theorem d_X12_readTag_29 : decode cX12_readTag 29 = .ok (.goto 4, 3) := by decide +kernel
theorem d_X12_readTag_32 : decode cX12_readTag 32 = .ok (.iconst (-1), 1) := by decide +kernel
theorem d_X12_readTag_33 : decode cX12_readTag 33 = .ok (.istore_n 1, 1) := by decide +kernel
theorem d_X12_readTag_34 : decode cX12_readTag 34 = .ok (.iload_n 1, 1) := by decide +kernel
theorem d_X12_readTag_35 : decode cX12_readTag 35 = .ok (.ifCond .lt 12, 3) := by decide +kernel
theorem d_X12_readTag_38 : decode cX12_readTag 38 = .ok (.aload_n 0, 1) := by decide +kernel
theorem d_X12_readTag_39 : decode cX12_readTag 39 = .ok (.iload_n 1, 1) := by decide +kernel
theorem d_X12_readTag_40 : decode cX12_readTag 40 = .ok (.iconst 0, 1) := by decide +kernel
theorem d_X12_readTag_41 : decode cX12_readTag 41 = .ok (.invokevirtual 190, 3) := by decide +kernel
theorem d_X12_readTag_44 : decode cX12_readTag 44 = .ok (.goto 11, 3) := by decide +kernel
theorem d_X12_readTag_47 : decode cX12_readTag 47 = .ok (.aload_n 0, 1) := by decide +kernel
theorem d_X12_readTag_48 : decode cX12_readTag 48 = .ok (.aload_n 0, 1) := by decide +kernel
theorem d_X12_readTag_49 : decode cX12_readTag 49 = .ok (.getfield 106, 3) := by decide +kernel
theorem d_X12_readTag_52 : decode cX12_readTag 52 = .ok (.putfield 96, 3) := by decide +kernel
theorem d_X12_readTag_55 : decode cX12_readTag 55 = .ok (.iload_n 1, 1) := by decide +kernel
theorem d_X12_readTag_56 : decode cX12_readTag 56 = .ok (.ifCond .lt 7, 3) := by decide +kernel
theorem d_X12_readTag_59 : decode cX12_readTag 59 = .ok (.iconst 1, 1) := by decide +kernel
theorem d_X12_readTag_60 : decode cX12_readTag 60 = .ok (.goto 4, 3) := by decide +kernel
theorem d_X12_readTag_63 : decode cX12_readTag 63 = .ok (.iconst 0, 1) := by decide +kernel
theorem d_X12_readTag_64 : decode cX12_readTag 64 = .ok (.ireturn, 1) := by decide +kernel
theorem s_X12_readTag_j55 {G : Gl} (hG : G.1.stackTraces = false) {C : Cx} {n : Nat} {μ : Mem} {l1 : Int32} {r : (Bool × Mem)} (hf : f_X12_readTag_j55 μ l1 = some r) (hK : FinR G C F_X12_readTag (some .boolean) (some (.int (b2i r.1))) r.2) : V G C F_X12_readTag 55 [none, some (.int l1)] [] (pic G μ) n 0 0 := by
  unfold f_X12_readTag_j55 at hf
  refine V_iload_n d_X12_readTag_55 rfl rfl ?_
  have hJj1 : ∀ j1 : Bool, j1 = (if l1 < 0 then (false : Bool) else true) → V G C F_X12_readTag 64 [none, none] [.int (b2i j1)] (pic G μ) n 0 0 := by
    intro j1 ej1
    subst ej1
    cases hf
    exact R_z hK d_X12_readTag_64 (Nat.le_of_ble_eq_true rfl) (Nat.le_of_ble_eq_true rfl)
  refine V_if_lt (tgt := 63) d_X12_readTag_56 (by decide) (fun c56 => ?_) (fun c56 => ?_)
  · refine V_iconst (v := 0) d_X12_readTag_63 ic_0 ?_
    refine V_less (ls' := [none, none]) trivial ?_
    exact hJj1 false (by rw [if_pos c56])
  · refine V_iconst (v := 1) d_X12_readTag_59 ic_1 ?_
    refine V_goto (tgt := 64) d_X12_readTag_60 (by decide) ?_
    refine V_less (ls' := [none, none]) trivial ?_
    exact hJj1 true (by rw [if_neg c56])
theorem s_X12_readTag_j33 {G : Gl} (hG : G.1.stackTraces = false) {C : Cx} {n : Nat} {μ : Mem} {k0 : Int32} {r : (Bool × Mem)} (hf : f_X12_readTag_j33 μ k0 = some r) (hK : FinR G C F_X12_readTag (some .boolean) (some (.int (b2i r.1))) r.2) : V G C F_X12_readTag 33 [some (.ref (G.2.1 + 264)), none] [.int k0] (pic G μ) n 0 0 := by
  unfold f_X12_readTag_j33 at hf
  refine V_istore_n (ls' := [_, _]) d_X12_readTag_33 rfl rfl rfl ?_
  refine V_iload_n d_X12_readTag_34 rfl rfl ?_
  refine V_if_lt (tgt := 47) d_X12_readTag_35 (by decide) (fun c35 => ?_) (fun c35 => ?_)
  · replace hf := iteT c35 hf
    refine V_aload_n d_X12_readTag_47 rfl rfl ?_
    refine V_aload_n d_X12_readTag_48 rfl rfl ?_
    refine B_get k_264 fl_RX12_106 d_X12_readTag_49 g_12_12 ?_
    refine B_putI k_264 fl_RX12_96 pt_12_10 (Nat.le_of_ble_eq_true rfl) p_12_10 d_X12_readTag_52 ?_
    refine V_less (ls' := [none, some _]) ⟨rfl, trivial⟩ ?_
    exact s_X12_readTag_j55 hG hf hK
  · replace hf := iteF c35 hf
    refine V_aload_n d_X12_readTag_38 rfl rfl ?_
    refine V_iload_n d_X12_readTag_39 rfl rfl ?_
    refine V_iconst (v := 0) d_X12_readTag_40 ic_0 ?_
    obtain ⟨q1, hq1, hf⟩ := ob hf
    refine B_callV0 (s_X12_emits hG hq1) k_264 clX12 m_X12_emits kv_RX12_190 d_X12_readTag_41 rfl (Nat.le_of_ble_eq_true rfl) ⟨rfl, rfl, Nat.le_of_ble_eq_true rfl, Nat.le_of_ble_eq_true rfl, Nat.le_of_ble_eq_true rfl⟩ (fun n => ?_)
    refine V_goto (tgt := 55) d_X12_readTag_44 (by decide) ?_
    refine V_less (ls' := [none, some _]) ⟨rfl, trivial⟩ ?_
    exact s_X12_readTag_j55 hG hf hK
theorem s_X12_readTag_e {G : Gl} (hG : G.1.stackTraces = false) {C : Cx} {n : Nat} {μ : Mem}  {r : (Bool × Mem)} (hf : f_X12_readTag μ = some r) (hK : FinR G C F_X12_readTag (some .boolean) (some (.int (b2i r.1))) r.2) : V G C F_X12_readTag 0 [some (.ref (G.2.1 + 264)), none] [] (pic G μ) n 0 0 := by
  unfold f_X12_readTag at hf
  refine V_aload_n d_X12_readTag_0 rfl rfl ?_
  obtain ⟨q1, hq1, hf⟩ := ob hf
  refine B_callV0 (s_X12_letters hG hq1) k_264 clX12 m_X12_letters kv_RX12_121 d_X12_readTag_1 rfl (Nat.le_of_ble_eq_true rfl) ⟨rfl, rfl, Nat.le_of_ble_eq_true rfl, Nat.le_of_ble_eq_true rfl, Nat.le_of_ble_eq_true rfl⟩ (fun n => ?_)
  refine V_aload_n d_X12_readTag_4 rfl rfl ?_
  refine V_ldcS (i := 70) d_X12_readTag_5 sT_RX12_210 ?_
  obtain ⟨t2, ht2, hf⟩ := ob hf
  refine B_callV1 (s_X12_isWord hG sS_70 ht2) k_264 clX12 m_X12_isWord kv_RX12_124 d_X12_readTag_7 rfl (Nat.le_of_ble_eq_true rfl) ⟨rfl, rfl, Nat.le_of_ble_eq_true rfl, Nat.le_of_ble_eq_true rfl, Nat.le_of_ble_eq_true rfl⟩ (fun n => ?_)
  refine V_if_eq (tgt := 18) d_X12_readTag_10 (by decide) (fun c10 => ?_) (fun c10 => ?_)
  · replace hf := iteF (b2i_nt (b2i_eq0 c10)) hf
    refine V_aload_n d_X12_readTag_18 rfl rfl ?_
    refine V_ldcS (i := 71) d_X12_readTag_19 sT_RX12_212 ?_
    obtain ⟨t3, ht3, hf⟩ := ob hf
    refine B_callV1 (s_X12_isWord hG sS_71 ht3) k_264 clX12 m_X12_isWord kv_RX12_124 d_X12_readTag_21 rfl (Nat.le_of_ble_eq_true rfl) ⟨rfl, rfl, Nat.le_of_ble_eq_true rfl, Nat.le_of_ble_eq_true rfl, Nat.le_of_ble_eq_true rfl⟩ (fun n => ?_)
    have hJj4 : ∀ j4 : Int32, j4 = (if t3 = true then (8 : Int32) else (-1)) → V G C F_X12_readTag 33 [some (.ref (G.2.1 + 264)), none] [.int j4] (pic G q1) n 0 0 := by
      intro j4 ej4
      subst ej4
      refine V_istore_n (ls' := [_, _]) d_X12_readTag_33 rfl rfl rfl ?_
      refine V_iload_n d_X12_readTag_34 rfl rfl ?_
      refine V_if_lt (tgt := 47) d_X12_readTag_35 (by decide) (fun c35 => ?_) (fun c35 => ?_)
      · replace hf := iteT c35 hf
        refine V_aload_n d_X12_readTag_47 rfl rfl ?_
        refine V_aload_n d_X12_readTag_48 rfl rfl ?_
        refine B_get k_264 fl_RX12_106 d_X12_readTag_49 g_12_12 ?_
        refine B_putI k_264 fl_RX12_96 pt_12_10 (Nat.le_of_ble_eq_true rfl) p_12_10 d_X12_readTag_52 ?_
        refine V_less (ls' := [none, some _]) ⟨rfl, trivial⟩ ?_
        exact s_X12_readTag_j55 hG hf hK
      · replace hf := iteF c35 hf
        refine V_aload_n d_X12_readTag_38 rfl rfl ?_
        refine V_iload_n d_X12_readTag_39 rfl rfl ?_
        refine V_iconst (v := 0) d_X12_readTag_40 ic_0 ?_
        obtain ⟨q5, hq5, hf⟩ := ob hf
        refine B_callV0 (s_X12_emits hG hq5) k_264 clX12 m_X12_emits kv_RX12_190 d_X12_readTag_41 rfl (Nat.le_of_ble_eq_true rfl) ⟨rfl, rfl, Nat.le_of_ble_eq_true rfl, Nat.le_of_ble_eq_true rfl, Nat.le_of_ble_eq_true rfl⟩ (fun n => ?_)
        refine V_goto (tgt := 55) d_X12_readTag_44 (by decide) ?_
        refine V_less (ls' := [none, some _]) ⟨rfl, trivial⟩ ?_
        exact s_X12_readTag_j55 hG hf hK
    refine V_if_eq (tgt := 32) d_X12_readTag_24 (by decide) (fun c24 => ?_) (fun c24 => ?_)
    · refine V_iconst (v := (-1)) d_X12_readTag_32 ic_m1 ?_
      refine V_less (ls' := [some _, none]) ⟨rfl, trivial⟩ ?_
      exact hJj4 (-1) (by rw [if_neg (b2i_nt (b2i_eq0 c24))])
    · refine V_bipush (v := 8) d_X12_readTag_27 bp_8 ?_
      refine V_goto (tgt := 33) d_X12_readTag_29 (by decide) ?_
      refine V_less (ls' := [some _, none]) ⟨rfl, trivial⟩ ?_
      exact hJj4 8 (by rw [if_pos (b2i_ne0 c24)])
  · replace hf := iteT (b2i_ne0 c10) hf
    refine V_bipush (v := 7) d_X12_readTag_13 bp_7 ?_
    refine V_goto (tgt := 33) d_X12_readTag_15 (by decide) ?_
    refine V_less (ls' := [some _, none]) ⟨rfl, trivial⟩ ?_
    exact s_X12_readTag_j33 hG hf hK
theorem s_X12_readTag {G : Gl} (hG : G.1.stackTraces = false) {μ : Mem} {r : (Bool × Mem)} (hf : f_X12_readTag μ = some r) : Rt G yX12_readTag F_X12_readTag (some .boolean) [.ref (G.2.1 + 264)] μ (some (.int (b2i r.1))) r.2 := fun n => Sd.of hG ⟨by decide +kernel, rfl, rfl⟩ rfl (Nat.le_of_ble_eq_true rfl) rfl (fun C hK => s_X12_readTag_e hG hf hK)
theorem d_X12_readAllOf_0 : decode cX12_readAllOf 0 = .ok (.aload_n 0, 1) := by decide +kernel
theorem d_X12_readAllOf_1 : decode cX12_readAllOf 1 = .ok (.invokevirtual 222, 3) := by decide +kernel
theorem d_X12_readAllOf_4 : decode cX12_readAllOf 4 = .ok (.ifCond .ne 5, 3) := by decide +kernel
theorem d_X12_readAllOf_7 : decode cX12_readAllOf 7 = .ok (.iconst 0, 1) := by decide +kernel
theorem d_X12_readAllOf_8 : decode cX12_readAllOf 8 = .ok (.ireturn, 1) := by decide +kernel
theorem d_X12_readAllOf_9 : decode cX12_readAllOf 9 = .ok (.aload_n 0, 1) := by decide +kernel
theorem d_X12_readAllOf_10 : decode cX12_readAllOf 10 = .ok (.ldc 231, 2) := by decide +kernel
theorem d_X12_readAllOf_12 : decode cX12_readAllOf 12 = .ok (.invokevirtual 156, 3) := by decide +kernel
theorem d_X12_readAllOf_15 : decode cX12_readAllOf 15 = .ok (.ifCond .eq 22, 3) := by decide +kernel
theorem d_X12_readAllOf_18 : decode cX12_readAllOf 18 = .ok (.aload_n 0, 1) := by decide +kernel
theorem d_X12_readAllOf_19 : decode cX12_readAllOf 19 = .ok (.invokevirtual 222, 3) := by decide +kernel
theorem d_X12_readAllOf_22 : decode cX12_readAllOf 22 = .ok (.ifCond .ne 5, 3) := by decide +kernel
theorem d_X12_readAllOf_25 : decode cX12_readAllOf 25 = .ok (.iconst 0, 1) := by decide +kernel
theorem d_X12_readAllOf_26 : decode cX12_readAllOf 26 = .ok (.ireturn, 1) := by decide +kernel
theorem d_X12_readAllOf_27 : decode cX12_readAllOf 27 = .ok (.aload_n 0, 1) := by decide +kernel
theorem d_X12_readAllOf_28 : decode cX12_readAllOf 28 = .ok (.bipush 14, 2) := by decide +kernel
theorem d_X12_readAllOf_30 : decode cX12_readAllOf 30 = .ok (.iconst 0, 1) := by decide +kernel
theorem d_X12_readAllOf_31 : decode cX12_readAllOf 31 = .ok (.invokevirtual 190, 3) := by decide +kernel
theorem d_X12_readAllOf_34 : decode cX12_readAllOf 34 = .ok (.goto (-25), 3) := by decide +kernel
theorem d_X12_readAllOf_37 : decode cX12_readAllOf 37 = .ok (.iconst 1, 1) := by decide +kernel
theorem d_X12_readAllOf_38 : decode cX12_readAllOf 38 = .ok (.ireturn, 1) := by decide +kernel
theorem s_X12_readAllOf_b9 {G : Gl} (hG : G.1.stackTraces = false) {k : Nat} {rA : Mem → Option (Bool × Mem)} (hA : ∀ {μ9 : Mem}  {q : (Bool × Mem)}, rA μ9 = some q → Rt G yX12_readAtom (F_X12_readAtom k) (some .boolean) [.ref (G.2.1 + 264)] μ9 (some (.int (b2i q.1))) q.2) {C : Cx} {n : Nat} {μ : Mem}  {y : (Mem ⊕ (Mem ⊕ (Bool × Mem)))} (hf : f_X12_readAllOf_b9 rA μ = some y) (hK : (∀ z', y = .inl z' → ∀ n, V G C (F_X12_readAllOf k) 9 [some (.ref (G.2.1 + 264))] [] (pic G z') n 0 0) ∧ (∀ x', y = .inr x' → ((∀ x'', x' = .inl x'' → ∀ n, V G C (F_X12_readAllOf k) 37 [none] [] (pic G x'') n 0 0) ∧ (∀ x''', x' = .inr x''' → FinR G C (F_X12_readAllOf k) (some .boolean) (some (.int (b2i x'''.1))) x'''.2)))) : V G C (F_X12_readAllOf k) 9 [some (.ref (G.2.1 + 264))] [] (pic G μ) n 0 0 := by
  unfold f_X12_readAllOf_b9 at hf
  refine V_aload_n d_X12_readAllOf_9 rfl rfl ?_
  refine V_ldcS (i := 72) d_X12_readAllOf_10 sT_RX12_231 ?_
  obtain ⟨q1, hq1, hf⟩ := ob hf
  refine B_callV1 (s_X12_passes hG sS_72 hq1) k_264 clX12 m_X12_passes kv_RX12_156 d_X12_readAllOf_12 rfl (Nat.le_of_ble_eq_true rfl) ⟨rfl, rfl, Nat.le_of_ble_eq_true rfl, Nat.le_of_ble_eq_true rfl, (show (7 : Nat) < 10 + 3 * k by omega)⟩ (fun n => ?_)
  refine V_if_eq (tgt := 37) d_X12_readAllOf_15 (by decide) (fun c15 => ?_) (fun c15 => ?_)
  · replace hf := iteF (b2i_nt (b2i_eq0 c15)) hf
    refine V_less (ls' := [none]) trivial ?_
    cases hf
    exact (hK.2 _ rfl).1 _ rfl _
  · replace hf := iteT (b2i_ne0 c15) hf
    refine V_aload_n d_X12_readAllOf_18 rfl rfl ?_
    obtain ⟨q2, hq2, hf⟩ := ob hf
    refine B_callV1 (hA hq2) k_264 clX12 m_X12_readAtom kv_RX12_222 d_X12_readAllOf_19 rfl (Nat.le_of_ble_eq_true rfl) ⟨rfl, rfl, Nat.le_of_ble_eq_true rfl, Nat.le_of_ble_eq_true rfl, (show (9 + 3 * k : Nat) < 10 + 3 * k by omega)⟩ (fun n => ?_)
    refine V_if_ne (tgt := 27) d_X12_readAllOf_22 (by decide) (fun c22 => ?_) (fun c22 => ?_)
    · replace hf := iteT (b2i_ne0 c22) hf
      refine V_aload_n d_X12_readAllOf_27 rfl rfl ?_
      refine V_bipush (v := 14) d_X12_readAllOf_28 bp_14 ?_
      refine V_iconst (v := 0) d_X12_readAllOf_30 ic_0 ?_
      obtain ⟨q3, hq3, hf⟩ := ob hf
      refine B_callV0 (s_X12_emits hG hq3) k_264 clX12 m_X12_emits kv_RX12_190 d_X12_readAllOf_31 rfl (Nat.le_of_ble_eq_true rfl) ⟨rfl, rfl, Nat.le_of_ble_eq_true rfl, Nat.le_of_ble_eq_true rfl, (show (1 : Nat) < 10 + 3 * k by omega)⟩ (fun n => ?_)
      refine V_goto (tgt := 9) d_X12_readAllOf_34 (by decide) ?_
      refine V_less (ls' := [some _]) ⟨rfl, trivial⟩ ?_
      cases hf
      exact hK.1 _ rfl _
    · replace hf := iteF (b2i_nt (b2i_eq0 c22)) hf
      refine V_iconst (v := 0) d_X12_readAllOf_25 ic_0 ?_
      cases hf
      exact R_z ((hK.2 _ rfl).2 _ rfl) d_X12_readAllOf_26 (Nat.le_of_ble_eq_true rfl) (Nat.le_of_ble_eq_true rfl)
theorem s_X12_readAllOf_j37 {G : Gl} (hG : G.1.stackTraces = false) {k : Nat} {rA : Mem → Option (Bool × Mem)} (hA : ∀ {μ9 : Mem}  {q : (Bool × Mem)}, rA μ9 = some q → Rt G yX12_readAtom (F_X12_readAtom k) (some .boolean) [.ref (G.2.1 + 264)] μ9 (some (.int (b2i q.1))) q.2) {C : Cx} {n : Nat} {μ : Mem}  {r : (Bool × Mem)} (hf : f_X12_readAllOf_j37 rA μ = some r) (hK : FinR G C (F_X12_readAllOf k) (some .boolean) (some (.int (b2i r.1))) r.2) : V G C (F_X12_readAllOf k) 37 [none] [] (pic G μ) n 0 0 := by
  unfold f_X12_readAllOf_j37 at hf
  refine V_iconst (v := 1) d_X12_readAllOf_37 ic_1 ?_
  cases hf
  exact R_z hK d_X12_readAllOf_38 (Nat.le_of_ble_eq_true rfl) (Nat.le_of_ble_eq_true rfl)
theorem s_X12_readAllOf_l9 {G : Gl} (hG : G.1.stackTraces = false) {k : Nat} {rA : Mem → Option (Bool × Mem)} (hA : ∀ {μ9 : Mem}  {q : (Bool × Mem)}, rA μ9 = some q → Rt G yX12_readAtom (F_X12_readAtom k) (some .boolean) [.ref (G.2.1 + 264)] μ9 (some (.int (b2i q.1))) q.2) {C : Cx} {n : Nat} {μ : Mem}  {r : (Bool × Mem)} (hf : f_X12_readAllOf_l9 rA μ = some r) (hK : FinR G C (F_X12_readAllOf k) (some .boolean) (some (.int (b2i r.1))) r.2) : V G C (F_X12_readAllOf k) 9 [some (.ref (G.2.1 + 264))] [] (pic G μ) n 0 0 := by
  unfold f_X12_readAllOf_l9 at hf
  obtain ⟨t, hl, hf⟩ := ob hf
  refine loopV (P := fun z => ∀ n, V G C (F_X12_readAllOf k) 9 [some (.ref (G.2.1 + 264))] [] (pic G z) n 0 0) (t := t) ?_ _ _ hl n
  intro z y' hy hI hT n
  refine s_X12_readAllOf_b9 hG hA hy ⟨hI, fun x9 ex => ?_⟩
  have ex2 := hT x9 ex
  subst ex2
  refine ⟨fun e he => ?_, fun x2 hx => ?_⟩
  · subst he
    intro n
    exact s_X12_readAllOf_j37 hG hA hf hK
  · subst hx
    cases hf
    exact hK
theorem s_X12_readAllOf_e {G : Gl} (hG : G.1.stackTraces = false) {k : Nat} {rA : Mem → Option (Bool × Mem)} (hA : ∀ {μ9 : Mem}  {q : (Bool × Mem)}, rA μ9 = some q → Rt G yX12_readAtom (F_X12_readAtom k) (some .boolean) [.ref (G.2.1 + 264)] μ9 (some (.int (b2i q.1))) q.2) {C : Cx} {n : Nat} {μ : Mem}  {r : (Bool × Mem)} (hf : f_X12_readAllOf rA μ = some r) (hK : FinR G C (F_X12_readAllOf k) (some .boolean) (some (.int (b2i r.1))) r.2) : V G C (F_X12_readAllOf k) 0 [some (.ref (G.2.1 + 264))] [] (pic G μ) n 0 0 := by
  unfold f_X12_readAllOf at hf
  refine V_aload_n d_X12_readAllOf_0 rfl rfl ?_
  obtain ⟨q1, hq1, hf⟩ := ob hf
  refine B_callV1 (hA hq1) k_264 clX12 m_X12_readAtom kv_RX12_222 d_X12_readAllOf_1 rfl (Nat.le_of_ble_eq_true rfl) ⟨rfl, rfl, Nat.le_of_ble_eq_true rfl, Nat.le_of_ble_eq_true rfl, (show (9 + 3 * k : Nat) < 10 + 3 * k by omega)⟩ (fun n => ?_)
  refine V_if_ne (tgt := 9) d_X12_readAllOf_4 (by decide) (fun c4 => ?_) (fun c4 => ?_)
  · replace hf := iteT (b2i_ne0 c4) hf
    refine V_less (ls' := [some _]) ⟨rfl, trivial⟩ ?_
    exact s_X12_readAllOf_l9 hG hA hf hK
  · replace hf := iteF (b2i_nt (b2i_eq0 c4)) hf
    refine V_iconst (v := 0) d_X12_readAllOf_7 ic_0 ?_
    cases hf
    exact R_z hK d_X12_readAllOf_8 (Nat.le_of_ble_eq_true rfl) (Nat.le_of_ble_eq_true rfl)
theorem s_X12_readAllOf {G : Gl} (hG : G.1.stackTraces = false) {k : Nat} {rA : Mem → Option (Bool × Mem)} (hA : ∀ {μ9 : Mem}  {q : (Bool × Mem)}, rA μ9 = some q → Rt G yX12_readAtom (F_X12_readAtom k) (some .boolean) [.ref (G.2.1 + 264)] μ9 (some (.int (b2i q.1))) q.2) {μ : Mem} {r : (Bool × Mem)} (hf : f_X12_readAllOf rA μ = some r) : Rt G yX12_readAllOf (F_X12_readAllOf k) (some .boolean) [.ref (G.2.1 + 264)] μ (some (.int (b2i r.1))) r.2 := fun n => Sd.of hG ⟨by decide +kernel, rfl, rfl⟩ rfl (Nat.le_of_ble_eq_true rfl) rfl (fun C hK => s_X12_readAllOf_e hG hA hf hK)
theorem d_X12_readCond_0 : decode cX12_readCond 0 = .ok (.aload_n 0, 1) := by decide +kernel
theorem d_X12_readCond_1 : decode cX12_readCond 1 = .ok (.invokevirtual 233, 3) := by decide +kernel
theorem d_X12_readCond_4 : decode cX12_readCond 4 = .ok (.ifCond .ne 5, 3) := by decide +kernel
theorem d_X12_readCond_7 : decode cX12_readCond 7 = .ok (.iconst 0, 1) := by decide +kernel
theorem d_X12_readCond_8 : decode cX12_readCond 8 = .ok (.ireturn, 1) := by decide +kernel
theorem d_X12_readCond_9 : decode cX12_readCond 9 = .ok (.aload_n 0, 1) := by decide +kernel
theorem d_X12_readCond_10 : decode cX12_readCond 10 = .ok (.ldc 236, 2) := by decide +kernel
theorem d_X12_readCond_12 : decode cX12_readCond 12 = .ok (.invokevirtual 156, 3) := by decide +kernel
theorem d_X12_readCond_15 : decode cX12_readCond 15 = .ok (.ifCond .eq 22, 3) := by decide +kernel
theorem d_X12_readCond_18 : decode cX12_readCond 18 = .ok (.aload_n 0, 1) := by decide +kernel
theorem d_X12_readCond_19 : decode cX12_readCond 19 = .ok (.invokevirtual 233, 3) := by decide +kernel
theorem d_X12_readCond_22 : decode cX12_readCond 22 = .ok (.ifCond .ne 5, 3) := by decide +kernel
theorem d_X12_readCond_25 : decode cX12_readCond 25 = .ok (.iconst 0, 1) := by decide +kernel
theorem d_X12_readCond_26 : decode cX12_readCond 26 = .ok (.ireturn, 1) := by decide +kernel
theorem d_X12_readCond_27 : decode cX12_readCond 27 = .ok (.aload_n 0, 1) := by decide +kernel
theorem d_X12_readCond_28 : decode cX12_readCond 28 = .ok (.bipush 15, 2) := by decide +kernel
theorem d_X12_readCond_30 : decode cX12_readCond 30 = .ok (.iconst 0, 1) := by decide +kernel
theorem d_X12_readCond_31 : decode cX12_readCond 31 = .ok (.invokevirtual 190, 3) := by decide +kernel
theorem d_X12_readCond_34 : decode cX12_readCond 34 = .ok (.goto (-25), 3) := by decide +kernel
theorem d_X12_readCond_37 : decode cX12_readCond 37 = .ok (.iconst 1, 1) := by decide +kernel
theorem d_X12_readCond_38 : decode cX12_readCond 38 = .ok (.ireturn, 1) := by decide +kernel
theorem s_X12_readCond_b9 {G : Gl} (hG : G.1.stackTraces = false) {k : Nat} {rA : Mem → Option (Bool × Mem)} (hA : ∀ {μ9 : Mem}  {q : (Bool × Mem)}, rA μ9 = some q → Rt G yX12_readAtom (F_X12_readAtom k) (some .boolean) [.ref (G.2.1 + 264)] μ9 (some (.int (b2i q.1))) q.2) {C : Cx} {n : Nat} {μ : Mem}  {y : (Mem ⊕ (Mem ⊕ (Bool × Mem)))} (hf : f_X12_readCond_b9 rA μ = some y) (hK : (∀ z', y = .inl z' → ∀ n, V G C (F_X12_readCond k) 9 [some (.ref (G.2.1 + 264))] [] (pic G z') n 0 0) ∧ (∀ x', y = .inr x' → ((∀ x'', x' = .inl x'' → ∀ n, V G C (F_X12_readCond k) 37 [none] [] (pic G x'') n 0 0) ∧ (∀ x''', x' = .inr x''' → FinR G C (F_X12_readCond k) (some .boolean) (some (.int (b2i x'''.1))) x'''.2)))) : V G C (F_X12_readCond k) 9 [some (.ref (G.2.1 + 264))] [] (pic G μ) n 0 0 := by
  unfold f_X12_readCond_b9 at hf
  refine V_aload_n d_X12_readCond_9 rfl rfl ?_
  refine V_ldcS (i := 73) d_X12_readCond_10 sT_RX12_236 ?_
  obtain ⟨q1, hq1, hf⟩ := ob hf
  refine B_callV1 (s_X12_passes hG sS_73 hq1) k_264 clX12 m_X12_passes kv_RX12_156 d_X12_readCond_12 rfl (Nat.le_of_ble_eq_true rfl) ⟨rfl, rfl, Nat.le_of_ble_eq_true rfl, Nat.le_of_ble_eq_true rfl, (show (7 : Nat) < 11 + 3 * k by omega)⟩ (fun n => ?_)
  refine V_if_eq (tgt := 37) d_X12_readCond_15 (by decide) (fun c15 => ?_) (fun c15 => ?_)
  · replace hf := iteF (b2i_nt (b2i_eq0 c15)) hf
    refine V_less (ls' := [none]) trivial ?_
    cases hf
    exact (hK.2 _ rfl).1 _ rfl _
  · replace hf := iteT (b2i_ne0 c15) hf
    refine V_aload_n d_X12_readCond_18 rfl rfl ?_
    obtain ⟨q2, hq2, hf⟩ := ob hf
    refine B_callV1 (s_X12_readAllOf hG hA hq2) k_264 clX12 m_X12_readAllOf kv_RX12_233 d_X12_readCond_19 rfl (Nat.le_of_ble_eq_true rfl) ⟨rfl, rfl, Nat.le_of_ble_eq_true rfl, Nat.le_of_ble_eq_true rfl, (show (10 + 3 * k : Nat) < 11 + 3 * k by omega)⟩ (fun n => ?_)
    refine V_if_ne (tgt := 27) d_X12_readCond_22 (by decide) (fun c22 => ?_) (fun c22 => ?_)
    · replace hf := iteT (b2i_ne0 c22) hf
      refine V_aload_n d_X12_readCond_27 rfl rfl ?_
      refine V_bipush (v := 15) d_X12_readCond_28 bp_15 ?_
      refine V_iconst (v := 0) d_X12_readCond_30 ic_0 ?_
      obtain ⟨q3, hq3, hf⟩ := ob hf
      refine B_callV0 (s_X12_emits hG hq3) k_264 clX12 m_X12_emits kv_RX12_190 d_X12_readCond_31 rfl (Nat.le_of_ble_eq_true rfl) ⟨rfl, rfl, Nat.le_of_ble_eq_true rfl, Nat.le_of_ble_eq_true rfl, (show (1 : Nat) < 11 + 3 * k by omega)⟩ (fun n => ?_)
      refine V_goto (tgt := 9) d_X12_readCond_34 (by decide) ?_
      refine V_less (ls' := [some _]) ⟨rfl, trivial⟩ ?_
      cases hf
      exact hK.1 _ rfl _
    · replace hf := iteF (b2i_nt (b2i_eq0 c22)) hf
      refine V_iconst (v := 0) d_X12_readCond_25 ic_0 ?_
      cases hf
      exact R_z ((hK.2 _ rfl).2 _ rfl) d_X12_readCond_26 (Nat.le_of_ble_eq_true rfl) (Nat.le_of_ble_eq_true rfl)
theorem s_X12_readCond_j37 {G : Gl} (hG : G.1.stackTraces = false) {k : Nat} {rA : Mem → Option (Bool × Mem)} (hA : ∀ {μ9 : Mem}  {q : (Bool × Mem)}, rA μ9 = some q → Rt G yX12_readAtom (F_X12_readAtom k) (some .boolean) [.ref (G.2.1 + 264)] μ9 (some (.int (b2i q.1))) q.2) {C : Cx} {n : Nat} {μ : Mem}  {r : (Bool × Mem)} (hf : f_X12_readCond_j37 rA μ = some r) (hK : FinR G C (F_X12_readCond k) (some .boolean) (some (.int (b2i r.1))) r.2) : V G C (F_X12_readCond k) 37 [none] [] (pic G μ) n 0 0 := by
  unfold f_X12_readCond_j37 at hf
  refine V_iconst (v := 1) d_X12_readCond_37 ic_1 ?_
  cases hf
  exact R_z hK d_X12_readCond_38 (Nat.le_of_ble_eq_true rfl) (Nat.le_of_ble_eq_true rfl)
theorem s_X12_readCond_l9 {G : Gl} (hG : G.1.stackTraces = false) {k : Nat} {rA : Mem → Option (Bool × Mem)} (hA : ∀ {μ9 : Mem}  {q : (Bool × Mem)}, rA μ9 = some q → Rt G yX12_readAtom (F_X12_readAtom k) (some .boolean) [.ref (G.2.1 + 264)] μ9 (some (.int (b2i q.1))) q.2) {C : Cx} {n : Nat} {μ : Mem}  {r : (Bool × Mem)} (hf : f_X12_readCond_l9 rA μ = some r) (hK : FinR G C (F_X12_readCond k) (some .boolean) (some (.int (b2i r.1))) r.2) : V G C (F_X12_readCond k) 9 [some (.ref (G.2.1 + 264))] [] (pic G μ) n 0 0 := by
  unfold f_X12_readCond_l9 at hf
  obtain ⟨t, hl, hf⟩ := ob hf
  refine loopV (P := fun z => ∀ n, V G C (F_X12_readCond k) 9 [some (.ref (G.2.1 + 264))] [] (pic G z) n 0 0) (t := t) ?_ _ _ hl n
  intro z y' hy hI hT n
  refine s_X12_readCond_b9 hG hA hy ⟨hI, fun x9 ex => ?_⟩
  have ex2 := hT x9 ex
  subst ex2
  refine ⟨fun e he => ?_, fun x2 hx => ?_⟩
  · subst he
    intro n
    exact s_X12_readCond_j37 hG hA hf hK
  · subst hx
    cases hf
    exact hK
theorem s_X12_readCond_e {G : Gl} (hG : G.1.stackTraces = false) {k : Nat} {rA : Mem → Option (Bool × Mem)} (hA : ∀ {μ9 : Mem}  {q : (Bool × Mem)}, rA μ9 = some q → Rt G yX12_readAtom (F_X12_readAtom k) (some .boolean) [.ref (G.2.1 + 264)] μ9 (some (.int (b2i q.1))) q.2) {C : Cx} {n : Nat} {μ : Mem}  {r : (Bool × Mem)} (hf : f_X12_readCond rA μ = some r) (hK : FinR G C (F_X12_readCond k) (some .boolean) (some (.int (b2i r.1))) r.2) : V G C (F_X12_readCond k) 0 [some (.ref (G.2.1 + 264))] [] (pic G μ) n 0 0 := by
  unfold f_X12_readCond at hf
  refine V_aload_n d_X12_readCond_0 rfl rfl ?_
  obtain ⟨q1, hq1, hf⟩ := ob hf
  refine B_callV1 (s_X12_readAllOf hG hA hq1) k_264 clX12 m_X12_readAllOf kv_RX12_233 d_X12_readCond_1 rfl (Nat.le_of_ble_eq_true rfl) ⟨rfl, rfl, Nat.le_of_ble_eq_true rfl, Nat.le_of_ble_eq_true rfl, (show (10 + 3 * k : Nat) < 11 + 3 * k by omega)⟩ (fun n => ?_)
  refine V_if_ne (tgt := 9) d_X12_readCond_4 (by decide) (fun c4 => ?_) (fun c4 => ?_)
  · replace hf := iteT (b2i_ne0 c4) hf
    refine V_less (ls' := [some _]) ⟨rfl, trivial⟩ ?_
    exact s_X12_readCond_l9 hG hA hf hK
  · replace hf := iteF (b2i_nt (b2i_eq0 c4)) hf
    refine V_iconst (v := 0) d_X12_readCond_7 ic_0 ?_
    cases hf
    exact R_z hK d_X12_readCond_8 (Nat.le_of_ble_eq_true rfl) (Nat.le_of_ble_eq_true rfl)
theorem s_X12_readCond {G : Gl} (hG : G.1.stackTraces = false) {k : Nat} {rA : Mem → Option (Bool × Mem)} (hA : ∀ {μ9 : Mem}  {q : (Bool × Mem)}, rA μ9 = some q → Rt G yX12_readAtom (F_X12_readAtom k) (some .boolean) [.ref (G.2.1 + 264)] μ9 (some (.int (b2i q.1))) q.2) {μ : Mem} {r : (Bool × Mem)} (hf : f_X12_readCond rA μ = some r) : Rt G yX12_readCond (F_X12_readCond k) (some .boolean) [.ref (G.2.1 + 264)] μ (some (.int (b2i r.1))) r.2 := fun n => Sd.of hG ⟨by decide +kernel, rfl, rfl⟩ rfl (Nat.le_of_ble_eq_true rfl) rfl (fun C hK => s_X12_readCond_e hG hA hf hK)
