theorem d_X12_leads_0 : decode cX12_leads 0 = .ok (.aload_n 0, 1) := by decide +kernel
theorem d_X12_leads_1 : decode cX12_leads 1 = .ok (.iconst 0, 1) := by decide +kernel
theorem d_X12_leads_2 : decode cX12_leads 2 = .ok (.putfield 3, 3) := by decide +kernel
theorem d_X12_leads_5 : decode cX12_leads 5 = .ok (.aload_n 0, 1) := by decide +kernel
theorem d_X12_leads_6 : decode cX12_leads 6 = .ok (.aload_n 0, 1) := by decide +kernel
theorem d_X12_leads_7 : decode cX12_leads 7 = .ok (.iload_n 1, 1) := by decide +kernel
theorem d_X12_leads_8 : decode cX12_leads 8 = .ok (.invokevirtual 305, 3) := by decide +kernel
theorem d_X12_leads_11 : decode cX12_leads 11 = .ok (.iconst 1, 1) := by decide +kernel
theorem d_X12_leads_12 : decode cX12_leads 12 = .ok (.invokevirtual 263, 3) := by decide +kernel
theorem d_X12_leads_15 : decode cX12_leads 15 = .ok (.ifCond .eq 7, 3) := by decide +kernel
theorem d_X12_leads_18 : decode cX12_leads 18 = .ok (.iconst 0, 1) := by decide +kernel
theorem d_X12_leads_19 : decode cX12_leads 19 = .ok (.goto 8, 3) := by decide +kernel
theorem d_X12_leads_22 : decode cX12_leads 22 = .ok (.aload_n 0, 1) := by decide +kernel
theorem d_X12_leads_23 : decode cX12_leads 23 = .ok (.iload_n 1, 1) := by decide +kernel
theorem d_X12_leads_24 : decode cX12_leads 24 = .ok (.invokevirtual 398, 3) := by decide +kernel
theorem d_X12_leads_27 : decode cX12_leads 27 = .ok (.ireturn, 1) := by decide +kernel
theorem s_X12_leads_j27 {G : Gl} (hG : G.1.stackTraces = false) {C : Cx} {n : Nat} {μ : Mem} {k0 : Int32} {r : (Int32 × Mem)} (hf : f_X12_leads_j27 μ k0 = some r) (hK : FinR G C F_X12_leads (some .int) (some (.int r.1)) r.2) : V G C F_X12_leads 27 [none, none] [.int k0] (pic G μ) n 0 0 := by
  unfold f_X12_leads_j27 at hf
  cases hf
  exact R_i hK d_X12_leads_27 (Nat.le_of_ble_eq_true rfl) (Nat.le_of_ble_eq_true rfl)
theorem s_X12_leads_e {G : Gl} (hG : G.1.stackTraces = false) {C : Cx} {n : Nat} {μ : Mem} {p1 : Int32} {r : (Int32 × Mem)} (hf : f_X12_leads μ p1 = some r) (hK : FinR G C F_X12_leads (some .int) (some (.int r.1)) r.2) : V G C F_X12_leads 0 [some (.ref (G.2.1 + 264)), some (.int p1)] [] (pic G μ) n 0 0 := by
  unfold f_X12_leads at hf
  refine V_aload_n d_X12_leads_0 rfl rfl ?_
  refine V_iconst (v := 0) d_X12_leads_1 ic_0 ?_
  refine B_putI k_264 fl_RX12_3 pt_12_0 (Nat.le_of_ble_eq_true rfl) p_12_0 d_X12_leads_2 ?_
  refine V_aload_n d_X12_leads_5 rfl rfl ?_
  refine V_aload_n d_X12_leads_6 rfl rfl ?_
  refine V_iload_n d_X12_leads_7 rfl rfl ?_
  obtain ⟨t1, ht1, hf⟩ := ob hf
  refine B_callV1 (s_X12_noPerson hG ht1) k_264 clX12 m_X12_noPerson kv_RX12_305 d_X12_leads_8 rfl (Nat.le_of_ble_eq_true rfl) ⟨rfl, rfl, Nat.le_of_ble_eq_true rfl, Nat.le_of_ble_eq_true rfl, Nat.le_of_ble_eq_true rfl⟩ (fun n => ?_)
  refine V_iconst (v := 1) d_X12_leads_11 ic_1 ?_
  obtain ⟨q2, hq2, hf⟩ := ob hf
  refine B_callV1 (s_X12_throwsIf hG hq2) k_264 clX12 m_X12_throwsIf kv_RX12_263 d_X12_leads_12 rfl (Nat.le_of_ble_eq_true rfl) ⟨rfl, rfl, Nat.le_of_ble_eq_true rfl, Nat.le_of_ble_eq_true rfl, Nat.le_of_ble_eq_true rfl⟩ (fun n => ?_)
  refine V_if_eq (tgt := 22) d_X12_leads_15 (by decide) (fun c15 => ?_) (fun c15 => ?_)
  · replace hf := iteF (b2i_nt (b2i_eq0 c15)) hf
    refine V_aload_n d_X12_leads_22 rfl rfl ?_
    refine V_iload_n d_X12_leads_23 rfl rfl ?_
    obtain ⟨t3, ht3, hf⟩ := ob hf
    refine B_callV1 (s_X12_leadsFrom hG ht3) k_264 clX12 m_X12_leadsFrom kv_RX12_398 d_X12_leads_24 rfl (Nat.le_of_ble_eq_true rfl) ⟨rfl, rfl, Nat.le_of_ble_eq_true rfl, Nat.le_of_ble_eq_true rfl, Nat.le_of_ble_eq_true rfl⟩ (fun n => ?_)
    refine V_less (ls' := [none, none]) trivial ?_
    exact s_X12_leads_j27 hG hf hK
  · replace hf := iteT (b2i_ne0 c15) hf
    refine V_iconst (v := 0) d_X12_leads_18 ic_0 ?_
    refine V_goto (tgt := 27) d_X12_leads_19 (by decide) ?_
    refine V_less (ls' := [none, none]) trivial ?_
    exact s_X12_leads_j27 hG hf hK
theorem s_X12_leads {G : Gl} (hG : G.1.stackTraces = false) {μ : Mem} {p1 : Int32} {r : (Int32 × Mem)} (hf : f_X12_leads μ p1 = some r) : Rt G yX12_leads F_X12_leads (some .int) [.ref (G.2.1 + 264), .int p1] μ (some (.int r.1)) r.2 := fun n => Sd.of hG ⟨by decide +kernel, rfl, rfl⟩ rfl (Nat.le_of_ble_eq_true rfl) rfl (fun C hK => s_X12_leads_e hG hf hK)
theorem d_X12_amountOf_0 : decode cX12_amountOf 0 = .ok (.iconst 0, 1) := by decide +kernel
theorem d_X12_amountOf_1 : decode cX12_amountOf 1 = .ok (.istore_n 2, 1) := by decide +kernel
theorem d_X12_amountOf_2 : decode cX12_amountOf 2 = .ok (.iconst 0, 1) := by decide +kernel
theorem d_X12_amountOf_3 : decode cX12_amountOf 3 = .ok (.istore_n 3, 1) := by decide +kernel
theorem d_X12_amountOf_4 : decode cX12_amountOf 4 = .ok (.iload_n 3, 1) := by decide +kernel
theorem d_X12_amountOf_5 : decode cX12_amountOf 5 = .ok (.aload_n 0, 1) := by decide +kernel
theorem d_X12_amountOf_6 : decode cX12_amountOf 6 = .ok (.invokevirtual 77, 3) := by decide +kernel
theorem d_X12_amountOf_9 : decode cX12_amountOf 9 = .ok (.if_icmp .ge 30, 3) := by decide +kernel
theorem d_X12_amountOf_12 : decode cX12_amountOf 12 = .ok (.iload_n 2, 1) := by decide +kernel
theorem d_X12_amountOf_13 : decode cX12_amountOf 13 = .ok (.iload_n 1, 1) := by decide +kernel
theorem d_X12_amountOf_14 : decode cX12_amountOf 14 = .ok (.iload_n 3, 1) := by decide +kernel
theorem d_X12_amountOf_15 : decode cX12_amountOf 15 = .ok (.invokestatic 380, 3) := by decide +kernel
theorem d_X12_amountOf_18 : decode cX12_amountOf 18 = .ok (.ifCond .eq 12, 3) := by decide +kernel
theorem d_X12_amountOf_21 : decode cX12_amountOf 21 = .ok (.aload_n 0, 1) := by decide +kernel
theorem d_X12_amountOf_22 : decode cX12_amountOf 22 = .ok (.iload_n 3, 1) := by decide +kernel
theorem d_X12_amountOf_23 : decode cX12_amountOf 23 = .ok (.iconst 2, 1) := by decide +kernel
theorem d_X12_amountOf_24 : decode cX12_amountOf 24 = .ok (.invokevirtual 70, 3) := by decide +kernel
theorem d_X12_amountOf_27 : decode cX12_amountOf 27 = .ok (.goto 4, 3) := by decide +kernel
theorem d_X12_amountOf_30 : decode cX12_amountOf 30 = .ok (.iconst 0, 1) := by decide +kernel
theorem d_X12_amountOf_31 : decode cX12_amountOf 31 = .ok (.iadd, 1) := by decide +kernel
theorem d_X12_amountOf_32 : decode cX12_amountOf 32 = .ok (.istore_n 2, 1) := by decide +kernel
theorem d_X12_amountOf_33 : decode cX12_amountOf 33 = .ok (.iinc 3 1, 3) := by decide +kernel
theorem d_X12_amountOf_36 : decode cX12_amountOf 36 = .ok (.goto (-32), 3) := by decide +kernel
theorem d_X12_amountOf_39 : decode cX12_amountOf 39 = .ok (.iload_n 2, 1) := by decide +kernel
theorem d_X12_amountOf_40 : decode cX12_amountOf 40 = .ok (.ireturn, 1) := by decide +kernel
theorem s_X12_amountOf_j31_4 {G : Gl} (hG : G.1.stackTraces = false) {C : Cx} {n : Nat} {μ : Mem} {l1 : Int32} {l3 : Int32} {k0 : Int32} {k1 : Int32} {y : ((Int32 × Int32) ⊕ Int32)} (hf : f_X12_amountOf_j31_4 μ l1 l3 k0 k1 = some y) (hK : (∀ z', y = .inl z' → ∀ n, V G C F_X12_amountOf 4 [some (.ref (G.2.1 + 264)), some (.int l1), some (.int z'.1), some (.int z'.2)] [] (pic G μ) n 0 0) ∧ (∀ x', y = .inr x' → ∀ n, V G C F_X12_amountOf 39 [none, none, some (.int x'), none] [] (pic G μ) n 0 0)) : V G C F_X12_amountOf 31 [some (.ref (G.2.1 + 264)), some (.int l1), none, some (.int l3)] [.int k1, .int k0] (pic G μ) n 0 0 := by
  unfold f_X12_amountOf_j31_4 at hf
  refine V_iadd d_X12_amountOf_31 ?_
  refine V_istore_n (ls' := [_, _, _, _]) d_X12_amountOf_32 rfl rfl rfl ?_
  refine V_iinc (v := (l3 + 1)) (ls' := [_, _, _, _]) d_X12_amountOf_33 rfl (by rw [ic_1]) rfl ?_
  refine V_goto (tgt := 4) d_X12_amountOf_36 (by decide) ?_
  refine V_less (ls' := [some _, some _, some _, some _]) ⟨rfl, rfl, rfl, rfl, trivial⟩ ?_
  cases hf
  exact hK.1 _ rfl _
theorem s_X12_amountOf_b4 {G : Gl} (hG : G.1.stackTraces = false) {C : Cx} {n : Nat} {μ : Mem} {l1 : Int32} {l2 : Int32} {l3 : Int32} {y : ((Int32 × Int32) ⊕ Int32)} (hf : f_X12_amountOf_b4 μ l1 l2 l3 = some y) (hK : (∀ z', y = .inl z' → ∀ n, V G C F_X12_amountOf 4 [some (.ref (G.2.1 + 264)), some (.int l1), some (.int z'.1), some (.int z'.2)] [] (pic G μ) n 0 0) ∧ (∀ x', y = .inr x' → ∀ n, V G C F_X12_amountOf 39 [none, none, some (.int x'), none] [] (pic G μ) n 0 0)) : V G C F_X12_amountOf 4 [some (.ref (G.2.1 + 264)), some (.int l1), some (.int l2), some (.int l3)] [] (pic G μ) n 0 0 := by
  unfold f_X12_amountOf_b4 at hf
  refine V_iload_n d_X12_amountOf_4 rfl rfl ?_
  refine V_aload_n d_X12_amountOf_5 rfl rfl ?_
  obtain ⟨t1, ht1, hf⟩ := ob hf
  refine B_callV1 (s_X12_laces hG ht1) k_264 clX12 m_X12_laces kv_RX12_77 d_X12_amountOf_6 rfl (Nat.le_of_ble_eq_true rfl) ⟨rfl, rfl, Nat.le_of_ble_eq_true rfl, Nat.le_of_ble_eq_true rfl, Nat.le_of_ble_eq_true rfl⟩ (fun n => ?_)
  refine V_icmp_ge (tgt := 39) d_X12_amountOf_9 (by decide) (fun c9 => ?_) (fun c9 => ?_)
  · replace hf := iteT c9 hf
    refine V_less (ls' := [none, none, some _, none]) ⟨rfl, trivial⟩ ?_
    cases hf
    exact hK.2 _ rfl _
  · replace hf := iteF c9 hf
    refine V_iload_n d_X12_amountOf_12 rfl rfl ?_
    refine V_iload_n d_X12_amountOf_13 rfl rfl ?_
    refine V_iload_n d_X12_amountOf_14 rfl rfl ?_
    obtain ⟨t2, ht2, hf⟩ := ob hf
    refine B_callS1 (s_X12_has hG ht2) m_X12_has ks_RX12_380 d_X12_amountOf_15 rfl (Nat.le_of_ble_eq_true rfl) ⟨rfl, rfl, Nat.le_of_ble_eq_true rfl, Nat.le_of_ble_eq_true rfl, Nat.le_of_ble_eq_true rfl⟩ (fun n => ?_)
    refine V_if_eq (tgt := 30) d_X12_amountOf_18 (by decide) (fun c18 => ?_) (fun c18 => ?_)
    · replace hf := iteF (b2i_nt (b2i_eq0 c18)) hf
      refine V_iconst (v := 0) d_X12_amountOf_30 ic_0 ?_
      refine V_less (ls' := [some _, some _, none, some _]) ⟨rfl, rfl, rfl, trivial⟩ ?_
      exact s_X12_amountOf_j31_4 hG hf hK
    · replace hf := iteT (b2i_ne0 c18) hf
      refine V_aload_n d_X12_amountOf_21 rfl rfl ?_
      refine V_iload_n d_X12_amountOf_22 rfl rfl ?_
      refine V_iconst (v := 2) d_X12_amountOf_23 ic_2 ?_
      obtain ⟨t3, ht3, hf⟩ := ob hf
      refine B_callV1 (s_X12_ofLace hG ht3) k_264 clX12 m_X12_ofLace kv_RX12_70 d_X12_amountOf_24 rfl (Nat.le_of_ble_eq_true rfl) ⟨rfl, rfl, Nat.le_of_ble_eq_true rfl, Nat.le_of_ble_eq_true rfl, Nat.le_of_ble_eq_true rfl⟩ (fun n => ?_)
      refine V_goto (tgt := 31) d_X12_amountOf_27 (by decide) ?_
      refine V_less (ls' := [some _, some _, none, some _]) ⟨rfl, rfl, rfl, trivial⟩ ?_
      exact s_X12_amountOf_j31_4 hG hf hK
theorem s_X12_amountOf_j39 {G : Gl} (hG : G.1.stackTraces = false) {C : Cx} {n : Nat} {μ : Mem} {l2 : Int32} {r : Int32} (hf : f_X12_amountOf_j39 μ l2 = some r) (hK : FinR G C F_X12_amountOf (some .int) (some (.int r)) μ) : V G C F_X12_amountOf 39 [none, none, some (.int l2), none] [] (pic G μ) n 0 0 := by
  unfold f_X12_amountOf_j39 at hf
  refine V_iload_n d_X12_amountOf_39 rfl rfl ?_
  cases hf
  exact R_i hK d_X12_amountOf_40 (Nat.le_of_ble_eq_true rfl) (Nat.le_of_ble_eq_true rfl)
theorem s_X12_amountOf_l4 {G : Gl} (hG : G.1.stackTraces = false) {C : Cx} {n : Nat} {μ : Mem} {l1 : Int32} {l2 : Int32} {l3 : Int32} {r : Int32} (hf : f_X12_amountOf_l4 μ l1 l2 l3 = some r) (hK : FinR G C F_X12_amountOf (some .int) (some (.int r)) μ) : V G C F_X12_amountOf 4 [some (.ref (G.2.1 + 264)), some (.int l1), some (.int l2), some (.int l3)] [] (pic G μ) n 0 0 := by
  unfold f_X12_amountOf_l4 at hf
  obtain ⟨t, hl, hf⟩ := ob hf
  refine loopV (P := fun z => ∀ n, V G C F_X12_amountOf 4 [some (.ref (G.2.1 + 264)), some (.int l1), some (.int z.1), some (.int z.2)] [] (pic G μ) n 0 0) (t := t) ?_ _ _ hl n
  intro z y' hy hI hT n
  refine s_X12_amountOf_b4 hG hy ⟨hI, fun x9 ex => ?_⟩
  have ex2 := hT x9 ex
  subst ex2
  intro n
  exact s_X12_amountOf_j39 hG hf hK
theorem s_X12_amountOf_e {G : Gl} (hG : G.1.stackTraces = false) {C : Cx} {n : Nat} {μ : Mem} {p1 : Int32} {r : Int32} (hf : f_X12_amountOf μ p1 = some r) (hK : FinR G C F_X12_amountOf (some .int) (some (.int r)) μ) : V G C F_X12_amountOf 0 [some (.ref (G.2.1 + 264)), some (.int p1), none, none] [] (pic G μ) n 0 0 := by
  unfold f_X12_amountOf at hf
  refine V_iconst (v := 0) d_X12_amountOf_0 ic_0 ?_
  refine V_istore_n (ls' := [_, _, _, _]) d_X12_amountOf_1 rfl rfl rfl ?_
  refine V_iconst (v := 0) d_X12_amountOf_2 ic_0 ?_
  refine V_istore_n (ls' := [_, _, _, _]) d_X12_amountOf_3 rfl rfl rfl ?_
  refine V_less (ls' := [some _, some _, some _, some _]) ⟨rfl, rfl, rfl, rfl, trivial⟩ ?_
  exact s_X12_amountOf_l4 hG hf hK
theorem s_X12_amountOf {G : Gl} (hG : G.1.stackTraces = false) {μ : Mem} {p1 : Int32} {r : Int32} (hf : f_X12_amountOf μ p1 = some r) : Rt G yX12_amountOf F_X12_amountOf (some .int) [.ref (G.2.1 + 264), .int p1] μ (some (.int r)) μ := fun n => Sd.of hG ⟨by decide +kernel, rfl, rfl⟩ rfl (Nat.le_of_ble_eq_true rfl) rfl (fun C hK => s_X12_amountOf_e hG hf hK)
theorem d_X12_canBePaid_0 : decode cX12_canBePaid 0 = .ok (.iconst 1, 1) := by decide +kernel
theorem d_X12_canBePaid_1 : decode cX12_canBePaid 1 = .ok (.istore_n 2, 1) := by decide +kernel
theorem d_X12_canBePaid_2 : decode cX12_canBePaid 2 = .ok (.iconst 0, 1) := by decide +kernel
theorem d_X12_canBePaid_3 : decode cX12_canBePaid 3 = .ok (.istore_n 3, 1) := by decide +kernel
theorem d_X12_canBePaid_4 : decode cX12_canBePaid 4 = .ok (.iload_n 3, 1) := by decide +kernel
theorem d_X12_canBePaid_5 : decode cX12_canBePaid 5 = .ok (.aload_n 0, 1) := by decide +kernel
theorem d_X12_canBePaid_6 : decode cX12_canBePaid 6 = .ok (.invokevirtual 59, 3) := by decide +kernel
theorem d_X12_canBePaid_9 : decode cX12_canBePaid 9 = .ok (.if_icmp .ge 39, 3) := by decide +kernel
theorem d_X12_canBePaid_12 : decode cX12_canBePaid 12 = .ok (.iload_n 2, 1) := by decide +kernel
theorem d_X12_canBePaid_13 : decode cX12_canBePaid 13 = .ok (.ifCond .eq 27, 3) := by decide +kernel
theorem d_X12_canBePaid_16 : decode cX12_canBePaid 16 = .ok (.aload_n 0, 1) := by decide +kernel
theorem d_X12_canBePaid_17 : decode cX12_canBePaid 17 = .ok (.iload_n 1, 1) := by decide +kernel
theorem d_X12_canBePaid_18 : decode cX12_canBePaid 18 = .ok (.iconst 3, 1) := by decide +kernel
theorem d_X12_canBePaid_19 : decode cX12_canBePaid 19 = .ok (.iconst 2, 1) := by decide +kernel
theorem d_X12_canBePaid_20 : decode cX12_canBePaid 20 = .ok (.iload_n 3, 1) := by decide +kernel
theorem d_X12_canBePaid_21 : decode cX12_canBePaid 21 = .ok (.imul, 1) := by decide +kernel
theorem d_X12_canBePaid_22 : decode cX12_canBePaid 22 = .ok (.ishl, 1) := by decide +kernel
theorem d_X12_canBePaid_23 : decode cX12_canBePaid 23 = .ok (.iand, 1) := by decide +kernel
theorem d_X12_canBePaid_24 : decode cX12_canBePaid 24 = .ok (.invokevirtual 401, 3) := by decide +kernel
theorem d_X12_canBePaid_27 : decode cX12_canBePaid 27 = .ok (.aload_n 0, 1) := by decide +kernel
theorem d_X12_canBePaid_28 : decode cX12_canBePaid 28 = .ok (.iload_n 3, 1) := by decide +kernel
theorem d_X12_canBePaid_29 : decode cX12_canBePaid 29 = .ok (.iconst 0, 1) := by decide +kernel
theorem d_X12_canBePaid_30 : decode cX12_canBePaid 30 = .ok (.invokevirtual 84, 3) := by decide +kernel
theorem d_X12_canBePaid_33 : decode cX12_canBePaid 33 = .ok (.if_icmp .gt 7, 3) := by decide +kernel
theorem d_X12_canBePaid_36 : decode cX12_canBePaid 36 = .ok (.iconst 1, 1) := by decide +kernel
theorem d_X12_canBePaid_37 : decode cX12_canBePaid 37 = .ok (.goto 4, 3) := by decide +kernel
theorem d_X12_canBePaid_40 : decode cX12_canBePaid 40 = .ok (.iconst 0, 1) := by decide +kernel
theorem d_X12_canBePaid_41 : decode cX12_canBePaid 41 = .ok (.istore_n 2, 1) := by decide +kernel
theorem d_X12_canBePaid_42 : decode cX12_canBePaid 42 = .ok (.iinc 3 1, 3) := by decide +kernel
theorem d_X12_canBePaid_45 : decode cX12_canBePaid 45 = .ok (.goto (-41), 3) := by decide +kernel
theorem d_X12_canBePaid_48 : decode cX12_canBePaid 48 = .ok (.iload_n 2, 1) := by decide +kernel
theorem d_X12_canBePaid_49 : decode cX12_canBePaid 49 = .ok (.ireturn, 1) := by decide +kernel
theorem s_X12_canBePaid_j41_4 {G : Gl} (hG : G.1.stackTraces = false) {C : Cx} {n : Nat} {μ : Mem} {l1 : Int32} {l3 : Int32} {k0 : Bool} {y : ((Bool × Int32) ⊕ Bool)} (hf : f_X12_canBePaid_j41_4 μ l1 l3 k0 = some y) (hK : (∀ z', y = .inl z' → ∀ n, V G C F_X12_canBePaid 4 [some (.ref (G.2.1 + 264)), some (.int l1), some (.int (b2i z'.1)), some (.int z'.2)] [] (pic G μ) n 0 0) ∧ (∀ x', y = .inr x' → ∀ n, V G C F_X12_canBePaid 48 [none, none, some (.int (b2i x')), none] [] (pic G μ) n 0 0)) : V G C F_X12_canBePaid 41 [some (.ref (G.2.1 + 264)), some (.int l1), none, some (.int l3)] [.int (b2i k0)] (pic G μ) n 0 0 := by
  unfold f_X12_canBePaid_j41_4 at hf
  refine V_istore_n (ls' := [_, _, _, _]) d_X12_canBePaid_41 rfl rfl rfl ?_
  refine V_iinc (v := (l3 + 1)) (ls' := [_, _, _, _]) d_X12_canBePaid_42 rfl (by rw [ic_1]) rfl ?_
  refine V_goto (tgt := 4) d_X12_canBePaid_45 (by decide) ?_
  refine V_less (ls' := [some _, some _, some _, some _]) ⟨rfl, rfl, rfl, rfl, trivial⟩ ?_
  cases hf
  exact hK.1 _ rfl _
theorem s_X12_canBePaid_j40_4 {G : Gl} (hG : G.1.stackTraces = false) {C : Cx} {n : Nat} {μ : Mem} {l1 : Int32} {l3 : Int32} {y : ((Bool × Int32) ⊕ Bool)} (hf : f_X12_canBePaid_j40_4 μ l1 l3 = some y) (hK : (∀ z', y = .inl z' → ∀ n, V G C F_X12_canBePaid 4 [some (.ref (G.2.1 + 264)), some (.int l1), some (.int (b2i z'.1)), some (.int z'.2)] [] (pic G μ) n 0 0) ∧ (∀ x', y = .inr x' → ∀ n, V G C F_X12_canBePaid 48 [none, none, some (.int (b2i x')), none] [] (pic G μ) n 0 0)) : V G C F_X12_canBePaid 40 [some (.ref (G.2.1 + 264)), some (.int l1), none, some (.int l3)] [] (pic G μ) n 0 0 := by
  unfold f_X12_canBePaid_j40_4 at hf
  refine V_iconst (v := 0) d_X12_canBePaid_40 ic_0 ?_
  refine V_less (ls' := [some _, some _, none, some _]) ⟨rfl, rfl, rfl, trivial⟩ ?_
  exact s_X12_canBePaid_j41_4 hG hf hK
theorem s_X12_canBePaid_b4 {G : Gl} (hG : G.1.stackTraces = false) {C : Cx} {n : Nat} {μ : Mem} {l1 : Int32} {l2 : Bool} {l3 : Int32} {y : ((Bool × Int32) ⊕ Bool)} (hf : f_X12_canBePaid_b4 μ l1 l2 l3 = some y) (hK : (∀ z', y = .inl z' → ∀ n, V G C F_X12_canBePaid 4 [some (.ref (G.2.1 + 264)), some (.int l1), some (.int (b2i z'.1)), some (.int z'.2)] [] (pic G μ) n 0 0) ∧ (∀ x', y = .inr x' → ∀ n, V G C F_X12_canBePaid 48 [none, none, some (.int (b2i x')), none] [] (pic G μ) n 0 0)) : V G C F_X12_canBePaid 4 [some (.ref (G.2.1 + 264)), some (.int l1), some (.int (b2i l2)), some (.int l3)] [] (pic G μ) n 0 0 := by
  unfold f_X12_canBePaid_b4 at hf
  refine V_iload_n d_X12_canBePaid_4 rfl rfl ?_
  refine V_aload_n d_X12_canBePaid_5 rfl rfl ?_
  obtain ⟨t1, ht1, hf⟩ := ob hf
  refine B_callV1 (s_X12_people hG ht1) k_264 clX12 m_X12_people kv_RX12_59 d_X12_canBePaid_6 rfl (Nat.le_of_ble_eq_true rfl) ⟨rfl, rfl, Nat.le_of_ble_eq_true rfl, Nat.le_of_ble_eq_true rfl, Nat.le_of_ble_eq_true rfl⟩ (fun n => ?_)
  refine V_icmp_ge (tgt := 48) d_X12_canBePaid_9 (by decide) (fun c9 => ?_) (fun c9 => ?_)
  · replace hf := iteT c9 hf
    refine V_less (ls' := [none, none, some _, none]) ⟨rfl, trivial⟩ ?_
    cases hf
    exact hK.2 _ rfl _
  · replace hf := iteF c9 hf
    refine V_iload_n d_X12_canBePaid_12 rfl rfl ?_
    refine V_if_eq (tgt := 40) d_X12_canBePaid_13 (by decide) (fun c13 => ?_) (fun c13 => ?_)
    · replace hf := iteF (b2i_nt (b2i_eq0 c13)) hf
      refine V_less (ls' := [some _, some _, none, some _]) ⟨rfl, rfl, rfl, trivial⟩ ?_
      exact s_X12_canBePaid_j40_4 hG hf hK
    · replace hf := iteT (b2i_ne0 c13) hf
      refine V_aload_n d_X12_canBePaid_16 rfl rfl ?_
      refine V_iload_n d_X12_canBePaid_17 rfl rfl ?_
      refine V_iconst (v := 3) d_X12_canBePaid_18 ic_3 ?_
      refine V_iconst (v := 2) d_X12_canBePaid_19 ic_2 ?_
      refine V_iload_n d_X12_canBePaid_20 rfl rfl ?_
      refine V_imul d_X12_canBePaid_21 ?_
      refine V_ishl d_X12_canBePaid_22 ?_
      refine V_iand d_X12_canBePaid_23 ?_
      obtain ⟨t2, ht2, hf⟩ := ob hf
      refine B_callV1 (s_X12_amountOf hG ht2) k_264 clX12 m_X12_amountOf kv_RX12_401 d_X12_canBePaid_24 rfl (Nat.le_of_ble_eq_true rfl) ⟨rfl, rfl, Nat.le_of_ble_eq_true rfl, Nat.le_of_ble_eq_true rfl, Nat.le_of_ble_eq_true rfl⟩ (fun n => ?_)
      refine V_aload_n d_X12_canBePaid_27 rfl rfl ?_
      refine V_iload_n d_X12_canBePaid_28 rfl rfl ?_
      refine V_iconst (v := 0) d_X12_canBePaid_29 ic_0 ?_
      obtain ⟨t3, ht3, hf⟩ := ob hf
      refine B_callV1 (s_X12_of hG ht3) k_264 clX12 m_X12_of kv_RX12_84 d_X12_canBePaid_30 rfl (Nat.le_of_ble_eq_true rfl) ⟨rfl, rfl, Nat.le_of_ble_eq_true rfl, Nat.le_of_ble_eq_true rfl, Nat.le_of_ble_eq_true rfl⟩ (fun n => ?_)
      have hJj4 : ∀ j4 : Bool, j4 = (if t3 < t2 then (false : Bool) else true) → V G C F_X12_canBePaid 41 [some (.ref (G.2.1 + 264)), some (.int l1), none, some (.int l3)] [.int (b2i j4)] (pic G μ) n 0 0 := by
        intro j4 ej4
        subst ej4
        refine V_istore_n (ls' := [_, _, _, _]) d_X12_canBePaid_41 rfl rfl rfl ?_
        refine V_iinc (v := (l3 + 1)) (ls' := [_, _, _, _]) d_X12_canBePaid_42 rfl (by rw [ic_1]) rfl ?_
        refine V_goto (tgt := 4) d_X12_canBePaid_45 (by decide) ?_
        refine V_less (ls' := [some _, some _, some _, some _]) ⟨rfl, rfl, rfl, rfl, trivial⟩ ?_
        cases hf
        exact hK.1 _ rfl _
      refine V_icmp_gt (tgt := 40) d_X12_canBePaid_33 (by decide) (fun c33 => ?_) (fun c33 => ?_)
      · refine V_iconst (v := 0) d_X12_canBePaid_40 ic_0 ?_
        refine V_less (ls' := [some _, some _, none, some _]) ⟨rfl, rfl, rfl, trivial⟩ ?_
        exact hJj4 false (by rw [if_pos c33])
      · refine V_iconst (v := 1) d_X12_canBePaid_36 ic_1 ?_
        refine V_goto (tgt := 41) d_X12_canBePaid_37 (by decide) ?_
        refine V_less (ls' := [some _, some _, none, some _]) ⟨rfl, rfl, rfl, trivial⟩ ?_
        exact hJj4 true (by rw [if_neg c33])
theorem s_X12_canBePaid_j48 {G : Gl} (hG : G.1.stackTraces = false) {C : Cx} {n : Nat} {μ : Mem} {l2 : Bool} {r : Bool} (hf : f_X12_canBePaid_j48 μ l2 = some r) (hK : FinR G C F_X12_canBePaid (some .boolean) (some (.int (b2i r))) μ) : V G C F_X12_canBePaid 48 [none, none, some (.int (b2i l2)), none] [] (pic G μ) n 0 0 := by
  unfold f_X12_canBePaid_j48 at hf
  refine V_iload_n d_X12_canBePaid_48 rfl rfl ?_
  cases hf
  exact R_z hK d_X12_canBePaid_49 (Nat.le_of_ble_eq_true rfl) (Nat.le_of_ble_eq_true rfl)
theorem s_X12_canBePaid_l4 {G : Gl} (hG : G.1.stackTraces = false) {C : Cx} {n : Nat} {μ : Mem} {l1 : Int32} {l2 : Bool} {l3 : Int32} {r : Bool} (hf : f_X12_canBePaid_l4 μ l1 l2 l3 = some r) (hK : FinR G C F_X12_canBePaid (some .boolean) (some (.int (b2i r))) μ) : V G C F_X12_canBePaid 4 [some (.ref (G.2.1 + 264)), some (.int l1), some (.int (b2i l2)), some (.int l3)] [] (pic G μ) n 0 0 := by
  unfold f_X12_canBePaid_l4 at hf
  obtain ⟨t, hl, hf⟩ := ob hf
  refine loopV (P := fun z => ∀ n, V G C F_X12_canBePaid 4 [some (.ref (G.2.1 + 264)), some (.int l1), some (.int (b2i z.1)), some (.int z.2)] [] (pic G μ) n 0 0) (t := t) ?_ _ _ hl n
  intro z y' hy hI hT n
  refine s_X12_canBePaid_b4 hG hy ⟨hI, fun x9 ex => ?_⟩
  have ex2 := hT x9 ex
  subst ex2
  intro n
  exact s_X12_canBePaid_j48 hG hf hK
theorem s_X12_canBePaid_e {G : Gl} (hG : G.1.stackTraces = false) {C : Cx} {n : Nat} {μ : Mem} {p1 : Int32} {r : Bool} (hf : f_X12_canBePaid μ p1 = some r) (hK : FinR G C F_X12_canBePaid (some .boolean) (some (.int (b2i r))) μ) : V G C F_X12_canBePaid 0 [some (.ref (G.2.1 + 264)), some (.int p1), none, none] [] (pic G μ) n 0 0 := by
  unfold f_X12_canBePaid at hf
  refine V_iconst (v := 1) d_X12_canBePaid_0 ic_1 ?_
  refine V_istore_n (ls' := [_, _, _, _]) d_X12_canBePaid_1 rfl rfl rfl ?_
  refine V_iconst (v := 0) d_X12_canBePaid_2 ic_0 ?_
  refine V_istore_n (ls' := [_, _, _, _]) d_X12_canBePaid_3 rfl rfl rfl ?_
  refine V_less (ls' := [some _, some _, some _, some _]) ⟨rfl, rfl, rfl, rfl, trivial⟩ ?_
  exact s_X12_canBePaid_l4 hG hf hK
theorem s_X12_canBePaid {G : Gl} (hG : G.1.stackTraces = false) {μ : Mem} {p1 : Int32} {r : Bool} (hf : f_X12_canBePaid μ p1 = some r) : Rt G yX12_canBePaid F_X12_canBePaid (some .boolean) [.ref (G.2.1 + 264), .int p1] μ (some (.int (b2i r))) μ := fun n => Sd.of hG ⟨by decide +kernel, rfl, rfl⟩ rfl (Nat.le_of_ble_eq_true rfl) rfl (fun C hK => s_X12_canBePaid_e hG hf hK)
theorem d_X12_call_0 : decode cX12_call 0 = .ok (.aload_n 0, 1) := by decide +kernel
theorem d_X12_call_1 : decode cX12_call 1 = .ok (.iconst 0, 1) := by decide +kernel
theorem d_X12_call_2 : decode cX12_call 2 = .ok (.putfield 3, 3) := by decide +kernel
theorem d_X12_call_5 : decode cX12_call 5 = .ok (.aload_n 0, 1) := by decide +kernel
theorem d_X12_call_6 : decode cX12_call 6 = .ok (.aload_n 0, 1) := by decide +kernel
theorem d_X12_call_7 : decode cX12_call 7 = .ok (.iload_n 1, 1) := by decide +kernel
theorem d_X12_call_8 : decode cX12_call 8 = .ok (.invokevirtual 305, 3) := by decide +kernel
theorem d_X12_call_11 : decode cX12_call 11 = .ok (.iconst 1, 1) := by decide +kernel
theorem d_X12_call_12 : decode cX12_call 12 = .ok (.invokevirtual 263, 3) := by decide +kernel
theorem d_X12_call_15 : decode cX12_call 15 = .ok (.ifCond .eq 5, 3) := by decide +kernel
theorem d_X12_call_18 : decode cX12_call 18 = .ok (.iconst 0, 1) := by decide +kernel
theorem d_X12_call_19 : decode cX12_call 19 = .ok (.ireturn, 1) := by decide +kernel
theorem d_X12_call_20 : decode cX12_call 20 = .ok (.aload_n 0, 1) := by decide +kernel
theorem d_X12_call_21 : decode cX12_call 21 = .ok (.iload_n 1, 1) := by decide +kernel
theorem d_X12_call_22 : decode cX12_call 22 = .ok (.invokevirtual 269, 3) := by decide +kernel
theorem d_X12_call_25 : decode cX12_call 25 = .ok (.aload_n 0, 1) := by decide +kernel
theorem d_X12_call_26 : decode cX12_call 26 = .ok (.invokevirtual 389, 3) := by decide +kernel
theorem d_X12_call_29 : decode cX12_call 29 = .ok (.iand, 1) := by decide +kernel
theorem d_X12_call_30 : decode cX12_call 30 = .ok (.istore_n 3, 1) := by decide +kernel
theorem d_X12_call_31 : decode cX12_call 31 = .ok (.iconst 0, 1) := by decide +kernel
theorem d_X12_call_32 : decode cX12_call 32 = .ok (.istore 4, 2) := by decide +kernel
theorem d_X12_call_34 : decode cX12_call 34 = .ok (.iconst 1, 1) := by decide +kernel
theorem d_X12_call_35 : decode cX12_call 35 = .ok (.istore 5, 2) := by decide +kernel
theorem d_X12_call_37 : decode cX12_call 37 = .ok (.iload 5, 2) := by decide +kernel
theorem d_X12_call_39 : decode cX12_call 39 = .ok (.iload_n 3, 1) := by decide +kernel
theorem d_X12_call_40 : decode cX12_call 40 = .ok (.if_icmp .gt 46, 3) := by decide +kernel
theorem d_X12_call_43 : decode cX12_call 43 = .ok (.iload 5, 2) := by decide +kernel
theorem d_X12_call_45 : decode cX12_call 45 = .ok (.iload_n 3, 1) := by decide +kernel
theorem d_X12_call_46 : decode cX12_call 46 = .ok (.iconst (-1), 1) := by decide +kernel
theorem d_X12_call_47 : decode cX12_call 47 = .ok (.ixor, 1) := by decide +kernel
theorem d_X12_call_48 : decode cX12_call 48 = .ok (.iand, 1) := by decide +kernel
theorem d_X12_call_49 : decode cX12_call 49 = .ok (.ifCond .ne 31, 3) := by decide +kernel
theorem d_X12_call_52 : decode cX12_call 52 = .ok (.aload_n 0, 1) := by decide +kernel
theorem d_X12_call_53 : decode cX12_call 53 = .ok (.iload 5, 2) := by decide +kernel
theorem d_X12_call_55 : decode cX12_call 55 = .ok (.invokevirtual 401, 3) := by decide +kernel
theorem d_X12_call_58 : decode cX12_call 58 = .ok (.aload_n 0, 1) := by decide +kernel
theorem d_X12_call_59 : decode cX12_call 59 = .ok (.iload 4, 2) := by decide +kernel
theorem d_X12_call_61 : decode cX12_call 61 = .ok (.invokevirtual 401, 3) := by decide +kernel
theorem d_X12_call_64 : decode cX12_call 64 = .ok (.if_icmp .le 16, 3) := by decide +kernel
theorem d_X12_call_67 : decode cX12_call 67 = .ok (.aload_n 0, 1) := by decide +kernel
theorem d_X12_call_68 : decode cX12_call 68 = .ok (.iload 5, 2) := by decide +kernel
theorem d_X12_call_70 : decode cX12_call 70 = .ok (.invokevirtual 404, 3) := by decide +kernel
theorem d_X12_call_73 : decode cX12_call 73 = .ok (.ifCond .eq 7, 3) := by decide +kernel
theorem d_X12_call_76 : decode cX12_call 76 = .ok (.iload 5, 2) := by decide +kernel
theorem d_X12_call_78 : decode cX12_call 78 = .ok (.istore 4, 2) := by decide +kernel
theorem d_X12_call_80 : decode cX12_call 80 = .ok (.iinc 5 1, 3) := by decide +kernel
theorem d_X12_call_83 : decode cX12_call 83 = .ok (.goto (-46), 3) := by decide +kernel
theorem d_X12_call_86 : decode cX12_call 86 = .ok (.iload_n 2, 1) := by decide +kernel
theorem d_X12_call_87 : decode cX12_call 87 = .ok (.ifCond .eq 12, 3) := by decide +kernel
theorem d_X12_call_90 : decode cX12_call 90 = .ok (.aload_n 0, 1) := by decide +kernel
theorem d_X12_call_91 : decode cX12_call 91 = .ok (.iload 4, 2) := by decide +kernel
theorem d_X12_call_93 : decode cX12_call 93 = .ok (.invokevirtual 401, 3) := by decide +kernel
theorem d_X12_call_96 : decode cX12_call 96 = .ok (.goto 5, 3) := by decide +kernel
theorem d_X12_call_99 : decode cX12_call 99 = .ok (.iload 4, 2) := by decide +kernel
theorem d_X12_call_101 : decode cX12_call 101 = .ok (.ireturn, 1) := by decide +kernel
theorem s_X12_call_j80_37 {G : Gl} (hG : G.1.stackTraces = false) {C : Cx} {n : Nat} {μ : Mem} {l2 : Bool} {l3 : Int32} {l4 : Int32} {l5 : Int32} {y : ((Int32 × Int32) ⊕ Int32)} (hf : f_X12_call_j80_37 μ l2 l3 l4 l5 = some y) (hK : (∀ z', y = .inl z' → ∀ n, V G C F_X12_call 37 [some (.ref (G.2.1 + 264)), none, some (.int (b2i l2)), some (.int l3), some (.int z'.1), some (.int z'.2)] [] (pic G μ) n 0 0) ∧ (∀ x', y = .inr x' → ∀ n, V G C F_X12_call 86 [some (.ref (G.2.1 + 264)), none, some (.int (b2i l2)), none, some (.int x'), none] [] (pic G μ) n 0 0)) : V G C F_X12_call 80 [some (.ref (G.2.1 + 264)), none, some (.int (b2i l2)), some (.int l3), some (.int l4), some (.int l5)] [] (pic G μ) n 0 0 := by
  unfold f_X12_call_j80_37 at hf
  refine V_iinc (v := (l5 + 1)) (ls' := [_, _, _, _, _, _]) d_X12_call_80 rfl (by rw [ic_1]) rfl ?_
  refine V_goto (tgt := 37) d_X12_call_83 (by decide) ?_
  refine V_less (ls' := [some _, none, some _, some _, some _, some _]) ⟨rfl, rfl, rfl, rfl, rfl, trivial⟩ ?_
  cases hf
  exact hK.1 _ rfl _
theorem s_X12_call_b37 {G : Gl} (hG : G.1.stackTraces = false) {C : Cx} {n : Nat} {μ : Mem} {l2 : Bool} {l3 : Int32} {l4 : Int32} {l5 : Int32} {y : ((Int32 × Int32) ⊕ Int32)} (hf : f_X12_call_b37 μ l2 l3 l4 l5 = some y) (hK : (∀ z', y = .inl z' → ∀ n, V G C F_X12_call 37 [some (.ref (G.2.1 + 264)), none, some (.int (b2i l2)), some (.int l3), some (.int z'.1), some (.int z'.2)] [] (pic G μ) n 0 0) ∧ (∀ x', y = .inr x' → ∀ n, V G C F_X12_call 86 [some (.ref (G.2.1 + 264)), none, some (.int (b2i l2)), none, some (.int x'), none] [] (pic G μ) n 0 0)) : V G C F_X12_call 37 [some (.ref (G.2.1 + 264)), none, some (.int (b2i l2)), some (.int l3), some (.int l4), some (.int l5)] [] (pic G μ) n 0 0 := by
  unfold f_X12_call_b37 at hf
  refine V_iload d_X12_call_37 rfl ?_
  refine V_iload_n d_X12_call_39 rfl rfl ?_
  refine V_icmp_gt (tgt := 86) d_X12_call_40 (by decide) (fun c40 => ?_) (fun c40 => ?_)
  · replace hf := iteT c40 hf
    refine V_less (ls' := [some _, none, some _, none, some _, none]) ⟨rfl, rfl, rfl, trivial⟩ ?_
    cases hf
    exact hK.2 _ rfl _
  · replace hf := iteF c40 hf
    refine V_iload d_X12_call_43 rfl ?_
    refine V_iload_n d_X12_call_45 rfl rfl ?_
    refine V_iconst (v := (-1)) d_X12_call_46 ic_m1 ?_
    refine V_ixor d_X12_call_47 ?_
    refine V_iand d_X12_call_48 ?_
    refine V_if_ne (tgt := 80) d_X12_call_49 (by decide) (fun c49 => ?_) (fun c49 => ?_)
    · replace hf := iteF c49 hf
      refine V_less (ls' := [some _, none, some _, some _, some _, some _]) ⟨rfl, rfl, rfl, rfl, rfl, trivial⟩ ?_
      exact s_X12_call_j80_37 hG hf hK
    · replace hf := iteT c49 hf
      refine V_aload_n d_X12_call_52 rfl rfl ?_
      refine V_iload d_X12_call_53 rfl ?_
      obtain ⟨t1, ht1, hf⟩ := ob hf
      refine B_callV1 (s_X12_amountOf hG ht1) k_264 clX12 m_X12_amountOf kv_RX12_401 d_X12_call_55 rfl (Nat.le_of_ble_eq_true rfl) ⟨rfl, rfl, Nat.le_of_ble_eq_true rfl, Nat.le_of_ble_eq_true rfl, Nat.le_of_ble_eq_true rfl⟩ (fun n => ?_)
      refine V_aload_n d_X12_call_58 rfl rfl ?_
      refine V_iload d_X12_call_59 rfl ?_
      obtain ⟨t2, ht2, hf⟩ := ob hf
      refine B_callV1 (s_X12_amountOf hG ht2) k_264 clX12 m_X12_amountOf kv_RX12_401 d_X12_call_61 rfl (Nat.le_of_ble_eq_true rfl) ⟨rfl, rfl, Nat.le_of_ble_eq_true rfl, Nat.le_of_ble_eq_true rfl, Nat.le_of_ble_eq_true rfl⟩ (fun n => ?_)
      refine V_icmp_le (tgt := 80) d_X12_call_64 (by decide) (fun c64 => ?_) (fun c64 => ?_)
      · replace hf := iteT c64 hf
        refine V_less (ls' := [some _, none, some _, some _, some _, some _]) ⟨rfl, rfl, rfl, rfl, rfl, trivial⟩ ?_
        exact s_X12_call_j80_37 hG hf hK
      · replace hf := iteF c64 hf
        refine V_aload_n d_X12_call_67 rfl rfl ?_
        refine V_iload d_X12_call_68 rfl ?_
        obtain ⟨t3, ht3, hf⟩ := ob hf
        refine B_callV1 (s_X12_canBePaid hG ht3) k_264 clX12 m_X12_canBePaid kv_RX12_404 d_X12_call_70 rfl (Nat.le_of_ble_eq_true rfl) ⟨rfl, rfl, Nat.le_of_ble_eq_true rfl, Nat.le_of_ble_eq_true rfl, Nat.le_of_ble_eq_true rfl⟩ (fun n => ?_)
        have hJj4 : ∀ j4 : Int32, j4 = (if t3 = true then (l5 : Int32) else l4) → V G C F_X12_call 80 [some (.ref (G.2.1 + 264)), none, some (.int (b2i l2)), some (.int l3), some (.int j4), some (.int l5)] [] (pic G μ) n 0 0 := by
          intro j4 ej4
          subst ej4
          refine V_iinc (v := (l5 + 1)) (ls' := [_, _, _, _, _, _]) d_X12_call_80 rfl (by rw [ic_1]) rfl ?_
          refine V_goto (tgt := 37) d_X12_call_83 (by decide) ?_
          refine V_less (ls' := [some _, none, some _, some _, some _, some _]) ⟨rfl, rfl, rfl, rfl, rfl, trivial⟩ ?_
          cases hf
          exact hK.1 _ rfl _
        refine V_if_eq (tgt := 80) d_X12_call_73 (by decide) (fun c73 => ?_) (fun c73 => ?_)
        · refine V_less (ls' := [some _, none, some _, some _, some _, some _]) ⟨rfl, rfl, rfl, rfl, rfl, trivial⟩ ?_
          exact hJj4 l4 (by rw [if_neg (b2i_nt (b2i_eq0 c73))])
        · refine V_iload d_X12_call_76 rfl ?_
          refine V_istore (ls' := [_, _, _, _, _, _]) d_X12_call_78 rfl rfl ?_
          refine V_less (ls' := [some _, none, some _, some _, some _, some _]) ⟨rfl, rfl, rfl, rfl, rfl, trivial⟩ ?_
          exact hJj4 l5 (by rw [if_pos (b2i_ne0 c73)])
theorem s_X12_call_j101 {G : Gl} (hG : G.1.stackTraces = false) {C : Cx} {n : Nat} {μ : Mem} {k0 : Int32} {r : (Int32 × Mem)} (hf : f_X12_call_j101 μ k0 = some r) (hK : FinR G C F_X12_call (some .int) (some (.int r.1)) r.2) : V G C F_X12_call 101 [none, none, none, none, none, none] [.int k0] (pic G μ) n 0 0 := by
  unfold f_X12_call_j101 at hf
  cases hf
  exact R_i hK d_X12_call_101 (Nat.le_of_ble_eq_true rfl) (Nat.le_of_ble_eq_true rfl)
theorem s_X12_call_j86 {G : Gl} (hG : G.1.stackTraces = false) {C : Cx} {n : Nat} {μ : Mem} {l2 : Bool} {l4 : Int32} {r : (Int32 × Mem)} (hf : f_X12_call_j86 μ l2 l4 = some r) (hK : FinR G C F_X12_call (some .int) (some (.int r.1)) r.2) : V G C F_X12_call 86 [some (.ref (G.2.1 + 264)), none, some (.int (b2i l2)), none, some (.int l4), none] [] (pic G μ) n 0 0 := by
  unfold f_X12_call_j86 at hf
  refine V_iload_n d_X12_call_86 rfl rfl ?_
  refine V_if_eq (tgt := 99) d_X12_call_87 (by decide) (fun c87 => ?_) (fun c87 => ?_)
  · replace hf := iteF (b2i_nt (b2i_eq0 c87)) hf
    refine V_iload d_X12_call_99 rfl ?_
    refine V_less (ls' := [none, none, none, none, none, none]) trivial ?_
    exact s_X12_call_j101 hG hf hK
  · replace hf := iteT (b2i_ne0 c87) hf
    refine V_aload_n d_X12_call_90 rfl rfl ?_
    refine V_iload d_X12_call_91 rfl ?_
    obtain ⟨t1, ht1, hf⟩ := ob hf
    refine B_callV1 (s_X12_amountOf hG ht1) k_264 clX12 m_X12_amountOf kv_RX12_401 d_X12_call_93 rfl (Nat.le_of_ble_eq_true rfl) ⟨rfl, rfl, Nat.le_of_ble_eq_true rfl, Nat.le_of_ble_eq_true rfl, Nat.le_of_ble_eq_true rfl⟩ (fun n => ?_)
    refine V_goto (tgt := 101) d_X12_call_96 (by decide) ?_
    refine V_less (ls' := [none, none, none, none, none, none]) trivial ?_
    exact s_X12_call_j101 hG hf hK
theorem s_X12_call_l37 {G : Gl} (hG : G.1.stackTraces = false) {C : Cx} {n : Nat} {μ : Mem} {l2 : Bool} {l3 : Int32} {l4 : Int32} {l5 : Int32} {r : (Int32 × Mem)} (hf : f_X12_call_l37 μ l2 l3 l4 l5 = some r) (hK : FinR G C F_X12_call (some .int) (some (.int r.1)) r.2) : V G C F_X12_call 37 [some (.ref (G.2.1 + 264)), none, some (.int (b2i l2)), some (.int l3), some (.int l4), some (.int l5)] [] (pic G μ) n 0 0 := by
  unfold f_X12_call_l37 at hf
  obtain ⟨t, hl, hf⟩ := ob hf
  refine loopV (P := fun z => ∀ n, V G C F_X12_call 37 [some (.ref (G.2.1 + 264)), none, some (.int (b2i l2)), some (.int l3), some (.int z.1), some (.int z.2)] [] (pic G μ) n 0 0) (t := t) ?_ _ _ hl n
  intro z y' hy hI hT n
  refine s_X12_call_b37 hG hy ⟨hI, fun x9 ex => ?_⟩
  have ex2 := hT x9 ex
  subst ex2
  intro n
  exact s_X12_call_j86 hG hf hK
theorem s_X12_call_e {G : Gl} (hG : G.1.stackTraces = false) {C : Cx} {n : Nat} {μ : Mem} {p1 : Int32} {p2 : Bool} {r : (Int32 × Mem)} (hf : f_X12_call μ p1 p2 = some r) (hK : FinR G C F_X12_call (some .int) (some (.int r.1)) r.2) : V G C F_X12_call 0 [some (.ref (G.2.1 + 264)), some (.int p1), some (.int (b2i p2)), none, none, none] [] (pic G μ) n 0 0 := by
  unfold f_X12_call at hf
  refine V_aload_n d_X12_call_0 rfl rfl ?_
  refine V_iconst (v := 0) d_X12_call_1 ic_0 ?_
  refine B_putI k_264 fl_RX12_3 pt_12_0 (Nat.le_of_ble_eq_true rfl) p_12_0 d_X12_call_2 ?_
  refine V_aload_n d_X12_call_5 rfl rfl ?_
  refine V_aload_n d_X12_call_6 rfl rfl ?_
  refine V_iload_n d_X12_call_7 rfl rfl ?_
  obtain ⟨t1, ht1, hf⟩ := ob hf
  refine B_callV1 (s_X12_noPerson hG ht1) k_264 clX12 m_X12_noPerson kv_RX12_305 d_X12_call_8 rfl (Nat.le_of_ble_eq_true rfl) ⟨rfl, rfl, Nat.le_of_ble_eq_true rfl, Nat.le_of_ble_eq_true rfl, Nat.le_of_ble_eq_true rfl⟩ (fun n => ?_)
  refine V_iconst (v := 1) d_X12_call_11 ic_1 ?_
  obtain ⟨q2, hq2, hf⟩ := ob hf
  refine B_callV1 (s_X12_throwsIf hG hq2) k_264 clX12 m_X12_throwsIf kv_RX12_263 d_X12_call_12 rfl (Nat.le_of_ble_eq_true rfl) ⟨rfl, rfl, Nat.le_of_ble_eq_true rfl, Nat.le_of_ble_eq_true rfl, Nat.le_of_ble_eq_true rfl⟩ (fun n => ?_)
  refine V_if_eq (tgt := 20) d_X12_call_15 (by decide) (fun c15 => ?_) (fun c15 => ?_)
  · replace hf := iteF (b2i_nt (b2i_eq0 c15)) hf
    refine V_aload_n d_X12_call_20 rfl rfl ?_
    refine V_iload_n d_X12_call_21 rfl rfl ?_
    obtain ⟨t3, ht3, hf⟩ := ob hf
    refine B_callV1 (s_X12_heldBy hG ht3) k_264 clX12 m_X12_heldBy kv_RX12_269 d_X12_call_22 rfl (Nat.le_of_ble_eq_true rfl) ⟨rfl, rfl, Nat.le_of_ble_eq_true rfl, Nat.le_of_ble_eq_true rfl, Nat.le_of_ble_eq_true rfl⟩ (fun n => ?_)
    refine V_aload_n d_X12_call_25 rfl rfl ?_
    obtain ⟨t4, ht4, hf⟩ := ob hf
    refine B_callV1 (s_X12_pledgedOnes hG ht4) k_264 clX12 m_X12_pledgedOnes kv_RX12_389 d_X12_call_26 rfl (Nat.le_of_ble_eq_true rfl) ⟨rfl, rfl, Nat.le_of_ble_eq_true rfl, Nat.le_of_ble_eq_true rfl, Nat.le_of_ble_eq_true rfl⟩ (fun n => ?_)
    refine V_iand d_X12_call_29 ?_
    refine V_istore_n (ls' := [_, _, _, _, _, _]) d_X12_call_30 rfl rfl rfl ?_
    refine V_iconst (v := 0) d_X12_call_31 ic_0 ?_
    refine V_istore (ls' := [_, _, _, _, _, _]) d_X12_call_32 rfl rfl ?_
    refine V_iconst (v := 1) d_X12_call_34 ic_1 ?_
    refine V_istore (ls' := [_, _, _, _, _, _]) d_X12_call_35 rfl rfl ?_
    refine V_less (ls' := [some _, none, some _, some _, some _, some _]) ⟨rfl, rfl, rfl, rfl, rfl, trivial⟩ ?_
    exact s_X12_call_l37 hG hf hK
  · replace hf := iteT (b2i_ne0 c15) hf
    refine V_iconst (v := 0) d_X12_call_18 ic_0 ?_
    cases hf
    exact R_i hK d_X12_call_19 (Nat.le_of_ble_eq_true rfl) (Nat.le_of_ble_eq_true rfl)
theorem s_X12_call {G : Gl} (hG : G.1.stackTraces = false) {μ : Mem} {p1 : Int32} {p2 : Bool} {r : (Int32 × Mem)} (hf : f_X12_call μ p1 p2 = some r) : Rt G yX12_call F_X12_call (some .int) [.ref (G.2.1 + 264), .int p1, .int (b2i p2)] μ (some (.int r.1)) r.2 := fun n => Sd.of hG ⟨by decide +kernel, rfl, rfl⟩ rfl (Nat.le_of_ble_eq_true rfl) rfl (fun C hK => s_X12_call_e hG hf hK)
theorem d_X12_breaks_0 : decode cX12_breaks 0 = .ok (.aload_n 0, 1) := by decide +kernel
theorem d_X12_breaks_1 : decode cX12_breaks 1 = .ok (.iconst 0, 1) := by decide +kernel
theorem d_X12_breaks_2 : decode cX12_breaks 2 = .ok (.putfield 3, 3) := by decide +kernel
theorem d_X12_breaks_5 : decode cX12_breaks 5 = .ok (.aload_n 0, 1) := by decide +kernel
theorem d_X12_breaks_6 : decode cX12_breaks 6 = .ok (.iload_n 1, 1) := by decide +kernel
theorem d_X12_breaks_7 : decode cX12_breaks 7 = .ok (.iconst 0, 1) := by decide +kernel
theorem d_X12_breaks_8 : decode cX12_breaks 8 = .ok (.bipush 60, 2) := by decide +kernel
theorem d_X12_breaks_10 : decode cX12_breaks 10 = .ok (.invokestatic 73, 3) := by decide +kernel
theorem d_X12_breaks_13 : decode cX12_breaks 13 = .ok (.ifCond .ne 7, 3) := by decide +kernel
theorem d_X12_breaks_16 : decode cX12_breaks 16 = .ok (.iconst 1, 1) := by decide +kernel
theorem d_X12_breaks_17 : decode cX12_breaks 17 = .ok (.goto 4, 3) := by decide +kernel
theorem d_X12_breaks_20 : decode cX12_breaks 20 = .ok (.iconst 0, 1) := by decide +kernel
theorem d_X12_breaks_21 : decode cX12_breaks 21 = .ok (.iconst 1, 1) := by decide +kernel
theorem d_X12_breaks_22 : decode cX12_breaks 22 = .ok (.invokevirtual 263, 3) := by decide +kernel
theorem d_X12_breaks_25 : decode cX12_breaks 25 = .ok (.ifCond .eq 5, 3) := by decide +kernel
theorem d_X12_breaks_28 : decode cX12_breaks 28 = .ok (.iconst 0, 1) := by decide +kernel
theorem d_X12_breaks_29 : decode cX12_breaks 29 = .ok (.ireturn, 1) := by decide +kernel
theorem d_X12_breaks_30 : decode cX12_breaks 30 = .ok (.aload_n 0, 1) := by decide +kernel
theorem d_X12_breaks_31 : decode cX12_breaks 31 = .ok (.invokevirtual 302, 3) := by decide +kernel
theorem d_X12_breaks_34 : decode cX12_breaks 34 = .ok (.istore_n 2, 1) := by decide +kernel
theorem d_X12_breaks_35 : decode cX12_breaks 35 = .ok (.aload_n 0, 1) := by decide +kernel
theorem d_X12_breaks_36 : decode cX12_breaks 36 = .ok (.invokevirtual 367, 3) := by decide +kernel
theorem d_X12_breaks_39 : decode cX12_breaks 39 = .ok (.iconst 0, 1) := by decide +kernel
theorem d_X12_breaks_40 : decode cX12_breaks 40 = .ok (.istore_n 3, 1) := by decide +kernel
theorem d_X12_breaks_41 : decode cX12_breaks 41 = .ok (.iload_n 3, 1) := by decide +kernel
theorem d_X12_breaks_42 : decode cX12_breaks 42 = .ok (.iload_n 1, 1) := by decide +kernel
theorem d_X12_breaks_43 : decode cX12_breaks 43 = .ok (.if_icmp .ge 14, 3) := by decide +kernel
theorem d_X12_breaks_46 : decode cX12_breaks 46 = .ok (.aload_n 0, 1) := by decide +kernel
theorem d_X12_breaks_47 : decode cX12_breaks 47 = .ok (.iconst 1, 1) := by decide +kernel
theorem d_X12_breaks_48 : decode cX12_breaks 48 = .ok (.invokevirtual 363, 3) := by decide +kernel
theorem d_X12_breaks_51 : decode cX12_breaks 51 = .ok (.iinc 3 1, 3) := by decide +kernel
theorem d_X12_breaks_54 : decode cX12_breaks 54 = .ok (.goto (-13), 3) := by decide +kernel
theorem d_X12_breaks_57 : decode cX12_breaks 57 = .ok (.aload_n 0, 1) := by decide +kernel
theorem d_X12_breaks_58 : decode cX12_breaks 58 = .ok (.invokevirtual 302, 3) := by decide +kernel
theorem d_X12_breaks_61 : decode cX12_breaks 61 = .ok (.istore_n 3, 1) := by decide +kernel
theorem d_X12_breaks_62 : decode cX12_breaks 62 = .ok (.aload_n 0, 1) := by decide +kernel
theorem d_X12_breaks_63 : decode cX12_breaks 63 = .ok (.invokevirtual 370, 3) := by decide +kernel
theorem d_X12_breaks_66 : decode cX12_breaks 66 = .ok (.iload_n 3, 1) := by decide +kernel
theorem d_X12_breaks_67 : decode cX12_breaks 67 = .ok (.iload_n 2, 1) := by decide +kernel
theorem d_X12_breaks_68 : decode cX12_breaks 68 = .ok (.iconst (-1), 1) := by decide +kernel
theorem d_X12_breaks_69 : decode cX12_breaks 69 = .ok (.ixor, 1) := by decide +kernel
theorem d_X12_breaks_70 : decode cX12_breaks 70 = .ok (.iand, 1) := by decide +kernel
theorem d_X12_breaks_71 : decode cX12_breaks 71 = .ok (.ireturn, 1) := by decide +kernel
theorem s_X12_breaks_b41 {G : Gl} (hG : G.1.stackTraces = false) {C : Cx} {n : Nat} {μ : Mem} {l1 : Int32} {l2 : Int32} {l3 : Int32} {y : ((Int32 × Mem) ⊕ Mem)} (hf : f_X12_breaks_b41 μ l1 l2 l3 = some y) (hK : (∀ z', y = .inl z' → ∀ n, V G C F_X12_breaks 41 [some (.ref (G.2.1 + 264)), some (.int l1), some (.int l2), some (.int z'.1)] [] (pic G z'.2) n 0 0) ∧ (∀ x', y = .inr x' → ∀ n, V G C F_X12_breaks 57 [some (.ref (G.2.1 + 264)), none, some (.int l2), none] [] (pic G x') n 0 0)) : V G C F_X12_breaks 41 [some (.ref (G.2.1 + 264)), some (.int l1), some (.int l2), some (.int l3)] [] (pic G μ) n 0 0 := by
  unfold f_X12_breaks_b41 at hf
  refine V_iload_n d_X12_breaks_41 rfl rfl ?_
  refine V_iload_n d_X12_breaks_42 rfl rfl ?_
  refine V_icmp_ge (tgt := 57) d_X12_breaks_43 (by decide) (fun c43 => ?_) (fun c43 => ?_)
  · replace hf := iteT c43 hf
    refine V_less (ls' := [some _, none, some _, none]) ⟨rfl, rfl, trivial⟩ ?_
    cases hf
    exact hK.2 _ rfl _
  · replace hf := iteF c43 hf
    refine V_aload_n d_X12_breaks_46 rfl rfl ?_
    refine V_iconst (v := 1) d_X12_breaks_47 ic_1 ?_
    obtain ⟨q1, hq1, hf⟩ := ob hf
    refine B_callV0 (s_X12_oneDay hG hq1) k_264 clX12 m_X12_oneDay kv_RX12_363 d_X12_breaks_48 rfl (Nat.le_of_ble_eq_true rfl) ⟨rfl, rfl, Nat.le_of_ble_eq_true rfl, Nat.le_of_ble_eq_true rfl, Nat.le_of_ble_eq_true rfl⟩ (fun n => ?_)
    refine V_iinc (v := (l3 + 1)) (ls' := [_, _, _, _]) d_X12_breaks_51 rfl (by rw [ic_1]) rfl ?_
    refine V_goto (tgt := 41) d_X12_breaks_54 (by decide) ?_
    refine V_less (ls' := [some _, some _, some _, some _]) ⟨rfl, rfl, rfl, rfl, trivial⟩ ?_
    cases hf
    exact hK.1 _ rfl _
theorem s_X12_breaks_j57 {G : Gl} (hG : G.1.stackTraces = false) {C : Cx} {n : Nat} {μ : Mem} {l2 : Int32} {r : (Int32 × Mem)} (hf : f_X12_breaks_j57 μ l2 = some r) (hK : FinR G C F_X12_breaks (some .int) (some (.int r.1)) r.2) : V G C F_X12_breaks 57 [some (.ref (G.2.1 + 264)), none, some (.int l2), none] [] (pic G μ) n 0 0 := by
  unfold f_X12_breaks_j57 at hf
  refine V_aload_n d_X12_breaks_57 rfl rfl ?_
  obtain ⟨t1, ht1, hf⟩ := ob hf
  refine B_callV1 (s_X12_lostOnes hG ht1) k_264 clX12 m_X12_lostOnes kv_RX12_302 d_X12_breaks_58 rfl (Nat.le_of_ble_eq_true rfl) ⟨rfl, rfl, Nat.le_of_ble_eq_true rfl, Nat.le_of_ble_eq_true rfl, Nat.le_of_ble_eq_true rfl⟩ (fun n => ?_)
  refine V_istore_n (ls' := [_, _, _, _]) d_X12_breaks_61 rfl rfl rfl ?_
  refine V_aload_n d_X12_breaks_62 rfl rfl ?_
  obtain ⟨q2, hq2, hf⟩ := ob hf
  refine B_callV0 (s_X12_bringsBack hG hq2) k_264 clX12 m_X12_bringsBack kv_RX12_370 d_X12_breaks_63 rfl (Nat.le_of_ble_eq_true rfl) ⟨rfl, rfl, Nat.le_of_ble_eq_true rfl, Nat.le_of_ble_eq_true rfl, Nat.le_of_ble_eq_true rfl⟩ (fun n => ?_)
  refine V_iload_n d_X12_breaks_66 rfl rfl ?_
  refine V_iload_n d_X12_breaks_67 rfl rfl ?_
  refine V_iconst (v := (-1)) d_X12_breaks_68 ic_m1 ?_
  refine V_ixor d_X12_breaks_69 ?_
  refine V_iand d_X12_breaks_70 ?_
  cases hf
  exact R_i hK d_X12_breaks_71 (Nat.le_of_ble_eq_true rfl) (Nat.le_of_ble_eq_true rfl)
theorem s_X12_breaks_l41 {G : Gl} (hG : G.1.stackTraces = false) {C : Cx} {n : Nat} {μ : Mem} {l1 : Int32} {l2 : Int32} {l3 : Int32} {r : (Int32 × Mem)} (hf : f_X12_breaks_l41 μ l1 l2 l3 = some r) (hK : FinR G C F_X12_breaks (some .int) (some (.int r.1)) r.2) : V G C F_X12_breaks 41 [some (.ref (G.2.1 + 264)), some (.int l1), some (.int l2), some (.int l3)] [] (pic G μ) n 0 0 := by
  unfold f_X12_breaks_l41 at hf
  obtain ⟨t, hl, hf⟩ := ob hf
  refine loopV (P := fun z => ∀ n, V G C F_X12_breaks 41 [some (.ref (G.2.1 + 264)), some (.int l1), some (.int l2), some (.int z.1)] [] (pic G z.2) n 0 0) (t := t) ?_ _ _ hl n
  intro z y' hy hI hT n
  refine s_X12_breaks_b41 hG hy ⟨hI, fun x9 ex => ?_⟩
  have ex2 := hT x9 ex
  subst ex2
  intro n
  exact s_X12_breaks_j57 hG hf hK
theorem s_X12_breaks_e {G : Gl} (hG : G.1.stackTraces = false) {C : Cx} {n : Nat} {μ : Mem} {p1 : Int32} {r : (Int32 × Mem)} (hf : f_X12_breaks μ p1 = some r) (hK : FinR G C F_X12_breaks (some .int) (some (.int r.1)) r.2) : V G C F_X12_breaks 0 [some (.ref (G.2.1 + 264)), some (.int p1), none, none] [] (pic G μ) n 0 0 := by
  unfold f_X12_breaks at hf
  refine V_aload_n d_X12_breaks_0 rfl rfl ?_
  refine V_iconst (v := 0) d_X12_breaks_1 ic_0 ?_
  refine B_putI k_264 fl_RX12_3 pt_12_0 (Nat.le_of_ble_eq_true rfl) p_12_0 d_X12_breaks_2 ?_
  refine V_aload_n d_X12_breaks_5 rfl rfl ?_
  refine V_iload_n d_X12_breaks_6 rfl rfl ?_
  refine V_iconst (v := 0) d_X12_breaks_7 ic_0 ?_
  refine V_bipush (v := 60) d_X12_breaks_8 bp_60 ?_
  obtain ⟨t1, ht1, hf⟩ := ob hf
  refine B_callS1 (s_X12_in hG ht1) m_X12_in ks_RX12_73 d_X12_breaks_10 rfl (Nat.le_of_ble_eq_true rfl) ⟨rfl, rfl, Nat.le_of_ble_eq_true rfl, Nat.le_of_ble_eq_true rfl, Nat.le_of_ble_eq_true rfl⟩ (fun n => ?_)
  have hJj2 : ∀ j2 : Bool, j2 = (if t1 = true then (false : Bool) else true) → V G C F_X12_breaks 21 [some (.ref (G.2.1 + 264)), some (.int p1), none, none] [.int (b2i j2), .ref (G.2.1 + 264)] (pic G (mset μ 264 0 0)) n 0 0 := by
    intro j2 ej2
    subst ej2
    refine V_iconst (v := 1) d_X12_breaks_21 ic_1 ?_
    obtain ⟨q3, hq3, hf⟩ := ob hf
    refine B_callV1 (s_X12_throwsIf hG hq3) k_264 clX12 m_X12_throwsIf kv_RX12_263 d_X12_breaks_22 rfl (Nat.le_of_ble_eq_true rfl) ⟨rfl, rfl, Nat.le_of_ble_eq_true rfl, Nat.le_of_ble_eq_true rfl, Nat.le_of_ble_eq_true rfl⟩ (fun n => ?_)
    refine V_if_eq (tgt := 30) d_X12_breaks_25 (by decide) (fun c25 => ?_) (fun c25 => ?_)
    · replace hf := iteF (b2i_nt (b2i_eq0 c25)) hf
      refine V_aload_n d_X12_breaks_30 rfl rfl ?_
      obtain ⟨t4, ht4, hf⟩ := ob hf
      refine B_callV1 (s_X12_lostOnes hG ht4) k_264 clX12 m_X12_lostOnes kv_RX12_302 d_X12_breaks_31 rfl (Nat.le_of_ble_eq_true rfl) ⟨rfl, rfl, Nat.le_of_ble_eq_true rfl, Nat.le_of_ble_eq_true rfl, Nat.le_of_ble_eq_true rfl⟩ (fun n => ?_)
      refine V_istore_n (ls' := [_, _, _, _]) d_X12_breaks_34 rfl rfl rfl ?_
      refine V_aload_n d_X12_breaks_35 rfl rfl ?_
      obtain ⟨q5, hq5, hf⟩ := ob hf
      refine B_callV0 (s_X12_keepsAll hG hq5) k_264 clX12 m_X12_keepsAll kv_RX12_367 d_X12_breaks_36 rfl (Nat.le_of_ble_eq_true rfl) ⟨rfl, rfl, Nat.le_of_ble_eq_true rfl, Nat.le_of_ble_eq_true rfl, Nat.le_of_ble_eq_true rfl⟩ (fun n => ?_)
      refine V_iconst (v := 0) d_X12_breaks_39 ic_0 ?_
      refine V_istore_n (ls' := [_, _, _, _]) d_X12_breaks_40 rfl rfl rfl ?_
      refine V_less (ls' := [some _, some _, some _, some _]) ⟨rfl, rfl, rfl, rfl, trivial⟩ ?_
      exact s_X12_breaks_l41 hG hf hK
    · replace hf := iteT (b2i_ne0 c25) hf
      refine V_iconst (v := 0) d_X12_breaks_28 ic_0 ?_
      cases hf
      exact R_i hK d_X12_breaks_29 (Nat.le_of_ble_eq_true rfl) (Nat.le_of_ble_eq_true rfl)
  refine V_if_ne (tgt := 20) d_X12_breaks_13 (by decide) (fun c13 => ?_) (fun c13 => ?_)
  · refine V_iconst (v := 0) d_X12_breaks_20 ic_0 ?_
    refine V_less (ls' := [some _, some _, none, none]) ⟨rfl, rfl, trivial⟩ ?_
    exact hJj2 false (by rw [if_pos (b2i_ne0 c13)])
  · refine V_iconst (v := 1) d_X12_breaks_16 ic_1 ?_
    refine V_goto (tgt := 21) d_X12_breaks_17 (by decide) ?_
    refine V_less (ls' := [some _, some _, none, none]) ⟨rfl, rfl, trivial⟩ ?_
    exact hJj2 true (by rw [if_neg (b2i_nt (b2i_eq0 c13))])
theorem s_X12_breaks {G : Gl} (hG : G.1.stackTraces = false) {μ : Mem} {p1 : Int32} {r : (Int32 × Mem)} (hf : f_X12_breaks μ p1 = some r) : Rt G yX12_breaks F_X12_breaks (some .int) [.ref (G.2.1 + 264), .int p1] μ (some (.int r.1)) r.2 := fun n => Sd.of hG ⟨by decide +kernel, rfl, rfl⟩ rfl (Nat.le_of_ble_eq_true rfl) rfl (fun C hK => s_X12_breaks_e hG hf hK)
theorem d_X12_isLostBy_0 : decode cX12_isLostBy 0 = .ok (.aload_n 0, 1) := by decide +kernel
theorem d_X12_isLostBy_1 : decode cX12_isLostBy 1 = .ok (.invokevirtual 367, 3) := by decide +kernel
theorem d_X12_isLostBy_4 : decode cX12_isLostBy 4 = .ok (.aload_n 0, 1) := by decide +kernel
theorem d_X12_isLostBy_5 : decode cX12_isLostBy 5 = .ok (.getfield 13, 3) := by decide +kernel
theorem d_X12_isLostBy_8 : decode cX12_isLostBy 8 = .ok (.iload_n 1, 1) := by decide +kernel
theorem d_X12_isLostBy_9 : decode cX12_isLostBy 9 = .ok (.iconst 4, 1) := by decide +kernel
theorem d_X12_isLostBy_10 : decode cX12_isLostBy 10 = .ok (.invokestatic 67, 3) := by decide +kernel
theorem d_X12_isLostBy_13 : decode cX12_isLostBy 13 = .ok (.sipush 9999, 3) := by decide +kernel
theorem d_X12_isLostBy_16 : decode cX12_isLostBy 16 = .ok (.aload_n 0, 1) := by decide +kernel
theorem d_X12_isLostBy_17 : decode cX12_isLostBy 17 = .ok (.iload_n 1, 1) := by decide +kernel
theorem d_X12_isLostBy_18 : decode cX12_isLostBy 18 = .ok (.iconst 4, 1) := by decide +kernel
theorem d_X12_isLostBy_19 : decode cX12_isLostBy 19 = .ok (.invokevirtual 70, 3) := by decide +kernel
theorem d_X12_isLostBy_22 : decode cX12_isLostBy 22 = .ok (.iload_n 2, 1) := by decide +kernel
theorem d_X12_isLostBy_23 : decode cX12_isLostBy 23 = .ok (.iadd, 1) := by decide +kernel
theorem d_X12_isLostBy_24 : decode cX12_isLostBy 24 = .ok (.invokestatic 87, 3) := by decide +kernel
theorem d_X12_isLostBy_27 : decode cX12_isLostBy 27 = .ok (.iastore, 1) := by decide +kernel
theorem d_X12_isLostBy_28 : decode cX12_isLostBy 28 = .ok (.iconst 0, 1) := by decide +kernel
theorem d_X12_isLostBy_29 : decode cX12_isLostBy 29 = .ok (.istore_n 3, 1) := by decide +kernel
theorem d_X12_isLostBy_30 : decode cX12_isLostBy 30 = .ok (.iload_n 3, 1) := by decide +kernel
theorem d_X12_isLostBy_31 : decode cX12_isLostBy 31 = .ok (.bipush 60, 2) := by decide +kernel
theorem d_X12_isLostBy_33 : decode cX12_isLostBy 33 = .ok (.if_icmp .ge 14, 3) := by decide +kernel
theorem d_X12_isLostBy_36 : decode cX12_isLostBy 36 = .ok (.aload_n 0, 1) := by decide +kernel
theorem d_X12_isLostBy_37 : decode cX12_isLostBy 37 = .ok (.iconst 1, 1) := by decide +kernel
theorem d_X12_isLostBy_38 : decode cX12_isLostBy 38 = .ok (.invokevirtual 363, 3) := by decide +kernel
theorem d_X12_isLostBy_41 : decode cX12_isLostBy 41 = .ok (.iinc 3 1, 3) := by decide +kernel
theorem d_X12_isLostBy_44 : decode cX12_isLostBy 44 = .ok (.goto (-14), 3) := by decide +kernel
theorem d_X12_isLostBy_47 : decode cX12_isLostBy 47 = .ok (.aload_n 0, 1) := by decide +kernel
theorem d_X12_isLostBy_48 : decode cX12_isLostBy 48 = .ok (.iload_n 1, 1) := by decide +kernel
theorem d_X12_isLostBy_49 : decode cX12_isLostBy 49 = .ok (.invokevirtual 299, 3) := by decide +kernel
theorem d_X12_isLostBy_52 : decode cX12_isLostBy 52 = .ok (.istore_n 3, 1) := by decide +kernel
theorem d_X12_isLostBy_53 : decode cX12_isLostBy 53 = .ok (.aload_n 0, 1) := by decide +kernel
theorem d_X12_isLostBy_54 : decode cX12_isLostBy 54 = .ok (.invokevirtual 370, 3) := by decide +kernel
theorem d_X12_isLostBy_57 : decode cX12_isLostBy 57 = .ok (.iload_n 3, 1) := by decide +kernel
theorem d_X12_isLostBy_58 : decode cX12_isLostBy 58 = .ok (.ireturn, 1) := by decide +kernel
theorem s_X12_isLostBy_b30 {G : Gl} (hG : G.1.stackTraces = false) {C : Cx} {n : Nat} {μ : Mem} {l1 : Int32} {l3 : Int32} {y : ((Int32 × Mem) ⊕ Mem)} (hf : f_X12_isLostBy_b30 μ l1 l3 = some y) (hK : (∀ z', y = .inl z' → ∀ n, V G C F_X12_isLostBy 30 [some (.ref (G.2.1 + 264)), some (.int l1), none, some (.int z'.1)] [] (pic G z'.2) n 0 0) ∧ (∀ x', y = .inr x' → ∀ n, V G C F_X12_isLostBy 47 [some (.ref (G.2.1 + 264)), some (.int l1), none, none] [] (pic G x') n 0 0)) : V G C F_X12_isLostBy 30 [some (.ref (G.2.1 + 264)), some (.int l1), none, some (.int l3)] [] (pic G μ) n 0 0 := by
  unfold f_X12_isLostBy_b30 at hf
  refine V_iload_n d_X12_isLostBy_30 rfl rfl ?_
  refine V_bipush (v := 60) d_X12_isLostBy_31 bp_60 ?_
  refine V_icmp_ge (tgt := 47) d_X12_isLostBy_33 (by decide) (fun c33 => ?_) (fun c33 => ?_)
  · replace hf := iteT c33 hf
    refine V_less (ls' := [some _, some _, none, none]) ⟨rfl, rfl, trivial⟩ ?_
    cases hf
    exact hK.2 _ rfl _
  · replace hf := iteF c33 hf
    refine V_aload_n d_X12_isLostBy_36 rfl rfl ?_
    refine V_iconst (v := 1) d_X12_isLostBy_37 ic_1 ?_
    obtain ⟨q1, hq1, hf⟩ := ob hf
    refine B_callV0 (s_X12_oneDay hG hq1) k_264 clX12 m_X12_oneDay kv_RX12_363 d_X12_isLostBy_38 rfl (Nat.le_of_ble_eq_true rfl) ⟨rfl, rfl, Nat.le_of_ble_eq_true rfl, Nat.le_of_ble_eq_true rfl, Nat.le_of_ble_eq_true rfl⟩ (fun n => ?_)
    refine V_iinc (v := (l3 + 1)) (ls' := [_, _, _, _]) d_X12_isLostBy_41 rfl (by rw [ic_1]) rfl ?_
    refine V_goto (tgt := 30) d_X12_isLostBy_44 (by decide) ?_
    refine V_less (ls' := [some _, some _, none, some _]) ⟨rfl, rfl, rfl, trivial⟩ ?_
    cases hf
    exact hK.1 _ rfl _
theorem s_X12_isLostBy_j47 {G : Gl} (hG : G.1.stackTraces = false) {C : Cx} {n : Nat} {μ : Mem} {l1 : Int32} {r : (Bool × Mem)} (hf : f_X12_isLostBy_j47 μ l1 = some r) (hK : FinR G C F_X12_isLostBy (some .boolean) (some (.int (b2i r.1))) r.2) : V G C F_X12_isLostBy 47 [some (.ref (G.2.1 + 264)), some (.int l1), none, none] [] (pic G μ) n 0 0 := by
  unfold f_X12_isLostBy_j47 at hf
  refine V_aload_n d_X12_isLostBy_47 rfl rfl ?_
  refine V_iload_n d_X12_isLostBy_48 rfl rfl ?_
  obtain ⟨t1, ht1, hf⟩ := ob hf
  refine B_callV1 (s_X12_isLost hG ht1) k_264 clX12 m_X12_isLost kv_RX12_299 d_X12_isLostBy_49 rfl (Nat.le_of_ble_eq_true rfl) ⟨rfl, rfl, Nat.le_of_ble_eq_true rfl, Nat.le_of_ble_eq_true rfl, Nat.le_of_ble_eq_true rfl⟩ (fun n => ?_)
  refine V_istore_n (ls' := [_, _, _, _]) d_X12_isLostBy_52 rfl rfl rfl ?_
  refine V_aload_n d_X12_isLostBy_53 rfl rfl ?_
  obtain ⟨q2, hq2, hf⟩ := ob hf
  refine B_callV0 (s_X12_bringsBack hG hq2) k_264 clX12 m_X12_bringsBack kv_RX12_370 d_X12_isLostBy_54 rfl (Nat.le_of_ble_eq_true rfl) ⟨rfl, rfl, Nat.le_of_ble_eq_true rfl, Nat.le_of_ble_eq_true rfl, Nat.le_of_ble_eq_true rfl⟩ (fun n => ?_)
  refine V_iload_n d_X12_isLostBy_57 rfl rfl ?_
  cases hf
  exact R_z hK d_X12_isLostBy_58 (Nat.le_of_ble_eq_true rfl) (Nat.le_of_ble_eq_true rfl)
theorem s_X12_isLostBy_l30 {G : Gl} (hG : G.1.stackTraces = false) {C : Cx} {n : Nat} {μ : Mem} {l1 : Int32} {l3 : Int32} {r : (Bool × Mem)} (hf : f_X12_isLostBy_l30 μ l1 l3 = some r) (hK : FinR G C F_X12_isLostBy (some .boolean) (some (.int (b2i r.1))) r.2) : V G C F_X12_isLostBy 30 [some (.ref (G.2.1 + 264)), some (.int l1), none, some (.int l3)] [] (pic G μ) n 0 0 := by
  unfold f_X12_isLostBy_l30 at hf
  obtain ⟨t, hl, hf⟩ := ob hf
  refine loopV (P := fun z => ∀ n, V G C F_X12_isLostBy 30 [some (.ref (G.2.1 + 264)), some (.int l1), none, some (.int z.1)] [] (pic G z.2) n 0 0) (t := t) ?_ _ _ hl n
  intro z y' hy hI hT n
  refine s_X12_isLostBy_b30 hG hy ⟨hI, fun x9 ex => ?_⟩
  have ex2 := hT x9 ex
  subst ex2
  intro n
  exact s_X12_isLostBy_j47 hG hf hK
theorem s_X12_isLostBy_e {G : Gl} (hG : G.1.stackTraces = false) {C : Cx} {n : Nat} {μ : Mem} {p1 : Int32} {p2 : Int32} {r : (Bool × Mem)} (hf : f_X12_isLostBy μ p1 p2 = some r) (hK : FinR G C F_X12_isLostBy (some .boolean) (some (.int (b2i r.1))) r.2) : V G C F_X12_isLostBy 0 [some (.ref (G.2.1 + 264)), some (.int p1), some (.int p2), none] [] (pic G μ) n 0 0 := by
  unfold f_X12_isLostBy at hf
  refine V_aload_n d_X12_isLostBy_0 rfl rfl ?_
  obtain ⟨q1, hq1, hf⟩ := ob hf
  refine B_callV0 (s_X12_keepsAll hG hq1) k_264 clX12 m_X12_keepsAll kv_RX12_367 d_X12_isLostBy_1 rfl (Nat.le_of_ble_eq_true rfl) ⟨rfl, rfl, Nat.le_of_ble_eq_true rfl, Nat.le_of_ble_eq_true rfl, Nat.le_of_ble_eq_true rfl⟩ (fun n => ?_)
  refine V_aload_n d_X12_isLostBy_4 rfl rfl ?_
  refine B_get k_264 fl_RX12_13 d_X12_isLostBy_5 g_12_1 ?_
  refine V_iload_n d_X12_isLostBy_8 rfl rfl ?_
  refine V_iconst (v := 4) d_X12_isLostBy_9 ic_4 ?_
  obtain ⟨t2, ht2, hf⟩ := ob hf
  refine B_callS1 (s_X12_laceAt hG ht2) m_X12_laceAt ks_RX12_67 d_X12_isLostBy_10 rfl (Nat.le_of_ble_eq_true rfl) ⟨rfl, rfl, Nat.le_of_ble_eq_true rfl, Nat.le_of_ble_eq_true rfl, Nat.le_of_ble_eq_true rfl⟩ (fun n => ?_)
  refine V_sipush (v := 9999) d_X12_isLostBy_13 sp_9999 ?_
  refine V_aload_n d_X12_isLostBy_16 rfl rfl ?_
  refine V_iload_n d_X12_isLostBy_17 rfl rfl ?_
  refine V_iconst (v := 4) d_X12_isLostBy_18 ic_4 ?_
  obtain ⟨t3, ht3, hf⟩ := ob hf
  refine B_callV1 (s_X12_ofLace hG ht3) k_264 clX12 m_X12_ofLace kv_RX12_70 d_X12_isLostBy_19 rfl (Nat.le_of_ble_eq_true rfl) ⟨rfl, rfl, Nat.le_of_ble_eq_true rfl, Nat.le_of_ble_eq_true rfl, Nat.le_of_ble_eq_true rfl⟩ (fun n => ?_)
  refine V_iload_n d_X12_isLostBy_22 rfl rfl ?_
  refine V_iadd d_X12_isLostBy_23 ?_
  obtain ⟨t4, ht4, hf⟩ := ob hf
  refine B_callS1 (s_J9_min_7cf53 hG ht4) m_J9_min_7cf53 ks_RX12_87 d_X12_isLostBy_24 rfl (Nat.le_of_ble_eq_true rfl) ⟨rfl, rfl, Nat.le_of_ble_eq_true rfl, Nat.le_of_ble_eq_true rfl, Nat.le_of_ble_eq_true rfl⟩ (fun n => ?_)
  obtain ⟨μ5, hμ5, hf⟩ := ob hf
  refine B_iast k_265 hμ5 d_X12_isLostBy_27 ?_
  refine V_iconst (v := 0) d_X12_isLostBy_28 ic_0 ?_
  refine V_istore_n (ls' := [_, _, _, _]) d_X12_isLostBy_29 rfl rfl rfl ?_
  refine V_less (ls' := [some _, some _, none, some _]) ⟨rfl, rfl, rfl, trivial⟩ ?_
  exact s_X12_isLostBy_l30 hG hf hK
theorem s_X12_isLostBy {G : Gl} (hG : G.1.stackTraces = false) {μ : Mem} {p1 : Int32} {p2 : Int32} {r : (Bool × Mem)} (hf : f_X12_isLostBy μ p1 p2 = some r) : Rt G yX12_isLostBy F_X12_isLostBy (some .boolean) [.ref (G.2.1 + 264), .int p1, .int p2] μ (some (.int (b2i r.1))) r.2 := fun n => Sd.of hG ⟨by decide +kernel, rfl, rfl⟩ rfl (Nat.le_of_ble_eq_true rfl) rfl (fun C hK => s_X12_isLostBy_e hG hf hK)
theorem d_X12_mercy_0 : decode cX12_mercy 0 = .ok (.aload_n 0, 1) := by decide +kernel
theorem d_X12_mercy_1 : decode cX12_mercy 1 = .ok (.iconst 0, 1) := by decide +kernel
theorem d_X12_mercy_2 : decode cX12_mercy 2 = .ok (.putfield 3, 3) := by decide +kernel
theorem d_X12_mercy_5 : decode cX12_mercy 5 = .ok (.aload_n 0, 1) := by decide +kernel
theorem d_X12_mercy_6 : decode cX12_mercy 6 = .ok (.aload_n 0, 1) := by decide +kernel
theorem d_X12_mercy_7 : decode cX12_mercy 7 = .ok (.iload_n 1, 1) := by decide +kernel
theorem d_X12_mercy_8 : decode cX12_mercy 8 = .ok (.invokevirtual 317, 3) := by decide +kernel
theorem d_X12_mercy_11 : decode cX12_mercy 11 = .ok (.iconst 1, 1) := by decide +kernel
theorem d_X12_mercy_12 : decode cX12_mercy 12 = .ok (.invokevirtual 263, 3) := by decide +kernel
theorem d_X12_mercy_15 : decode cX12_mercy 15 = .ok (.ifCond .eq 5, 3) := by decide +kernel
theorem d_X12_mercy_18 : decode cX12_mercy 18 = .ok (.iconst 0, 1) := by decide +kernel
theorem d_X12_mercy_19 : decode cX12_mercy 19 = .ok (.ireturn, 1) := by decide +kernel
theorem d_X12_mercy_20 : decode cX12_mercy 20 = .ok (.aload_n 0, 1) := by decide +kernel
theorem d_X12_mercy_21 : decode cX12_mercy 21 = .ok (.iload_n 1, 1) := by decide +kernel
theorem d_X12_mercy_22 : decode cX12_mercy 22 = .ok (.invokevirtual 296, 3) := by decide +kernel
theorem d_X12_mercy_25 : decode cX12_mercy 25 = .ok (.ifCond .ne 5, 3) := by decide +kernel
theorem d_X12_mercy_28 : decode cX12_mercy 28 = .ok (.iconst (-1), 1) := by decide +kernel
theorem d_X12_mercy_29 : decode cX12_mercy 29 = .ok (.ireturn, 1) := by decide +kernel
theorem d_X12_mercy_30 : decode cX12_mercy 30 = .ok (.iconst 0, 1) := by decide +kernel
theorem d_X12_mercy_31 : decode cX12_mercy 31 = .ok (.istore_n 2, 1) := by decide +kernel
theorem d_X12_mercy_32 : decode cX12_mercy 32 = .ok (.iload_n 2, 1) := by decide +kernel
theorem d_X12_mercy_33 : decode cX12_mercy 33 = .ok (.bipush 30, 2) := by decide +kernel
theorem d_X12_mercy_35 : decode cX12_mercy 35 = .ok (.if_icmp .gt 20, 3) := by decide +kernel
theorem d_X12_mercy_38 : decode cX12_mercy 38 = .ok (.aload_n 0, 1) := by decide +kernel
theorem d_X12_mercy_39 : decode cX12_mercy 39 = .ok (.iload_n 1, 1) := by decide +kernel
theorem d_X12_mercy_40 : decode cX12_mercy 40 = .ok (.iload_n 2, 1) := by decide +kernel
theorem d_X12_mercy_41 : decode cX12_mercy 41 = .ok (.invokevirtual 407, 3) := by decide +kernel
theorem d_X12_mercy_44 : decode cX12_mercy 44 = .ok (.ifCond .ne 5, 3) := by decide +kernel
theorem d_X12_mercy_47 : decode cX12_mercy 47 = .ok (.iload_n 2, 1) := by decide +kernel
theorem d_X12_mercy_48 : decode cX12_mercy 48 = .ok (.ireturn, 1) := by decide +kernel
theorem d_X12_mercy_49 : decode cX12_mercy 49 = .ok (.iinc 2 1, 3) := by decide +kernel
theorem d_X12_mercy_52 : decode cX12_mercy 52 = .ok (.goto (-20), 3) := by decide +kernel
theorem d_X12_mercy_55 : decode cX12_mercy 55 = .ok (.iconst (-1), 1) := by decide +kernel
theorem d_X12_mercy_56 : decode cX12_mercy 56 = .ok (.ireturn, 1) := by decide +kernel
theorem s_X12_mercy_b32 {G : Gl} (hG : G.1.stackTraces = false) {C : Cx} {n : Nat} {μ : Mem} {l1 : Int32} {l2 : Int32} {y : ((Int32 × Mem) ⊕ (Mem ⊕ (Int32 × Mem)))} (hf : f_X12_mercy_b32 μ l1 l2 = some y) (hK : (∀ z', y = .inl z' → ∀ n, V G C F_X12_mercy 32 [some (.ref (G.2.1 + 264)), some (.int l1), some (.int z'.1)] [] (pic G z'.2) n 0 0) ∧ (∀ x', y = .inr x' → ((∀ x'', x' = .inl x'' → ∀ n, V G C F_X12_mercy 55 [none, none, none] [] (pic G x'') n 0 0) ∧ (∀ x''', x' = .inr x''' → FinR G C F_X12_mercy (some .int) (some (.int x'''.1)) x'''.2)))) : V G C F_X12_mercy 32 [some (.ref (G.2.1 + 264)), some (.int l1), some (.int l2)] [] (pic G μ) n 0 0 := by
  unfold f_X12_mercy_b32 at hf
  refine V_iload_n d_X12_mercy_32 rfl rfl ?_
  refine V_bipush (v := 30) d_X12_mercy_33 bp_30 ?_
  refine V_icmp_gt (tgt := 55) d_X12_mercy_35 (by decide) (fun c35 => ?_) (fun c35 => ?_)
  · replace hf := iteT c35 hf
    refine V_less (ls' := [none, none, none]) trivial ?_
    cases hf
    exact (hK.2 _ rfl).1 _ rfl _
  · replace hf := iteF c35 hf
    refine V_aload_n d_X12_mercy_38 rfl rfl ?_
    refine V_iload_n d_X12_mercy_39 rfl rfl ?_
    refine V_iload_n d_X12_mercy_40 rfl rfl ?_
    obtain ⟨q1, hq1, hf⟩ := ob hf
    refine B_callV1 (s_X12_isLostBy hG hq1) k_264 clX12 m_X12_isLostBy kv_RX12_407 d_X12_mercy_41 rfl (Nat.le_of_ble_eq_true rfl) ⟨rfl, rfl, Nat.le_of_ble_eq_true rfl, Nat.le_of_ble_eq_true rfl, Nat.le_of_ble_eq_true rfl⟩ (fun n => ?_)
    refine V_if_ne (tgt := 49) d_X12_mercy_44 (by decide) (fun c44 => ?_) (fun c44 => ?_)
    · replace hf := iteT (b2i_ne0 c44) hf
      refine V_iinc (v := (l2 + 1)) (ls' := [_, _, _]) d_X12_mercy_49 rfl (by rw [ic_1]) rfl ?_
      refine V_goto (tgt := 32) d_X12_mercy_52 (by decide) ?_
      refine V_less (ls' := [some _, some _, some _]) ⟨rfl, rfl, rfl, trivial⟩ ?_
      cases hf
      exact hK.1 _ rfl _
    · replace hf := iteF (b2i_nt (b2i_eq0 c44)) hf
      refine V_iload_n d_X12_mercy_47 rfl rfl ?_
      cases hf
      exact R_i ((hK.2 _ rfl).2 _ rfl) d_X12_mercy_48 (Nat.le_of_ble_eq_true rfl) (Nat.le_of_ble_eq_true rfl)
theorem s_X12_mercy_j55 {G : Gl} (hG : G.1.stackTraces = false) {C : Cx} {n : Nat} {μ : Mem}  {r : (Int32 × Mem)} (hf : f_X12_mercy_j55 μ = some r) (hK : FinR G C F_X12_mercy (some .int) (some (.int r.1)) r.2) : V G C F_X12_mercy 55 [none, none, none] [] (pic G μ) n 0 0 := by
  unfold f_X12_mercy_j55 at hf
  refine V_iconst (v := (-1)) d_X12_mercy_55 ic_m1 ?_
  cases hf
  exact R_i hK d_X12_mercy_56 (Nat.le_of_ble_eq_true rfl) (Nat.le_of_ble_eq_true rfl)
theorem s_X12_mercy_l32 {G : Gl} (hG : G.1.stackTraces = false) {C : Cx} {n : Nat} {μ : Mem} {l1 : Int32} {l2 : Int32} {r : (Int32 × Mem)} (hf : f_X12_mercy_l32 μ l1 l2 = some r) (hK : FinR G C F_X12_mercy (some .int) (some (.int r.1)) r.2) : V G C F_X12_mercy 32 [some (.ref (G.2.1 + 264)), some (.int l1), some (.int l2)] [] (pic G μ) n 0 0 := by
  unfold f_X12_mercy_l32 at hf
  obtain ⟨t, hl, hf⟩ := ob hf
  refine loopV (P := fun z => ∀ n, V G C F_X12_mercy 32 [some (.ref (G.2.1 + 264)), some (.int l1), some (.int z.1)] [] (pic G z.2) n 0 0) (t := t) ?_ _ _ hl n
  intro z y' hy hI hT n
  refine s_X12_mercy_b32 hG hy ⟨hI, fun x9 ex => ?_⟩
  have ex2 := hT x9 ex
  subst ex2
  refine ⟨fun e he => ?_, fun x2 hx => ?_⟩
  · subst he
    intro n
    exact s_X12_mercy_j55 hG hf hK
  · subst hx
    cases hf
    exact hK
theorem s_X12_mercy_e {G : Gl} (hG : G.1.stackTraces = false) {C : Cx} {n : Nat} {μ : Mem} {p1 : Int32} {r : (Int32 × Mem)} (hf : f_X12_mercy μ p1 = some r) (hK : FinR G C F_X12_mercy (some .int) (some (.int r.1)) r.2) : V G C F_X12_mercy 0 [some (.ref (G.2.1 + 264)), some (.int p1), none] [] (pic G μ) n 0 0 := by
  unfold f_X12_mercy at hf
  refine V_aload_n d_X12_mercy_0 rfl rfl ?_
  refine V_iconst (v := 0) d_X12_mercy_1 ic_0 ?_
  refine B_putI k_264 fl_RX12_3 pt_12_0 (Nat.le_of_ble_eq_true rfl) p_12_0 d_X12_mercy_2 ?_
  refine V_aload_n d_X12_mercy_5 rfl rfl ?_
  refine V_aload_n d_X12_mercy_6 rfl rfl ?_
  refine V_iload_n d_X12_mercy_7 rfl rfl ?_
  obtain ⟨t1, ht1, hf⟩ := ob hf
  refine B_callV1 (s_X12_noLace hG ht1) k_264 clX12 m_X12_noLace kv_RX12_317 d_X12_mercy_8 rfl (Nat.le_of_ble_eq_true rfl) ⟨rfl, rfl, Nat.le_of_ble_eq_true rfl, Nat.le_of_ble_eq_true rfl, Nat.le_of_ble_eq_true rfl⟩ (fun n => ?_)
  refine V_iconst (v := 1) d_X12_mercy_11 ic_1 ?_
  obtain ⟨q2, hq2, hf⟩ := ob hf
  refine B_callV1 (s_X12_throwsIf hG hq2) k_264 clX12 m_X12_throwsIf kv_RX12_263 d_X12_mercy_12 rfl (Nat.le_of_ble_eq_true rfl) ⟨rfl, rfl, Nat.le_of_ble_eq_true rfl, Nat.le_of_ble_eq_true rfl, Nat.le_of_ble_eq_true rfl⟩ (fun n => ?_)
  refine V_if_eq (tgt := 20) d_X12_mercy_15 (by decide) (fun c15 => ?_) (fun c15 => ?_)
  · replace hf := iteF (b2i_nt (b2i_eq0 c15)) hf
    refine V_aload_n d_X12_mercy_20 rfl rfl ?_
    refine V_iload_n d_X12_mercy_21 rfl rfl ?_
    obtain ⟨t3, ht3, hf⟩ := ob hf
    refine B_callV1 (s_X12_isPledged hG ht3) k_264 clX12 m_X12_isPledged kv_RX12_296 d_X12_mercy_22 rfl (Nat.le_of_ble_eq_true rfl) ⟨rfl, rfl, Nat.le_of_ble_eq_true rfl, Nat.le_of_ble_eq_true rfl, Nat.le_of_ble_eq_true rfl⟩ (fun n => ?_)
    refine V_if_ne (tgt := 30) d_X12_mercy_25 (by decide) (fun c25 => ?_) (fun c25 => ?_)
    · replace hf := iteT (b2i_ne0 c25) hf
      refine V_iconst (v := 0) d_X12_mercy_30 ic_0 ?_
      refine V_istore_n (ls' := [_, _, _]) d_X12_mercy_31 rfl rfl rfl ?_
      refine V_less (ls' := [some _, some _, some _]) ⟨rfl, rfl, rfl, trivial⟩ ?_
      exact s_X12_mercy_l32 hG hf hK
    · replace hf := iteF (b2i_nt (b2i_eq0 c25)) hf
      refine V_iconst (v := (-1)) d_X12_mercy_28 ic_m1 ?_
      cases hf
      exact R_i hK d_X12_mercy_29 (Nat.le_of_ble_eq_true rfl) (Nat.le_of_ble_eq_true rfl)
  · replace hf := iteT (b2i_ne0 c15) hf
    refine V_iconst (v := 0) d_X12_mercy_18 ic_0 ?_
    cases hf
    exact R_i hK d_X12_mercy_19 (Nat.le_of_ble_eq_true rfl) (Nat.le_of_ble_eq_true rfl)
theorem s_X12_mercy {G : Gl} (hG : G.1.stackTraces = false) {μ : Mem} {p1 : Int32} {r : (Int32 × Mem)} (hf : f_X12_mercy μ p1 = some r) : Rt G yX12_mercy F_X12_mercy (some .int) [.ref (G.2.1 + 264), .int p1] μ (some (.int r.1)) r.2 := fun n => Sd.of hG ⟨by decide +kernel, rfl, rfl⟩ rfl (Nat.le_of_ble_eq_true rfl) rfl (fun C hK => s_X12_mercy_e hG hf hK)
theorem d_X12_hangsOn_0 : decode cX12_hangsOn 0 = .ok (.iconst 0, 1) := by decide +kernel
theorem d_X12_hangsOn_1 : decode cX12_hangsOn 1 = .ok (.istore_n 2, 1) := by decide +kernel
theorem d_X12_hangsOn_2 : decode cX12_hangsOn 2 = .ok (.iconst 0, 1) := by decide +kernel
theorem d_X12_hangsOn_3 : decode cX12_hangsOn 3 = .ok (.istore_n 3, 1) := by decide +kernel
theorem d_X12_hangsOn_4 : decode cX12_hangsOn 4 = .ok (.iload_n 3, 1) := by decide +kernel
theorem d_X12_hangsOn_5 : decode cX12_hangsOn 5 = .ok (.aload_n 0, 1) := by decide +kernel
theorem d_X12_hangsOn_6 : decode cX12_hangsOn 6 = .ok (.invokevirtual 77, 3) := by decide +kernel
theorem d_X12_hangsOn_9 : decode cX12_hangsOn 9 = .ok (.if_icmp .ge 37, 3) := by decide +kernel
theorem d_X12_hangsOn_12 : decode cX12_hangsOn 12 = .ok (.iload_n 2, 1) := by decide +kernel
theorem d_X12_hangsOn_13 : decode cX12_hangsOn 13 = .ok (.aload_n 0, 1) := by decide +kernel
theorem d_X12_hangsOn_14 : decode cX12_hangsOn 14 = .ok (.iload_n 3, 1) := by decide +kernel
theorem d_X12_hangsOn_15 : decode cX12_hangsOn 15 = .ok (.invokevirtual 296, 3) := by decide +kernel
theorem d_X12_hangsOn_18 : decode cX12_hangsOn 18 = .ok (.ifCond .eq 19, 3) := by decide +kernel
theorem d_X12_hangsOn_21 : decode cX12_hangsOn 21 = .ok (.aload_n 0, 1) := by decide +kernel
theorem d_X12_hangsOn_22 : decode cX12_hangsOn 22 = .ok (.iload_n 3, 1) := by decide +kernel
theorem d_X12_hangsOn_23 : decode cX12_hangsOn 23 = .ok (.iconst 5, 1) := by decide +kernel
theorem d_X12_hangsOn_24 : decode cX12_hangsOn 24 = .ok (.invokevirtual 70, 3) := by decide +kernel
theorem d_X12_hangsOn_27 : decode cX12_hangsOn 27 = .ok (.iload_n 1, 1) := by decide +kernel
theorem d_X12_hangsOn_28 : decode cX12_hangsOn 28 = .ok (.if_icmp .ne 9, 3) := by decide +kernel
theorem d_X12_hangsOn_31 : decode cX12_hangsOn 31 = .ok (.iconst 1, 1) := by decide +kernel
theorem d_X12_hangsOn_32 : decode cX12_hangsOn 32 = .ok (.iload_n 3, 1) := by decide +kernel
theorem d_X12_hangsOn_33 : decode cX12_hangsOn 33 = .ok (.ishl, 1) := by decide +kernel
theorem d_X12_hangsOn_34 : decode cX12_hangsOn 34 = .ok (.goto 4, 3) := by decide +kernel
theorem d_X12_hangsOn_37 : decode cX12_hangsOn 37 = .ok (.iconst 0, 1) := by decide +kernel
theorem d_X12_hangsOn_38 : decode cX12_hangsOn 38 = .ok (.ior, 1) := by decide +kernel
theorem d_X12_hangsOn_39 : decode cX12_hangsOn 39 = .ok (.istore_n 2, 1) := by decide +kernel
theorem d_X12_hangsOn_40 : decode cX12_hangsOn 40 = .ok (.iinc 3 1, 3) := by decide +kernel
theorem d_X12_hangsOn_43 : decode cX12_hangsOn 43 = .ok (.goto (-39), 3) := by decide +kernel
theorem d_X12_hangsOn_46 : decode cX12_hangsOn 46 = .ok (.iload_n 2, 1) := by decide +kernel
theorem d_X12_hangsOn_47 : decode cX12_hangsOn 47 = .ok (.ireturn, 1) := by decide +kernel
theorem s_X12_hangsOn_j38_4 {G : Gl} (hG : G.1.stackTraces = false) {C : Cx} {n : Nat} {μ : Mem} {l1 : Int32} {l3 : Int32} {k0 : Int32} {k1 : Int32} {y : ((Int32 × Int32) ⊕ Int32)} (hf : f_X12_hangsOn_j38_4 μ l1 l3 k0 k1 = some y) (hK : (∀ z', y = .inl z' → ∀ n, V G C F_X12_hangsOn 4 [some (.ref (G.2.1 + 264)), some (.int l1), some (.int z'.1), some (.int z'.2)] [] (pic G μ) n 0 0) ∧ (∀ x', y = .inr x' → ∀ n, V G C F_X12_hangsOn 46 [none, none, some (.int x'), none] [] (pic G μ) n 0 0)) : V G C F_X12_hangsOn 38 [some (.ref (G.2.1 + 264)), some (.int l1), none, some (.int l3)] [.int k1, .int k0] (pic G μ) n 0 0 := by
  unfold f_X12_hangsOn_j38_4 at hf
  refine V_ior d_X12_hangsOn_38 ?_
  refine V_istore_n (ls' := [_, _, _, _]) d_X12_hangsOn_39 rfl rfl rfl ?_
  refine V_iinc (v := (l3 + 1)) (ls' := [_, _, _, _]) d_X12_hangsOn_40 rfl (by rw [ic_1]) rfl ?_
  refine V_goto (tgt := 4) d_X12_hangsOn_43 (by decide) ?_
  refine V_less (ls' := [some _, some _, some _, some _]) ⟨rfl, rfl, rfl, rfl, trivial⟩ ?_
  cases hf
  exact hK.1 _ rfl _
theorem s_X12_hangsOn_j37_4 {G : Gl} (hG : G.1.stackTraces = false) {C : Cx} {n : Nat} {μ : Mem} {l1 : Int32} {l3 : Int32} {k0 : Int32} {y : ((Int32 × Int32) ⊕ Int32)} (hf : f_X12_hangsOn_j37_4 μ l1 l3 k0 = some y) (hK : (∀ z', y = .inl z' → ∀ n, V G C F_X12_hangsOn 4 [some (.ref (G.2.1 + 264)), some (.int l1), some (.int z'.1), some (.int z'.2)] [] (pic G μ) n 0 0) ∧ (∀ x', y = .inr x' → ∀ n, V G C F_X12_hangsOn 46 [none, none, some (.int x'), none] [] (pic G μ) n 0 0)) : V G C F_X12_hangsOn 37 [some (.ref (G.2.1 + 264)), some (.int l1), none, some (.int l3)] [.int k0] (pic G μ) n 0 0 := by
  unfold f_X12_hangsOn_j37_4 at hf
  refine V_iconst (v := 0) d_X12_hangsOn_37 ic_0 ?_
  refine V_less (ls' := [some _, some _, none, some _]) ⟨rfl, rfl, rfl, trivial⟩ ?_
  exact s_X12_hangsOn_j38_4 hG hf hK
theorem s_X12_hangsOn_b4 {G : Gl} (hG : G.1.stackTraces = false) {C : Cx} {n : Nat} {μ : Mem} {l1 : Int32} {l2 : Int32} {l3 : Int32} {y : ((Int32 × Int32) ⊕ Int32)} (hf : f_X12_hangsOn_b4 μ l1 l2 l3 = some y) (hK : (∀ z', y = .inl z' → ∀ n, V G C F_X12_hangsOn 4 [some (.ref (G.2.1 + 264)), some (.int l1), some (.int z'.1), some (.int z'.2)] [] (pic G μ) n 0 0) ∧ (∀ x', y = .inr x' → ∀ n, V G C F_X12_hangsOn 46 [none, none, some (.int x'), none] [] (pic G μ) n 0 0)) : V G C F_X12_hangsOn 4 [some (.ref (G.2.1 + 264)), some (.int l1), some (.int l2), some (.int l3)] [] (pic G μ) n 0 0 := by
  unfold f_X12_hangsOn_b4 at hf
  refine V_iload_n d_X12_hangsOn_4 rfl rfl ?_
  refine V_aload_n d_X12_hangsOn_5 rfl rfl ?_
  obtain ⟨t1, ht1, hf⟩ := ob hf
  refine B_callV1 (s_X12_laces hG ht1) k_264 clX12 m_X12_laces kv_RX12_77 d_X12_hangsOn_6 rfl (Nat.le_of_ble_eq_true rfl) ⟨rfl, rfl, Nat.le_of_ble_eq_true rfl, Nat.le_of_ble_eq_true rfl, Nat.le_of_ble_eq_true rfl⟩ (fun n => ?_)
  refine V_icmp_ge (tgt := 46) d_X12_hangsOn_9 (by decide) (fun c9 => ?_) (fun c9 => ?_)
  · replace hf := iteT c9 hf
    refine V_less (ls' := [none, none, some _, none]) ⟨rfl, trivial⟩ ?_
    cases hf
    exact hK.2 _ rfl _
  · replace hf := iteF c9 hf
    refine V_iload_n d_X12_hangsOn_12 rfl rfl ?_
    refine V_aload_n d_X12_hangsOn_13 rfl rfl ?_
    refine V_iload_n d_X12_hangsOn_14 rfl rfl ?_
    obtain ⟨t2, ht2, hf⟩ := ob hf
    refine B_callV1 (s_X12_isPledged hG ht2) k_264 clX12 m_X12_isPledged kv_RX12_296 d_X12_hangsOn_15 rfl (Nat.le_of_ble_eq_true rfl) ⟨rfl, rfl, Nat.le_of_ble_eq_true rfl, Nat.le_of_ble_eq_true rfl, Nat.le_of_ble_eq_true rfl⟩ (fun n => ?_)
    refine V_if_eq (tgt := 37) d_X12_hangsOn_18 (by decide) (fun c18 => ?_) (fun c18 => ?_)
    · replace hf := iteF (b2i_nt (b2i_eq0 c18)) hf
      refine V_less (ls' := [some _, some _, none, some _]) ⟨rfl, rfl, rfl, trivial⟩ ?_
      exact s_X12_hangsOn_j37_4 hG hf hK
    · replace hf := iteT (b2i_ne0 c18) hf
      refine V_aload_n d_X12_hangsOn_21 rfl rfl ?_
      refine V_iload_n d_X12_hangsOn_22 rfl rfl ?_
      refine V_iconst (v := 5) d_X12_hangsOn_23 ic_5 ?_
      obtain ⟨t3, ht3, hf⟩ := ob hf
      refine B_callV1 (s_X12_ofLace hG ht3) k_264 clX12 m_X12_ofLace kv_RX12_70 d_X12_hangsOn_24 rfl (Nat.le_of_ble_eq_true rfl) ⟨rfl, rfl, Nat.le_of_ble_eq_true rfl, Nat.le_of_ble_eq_true rfl, Nat.le_of_ble_eq_true rfl⟩ (fun n => ?_)
      refine V_iload_n d_X12_hangsOn_27 rfl rfl ?_
      have hJj4 : ∀ j4 : Int32, j4 = (if t3 = l1 then ((1 <<< (l3 &&& 31)) : Int32) else 0) → V G C F_X12_hangsOn 38 [some (.ref (G.2.1 + 264)), some (.int l1), none, some (.int l3)] [.int j4, .int l2] (pic G μ) n 0 0 := by
        intro j4 ej4
        subst ej4
        refine V_ior d_X12_hangsOn_38 ?_
        refine V_istore_n (ls' := [_, _, _, _]) d_X12_hangsOn_39 rfl rfl rfl ?_
        refine V_iinc (v := (l3 + 1)) (ls' := [_, _, _, _]) d_X12_hangsOn_40 rfl (by rw [ic_1]) rfl ?_
        refine V_goto (tgt := 4) d_X12_hangsOn_43 (by decide) ?_
        refine V_less (ls' := [some _, some _, some _, some _]) ⟨rfl, rfl, rfl, rfl, trivial⟩ ?_
        cases hf
        exact hK.1 _ rfl _
      refine V_icmp_ne (tgt := 37) d_X12_hangsOn_28 (by decide) (fun c28 => ?_) (fun c28 => ?_)
      · refine V_iconst (v := 0) d_X12_hangsOn_37 ic_0 ?_
        refine V_less (ls' := [some _, some _, none, some _]) ⟨rfl, rfl, rfl, trivial⟩ ?_
        exact hJj4 0 (by rw [if_neg c28])
      · refine V_iconst (v := 1) d_X12_hangsOn_31 ic_1 ?_
        refine V_iload_n d_X12_hangsOn_32 rfl rfl ?_
        refine V_ishl d_X12_hangsOn_33 ?_
        refine V_goto (tgt := 38) d_X12_hangsOn_34 (by decide) ?_
        refine V_less (ls' := [some _, some _, none, some _]) ⟨rfl, rfl, rfl, trivial⟩ ?_
        exact hJj4 (1 <<< (l3 &&& 31)) (by rw [if_pos c28])
theorem s_X12_hangsOn_j46 {G : Gl} (hG : G.1.stackTraces = false) {C : Cx} {n : Nat} {μ : Mem} {l2 : Int32} {r : Int32} (hf : f_X12_hangsOn_j46 μ l2 = some r) (hK : FinR G C F_X12_hangsOn (some .int) (some (.int r)) μ) : V G C F_X12_hangsOn 46 [none, none, some (.int l2), none] [] (pic G μ) n 0 0 := by
  unfold f_X12_hangsOn_j46 at hf
  refine V_iload_n d_X12_hangsOn_46 rfl rfl ?_
  cases hf
  exact R_i hK d_X12_hangsOn_47 (Nat.le_of_ble_eq_true rfl) (Nat.le_of_ble_eq_true rfl)
theorem s_X12_hangsOn_l4 {G : Gl} (hG : G.1.stackTraces = false) {C : Cx} {n : Nat} {μ : Mem} {l1 : Int32} {l2 : Int32} {l3 : Int32} {r : Int32} (hf : f_X12_hangsOn_l4 μ l1 l2 l3 = some r) (hK : FinR G C F_X12_hangsOn (some .int) (some (.int r)) μ) : V G C F_X12_hangsOn 4 [some (.ref (G.2.1 + 264)), some (.int l1), some (.int l2), some (.int l3)] [] (pic G μ) n 0 0 := by
  unfold f_X12_hangsOn_l4 at hf
  obtain ⟨t, hl, hf⟩ := ob hf
  refine loopV (P := fun z => ∀ n, V G C F_X12_hangsOn 4 [some (.ref (G.2.1 + 264)), some (.int l1), some (.int z.1), some (.int z.2)] [] (pic G μ) n 0 0) (t := t) ?_ _ _ hl n
  intro z y' hy hI hT n
  refine s_X12_hangsOn_b4 hG hy ⟨hI, fun x9 ex => ?_⟩
  have ex2 := hT x9 ex
  subst ex2
  intro n
  exact s_X12_hangsOn_j46 hG hf hK
theorem s_X12_hangsOn_e {G : Gl} (hG : G.1.stackTraces = false) {C : Cx} {n : Nat} {μ : Mem} {p1 : Int32} {r : Int32} (hf : f_X12_hangsOn μ p1 = some r) (hK : FinR G C F_X12_hangsOn (some .int) (some (.int r)) μ) : V G C F_X12_hangsOn 0 [some (.ref (G.2.1 + 264)), some (.int p1), none, none] [] (pic G μ) n 0 0 := by
  unfold f_X12_hangsOn at hf
  refine V_iconst (v := 0) d_X12_hangsOn_0 ic_0 ?_
  refine V_istore_n (ls' := [_, _, _, _]) d_X12_hangsOn_1 rfl rfl rfl ?_
  refine V_iconst (v := 0) d_X12_hangsOn_2 ic_0 ?_
  refine V_istore_n (ls' := [_, _, _, _]) d_X12_hangsOn_3 rfl rfl rfl ?_
  refine V_less (ls' := [some _, some _, some _, some _]) ⟨rfl, rfl, rfl, rfl, trivial⟩ ?_
  exact s_X12_hangsOn_l4 hG hf hK
theorem s_X12_hangsOn {G : Gl} (hG : G.1.stackTraces = false) {μ : Mem} {p1 : Int32} {r : Int32} (hf : f_X12_hangsOn μ p1 = some r) : Rt G yX12_hangsOn F_X12_hangsOn (some .int) [.ref (G.2.1 + 264), .int p1] μ (some (.int r)) μ := fun n => Sd.of hG ⟨by decide +kernel, rfl, rfl⟩ rfl (Nat.le_of_ble_eq_true rfl) rfl (fun C hK => s_X12_hangsOn_e hG hf hK)
theorem d_X12_hangs_0 : decode cX12_hangs 0 = .ok (.aload_n 0, 1) := by decide +kernel
theorem d_X12_hangs_1 : decode cX12_hangs 1 = .ok (.iconst 0, 1) := by decide +kernel
theorem d_X12_hangs_2 : decode cX12_hangs 2 = .ok (.putfield 3, 3) := by decide +kernel
theorem d_X12_hangs_5 : decode cX12_hangs 5 = .ok (.aload_n 0, 1) := by decide +kernel
theorem d_X12_hangs_6 : decode cX12_hangs 6 = .ok (.aload_n 0, 1) := by decide +kernel
theorem d_X12_hangs_7 : decode cX12_hangs 7 = .ok (.iload_n 1, 1) := by decide +kernel
theorem d_X12_hangs_8 : decode cX12_hangs 8 = .ok (.invokevirtual 305, 3) := by decide +kernel
theorem d_X12_hangs_11 : decode cX12_hangs 11 = .ok (.iconst 1, 1) := by decide +kernel
theorem d_X12_hangs_12 : decode cX12_hangs 12 = .ok (.invokevirtual 263, 3) := by decide +kernel
theorem d_X12_hangs_15 : decode cX12_hangs 15 = .ok (.ifCond .eq 7, 3) := by decide +kernel
theorem d_X12_hangs_18 : decode cX12_hangs 18 = .ok (.iconst 0, 1) := by decide +kernel
theorem d_X12_hangs_19 : decode cX12_hangs 19 = .ok (.goto 8, 3) := by decide +kernel
theorem d_X12_hangs_22 : decode cX12_hangs 22 = .ok (.aload_n 0, 1) := by decide +kernel
theorem d_X12_hangs_23 : decode cX12_hangs 23 = .ok (.iload_n 1, 1) := by decide +kernel
theorem d_X12_hangs_24 : decode cX12_hangs 24 = .ok (.invokevirtual 410, 3) := by decide +kernel
theorem d_X12_hangs_27 : decode cX12_hangs 27 = .ok (.ireturn, 1) := by decide +kernel
theorem s_X12_hangs_j27 {G : Gl} (hG : G.1.stackTraces = false) {C : Cx} {n : Nat} {μ : Mem} {k0 : Int32} {r : (Int32 × Mem)} (hf : f_X12_hangs_j27 μ k0 = some r) (hK : FinR G C F_X12_hangs (some .int) (some (.int r.1)) r.2) : V G C F_X12_hangs 27 [none, none] [.int k0] (pic G μ) n 0 0 := by
  unfold f_X12_hangs_j27 at hf
  cases hf
  exact R_i hK d_X12_hangs_27 (Nat.le_of_ble_eq_true rfl) (Nat.le_of_ble_eq_true rfl)
theorem s_X12_hangs_e {G : Gl} (hG : G.1.stackTraces = false) {C : Cx} {n : Nat} {μ : Mem} {p1 : Int32} {r : (Int32 × Mem)} (hf : f_X12_hangs μ p1 = some r) (hK : FinR G C F_X12_hangs (some .int) (some (.int r.1)) r.2) : V G C F_X12_hangs 0 [some (.ref (G.2.1 + 264)), some (.int p1)] [] (pic G μ) n 0 0 := by
  unfold f_X12_hangs at hf
  refine V_aload_n d_X12_hangs_0 rfl rfl ?_
  refine V_iconst (v := 0) d_X12_hangs_1 ic_0 ?_
  refine B_putI k_264 fl_RX12_3 pt_12_0 (Nat.le_of_ble_eq_true rfl) p_12_0 d_X12_hangs_2 ?_
  refine V_aload_n d_X12_hangs_5 rfl rfl ?_
  refine V_aload_n d_X12_hangs_6 rfl rfl ?_
  refine V_iload_n d_X12_hangs_7 rfl rfl ?_
  obtain ⟨t1, ht1, hf⟩ := ob hf
  refine B_callV1 (s_X12_noPerson hG ht1) k_264 clX12 m_X12_noPerson kv_RX12_305 d_X12_hangs_8 rfl (Nat.le_of_ble_eq_true rfl) ⟨rfl, rfl, Nat.le_of_ble_eq_true rfl, Nat.le_of_ble_eq_true rfl, Nat.le_of_ble_eq_true rfl⟩ (fun n => ?_)
  refine V_iconst (v := 1) d_X12_hangs_11 ic_1 ?_
  obtain ⟨q2, hq2, hf⟩ := ob hf
  refine B_callV1 (s_X12_throwsIf hG hq2) k_264 clX12 m_X12_throwsIf kv_RX12_263 d_X12_hangs_12 rfl (Nat.le_of_ble_eq_true rfl) ⟨rfl, rfl, Nat.le_of_ble_eq_true rfl, Nat.le_of_ble_eq_true rfl, Nat.le_of_ble_eq_true rfl⟩ (fun n => ?_)
  refine V_if_eq (tgt := 22) d_X12_hangs_15 (by decide) (fun c15 => ?_) (fun c15 => ?_)
  · replace hf := iteF (b2i_nt (b2i_eq0 c15)) hf
    refine V_aload_n d_X12_hangs_22 rfl rfl ?_
    refine V_iload_n d_X12_hangs_23 rfl rfl ?_
    obtain ⟨t3, ht3, hf⟩ := ob hf
    refine B_callV1 (s_X12_hangsOn hG ht3) k_264 clX12 m_X12_hangsOn kv_RX12_410 d_X12_hangs_24 rfl (Nat.le_of_ble_eq_true rfl) ⟨rfl, rfl, Nat.le_of_ble_eq_true rfl, Nat.le_of_ble_eq_true rfl, Nat.le_of_ble_eq_true rfl⟩ (fun n => ?_)
    refine V_less (ls' := [none, none]) trivial ?_
    exact s_X12_hangs_j27 hG hf hK
  · replace hf := iteT (b2i_ne0 c15) hf
    refine V_iconst (v := 0) d_X12_hangs_18 ic_0 ?_
    refine V_goto (tgt := 27) d_X12_hangs_19 (by decide) ?_
    refine V_less (ls' := [none, none]) trivial ?_
    exact s_X12_hangs_j27 hG hf hK
theorem s_X12_hangs {G : Gl} (hG : G.1.stackTraces = false) {μ : Mem} {p1 : Int32} {r : (Int32 × Mem)} (hf : f_X12_hangs μ p1 = some r) : Rt G yX12_hangs F_X12_hangs (some .int) [.ref (G.2.1 + 264), .int p1] μ (some (.int r.1)) r.2 := fun n => Sd.of hG ⟨by decide +kernel, rfl, rfl⟩ rfl (Nat.le_of_ble_eq_true rfl) rfl (fun C hK => s_X12_hangs_e hG hf hK)
theorem d_X12_trust_0 : decode cX12_trust 0 = .ok (.aload_n 0, 1) := by decide +kernel
theorem d_X12_trust_1 : decode cX12_trust 1 = .ok (.iconst 0, 1) := by decide +kernel
theorem d_X12_trust_2 : decode cX12_trust 2 = .ok (.putfield 3, 3) := by decide +kernel
theorem d_X12_trust_5 : decode cX12_trust 5 = .ok (.iconst (-1), 1) := by decide +kernel
theorem d_X12_trust_6 : decode cX12_trust 6 = .ok (.istore_n 1, 1) := by decide +kernel
theorem d_X12_trust_7 : decode cX12_trust 7 = .ok (.iconst 0, 1) := by decide +kernel
theorem d_X12_trust_8 : decode cX12_trust 8 = .ok (.istore_n 2, 1) := by decide +kernel
theorem d_X12_trust_9 : decode cX12_trust 9 = .ok (.iconst 0, 1) := by decide +kernel
theorem d_X12_trust_10 : decode cX12_trust 10 = .ok (.istore_n 3, 1) := by decide +kernel
theorem d_X12_trust_11 : decode cX12_trust 11 = .ok (.iload_n 3, 1) := by decide +kernel
theorem d_X12_trust_12 : decode cX12_trust 12 = .ok (.aload_n 0, 1) := by decide +kernel
theorem d_X12_trust_13 : decode cX12_trust 13 = .ok (.invokevirtual 59, 3) := by decide +kernel
theorem d_X12_trust_16 : decode cX12_trust 16 = .ok (.if_icmp .ge 39, 3) := by decide +kernel
theorem d_X12_trust_19 : decode cX12_trust 19 = .ok (.aload_n 0, 1) := by decide +kernel
theorem d_X12_trust_20 : decode cX12_trust 20 = .ok (.aload_n 0, 1) := by decide +kernel
theorem d_X12_trust_21 : decode cX12_trust 21 = .ok (.iload_n 3, 1) := by decide +kernel
theorem d_X12_trust_22 : decode cX12_trust 22 = .ok (.invokevirtual 410, 3) := by decide +kernel
theorem d_X12_trust_25 : decode cX12_trust 25 = .ok (.invokevirtual 401, 3) := by decide +kernel
theorem d_X12_trust_28 : decode cX12_trust 28 = .ok (.istore 4, 2) := by decide +kernel
theorem d_X12_trust_30 : decode cX12_trust 30 = .ok (.iload 4, 2) := by decide +kernel
theorem d_X12_trust_32 : decode cX12_trust 32 = .ok (.iload_n 2, 1) := by decide +kernel
theorem d_X12_trust_33 : decode cX12_trust 33 = .ok (.if_icmp .le 7, 3) := by decide +kernel
theorem d_X12_trust_36 : decode cX12_trust 36 = .ok (.iload_n 3, 1) := by decide +kernel
theorem d_X12_trust_37 : decode cX12_trust 37 = .ok (.goto 4, 3) := by decide +kernel
theorem d_X12_trust_40 : decode cX12_trust 40 = .ok (.iload_n 1, 1) := by decide +kernel
theorem d_X12_trust_41 : decode cX12_trust 41 = .ok (.istore_n 1, 1) := by decide +kernel
theorem d_X12_trust_42 : decode cX12_trust 42 = .ok (.iload_n 2, 1) := by decide +kernel
theorem d_X12_trust_43 : decode cX12_trust 43 = .ok (.iload 4, 2) := by decide +kernel
theorem d_X12_trust_45 : decode cX12_trust 45 = .ok (.invokestatic 293, 3) := by decide +kernel
theorem d_X12_trust_48 : decode cX12_trust 48 = .ok (.istore_n 2, 1) := by decide +kernel
theorem d_X12_trust_49 : decode cX12_trust 49 = .ok (.iinc 3 1, 3) := by decide +kernel
theorem d_X12_trust_52 : decode cX12_trust 52 = .ok (.goto (-41), 3) := by decide +kernel
theorem d_X12_trust_55 : decode cX12_trust 55 = .ok (.iload_n 1, 1) := by decide +kernel
theorem d_X12_trust_56 : decode cX12_trust 56 = .ok (.ireturn, 1) := by decide +kernel
theorem s_X12_trust_b11 {G : Gl} (hG : G.1.stackTraces = false) {C : Cx} {n : Nat} {μ : Mem} {l1 : Int32} {l2 : Int32} {l3 : Int32} {y : ((Int32 × Int32 × Int32) ⊕ Int32)} (hf : f_X12_trust_b11 μ l1 l2 l3 = some y) (hK : (∀ z', y = .inl z' → ∀ n, V G C F_X12_trust 11 [some (.ref (G.2.1 + 264)), some (.int z'.1), some (.int z'.2.1), some (.int z'.2.2), none] [] (pic G μ) n 0 0) ∧ (∀ x', y = .inr x' → ∀ n, V G C F_X12_trust 55 [none, some (.int x'), none, none, none] [] (pic G μ) n 0 0)) : V G C F_X12_trust 11 [some (.ref (G.2.1 + 264)), some (.int l1), some (.int l2), some (.int l3), none] [] (pic G μ) n 0 0 := by
  unfold f_X12_trust_b11 at hf
  refine V_iload_n d_X12_trust_11 rfl rfl ?_
  refine V_aload_n d_X12_trust_12 rfl rfl ?_
  obtain ⟨t1, ht1, hf⟩ := ob hf
  refine B_callV1 (s_X12_people hG ht1) k_264 clX12 m_X12_people kv_RX12_59 d_X12_trust_13 rfl (Nat.le_of_ble_eq_true rfl) ⟨rfl, rfl, Nat.le_of_ble_eq_true rfl, Nat.le_of_ble_eq_true rfl, Nat.le_of_ble_eq_true rfl⟩ (fun n => ?_)
  refine V_icmp_ge (tgt := 55) d_X12_trust_16 (by decide) (fun c16 => ?_) (fun c16 => ?_)
  · replace hf := iteT c16 hf
    refine V_less (ls' := [none, some _, none, none, none]) ⟨rfl, trivial⟩ ?_
    cases hf
    exact hK.2 _ rfl _
  · replace hf := iteF c16 hf
    refine V_aload_n d_X12_trust_19 rfl rfl ?_
    refine V_aload_n d_X12_trust_20 rfl rfl ?_
    refine V_iload_n d_X12_trust_21 rfl rfl ?_
    obtain ⟨t2, ht2, hf⟩ := ob hf
    refine B_callV1 (s_X12_hangsOn hG ht2) k_264 clX12 m_X12_hangsOn kv_RX12_410 d_X12_trust_22 rfl (Nat.le_of_ble_eq_true rfl) ⟨rfl, rfl, Nat.le_of_ble_eq_true rfl, Nat.le_of_ble_eq_true rfl, Nat.le_of_ble_eq_true rfl⟩ (fun n => ?_)
    obtain ⟨t3, ht3, hf⟩ := ob hf
    refine B_callV1 (s_X12_amountOf hG ht3) k_264 clX12 m_X12_amountOf kv_RX12_401 d_X12_trust_25 rfl (Nat.le_of_ble_eq_true rfl) ⟨rfl, rfl, Nat.le_of_ble_eq_true rfl, Nat.le_of_ble_eq_true rfl, Nat.le_of_ble_eq_true rfl⟩ (fun n => ?_)
    refine V_istore (ls' := [_, _, _, _, _]) d_X12_trust_28 rfl rfl ?_
    refine V_iload d_X12_trust_30 rfl ?_
    refine V_iload_n d_X12_trust_32 rfl rfl ?_
    have hJj4 : ∀ j4 : Int32, j4 = (if t3 ≤ l2 then (l1 : Int32) else l3) → V G C F_X12_trust 41 [some (.ref (G.2.1 + 264)), none, some (.int l2), some (.int l3), some (.int t3)] [.int j4] (pic G μ) n 0 0 := by
      intro j4 ej4
      subst ej4
      refine V_istore_n (ls' := [_, _, _, _, _]) d_X12_trust_41 rfl rfl rfl ?_
      refine V_iload_n d_X12_trust_42 rfl rfl ?_
      refine V_iload d_X12_trust_43 rfl ?_
      obtain ⟨t5, ht5, hf⟩ := ob hf
      refine B_callS1 (s_J9_max_7cf53 hG ht5) m_J9_max_7cf53 ks_RX12_293 d_X12_trust_45 rfl (Nat.le_of_ble_eq_true rfl) ⟨rfl, rfl, Nat.le_of_ble_eq_true rfl, Nat.le_of_ble_eq_true rfl, Nat.le_of_ble_eq_true rfl⟩ (fun n => ?_)
      refine V_istore_n (ls' := [_, _, _, _, _]) d_X12_trust_48 rfl rfl rfl ?_
      refine V_iinc (v := (l3 + 1)) (ls' := [_, _, _, _, _]) d_X12_trust_49 rfl (by rw [ic_1]) rfl ?_
      refine V_goto (tgt := 11) d_X12_trust_52 (by decide) ?_
      refine V_less (ls' := [some _, some _, some _, some _, none]) ⟨rfl, rfl, rfl, rfl, trivial⟩ ?_
      cases hf
      exact hK.1 _ rfl _
    refine V_icmp_le (tgt := 40) d_X12_trust_33 (by decide) (fun c33 => ?_) (fun c33 => ?_)
    · refine V_iload_n d_X12_trust_40 rfl rfl ?_
      refine V_less (ls' := [some _, none, some _, some _, some _]) ⟨rfl, rfl, rfl, rfl, trivial⟩ ?_
      exact hJj4 l1 (by rw [if_pos c33])
    · refine V_iload_n d_X12_trust_36 rfl rfl ?_
      refine V_goto (tgt := 41) d_X12_trust_37 (by decide) ?_
      refine V_less (ls' := [some _, none, some _, some _, some _]) ⟨rfl, rfl, rfl, rfl, trivial⟩ ?_
      exact hJj4 l3 (by rw [if_neg c33])
theorem s_X12_trust_j55 {G : Gl} (hG : G.1.stackTraces = false) {C : Cx} {n : Nat} {μ : Mem} {l1 : Int32} {r : (Int32 × Mem)} (hf : f_X12_trust_j55 μ l1 = some r) (hK : FinR G C F_X12_trust (some .int) (some (.int r.1)) r.2) : V G C F_X12_trust 55 [none, some (.int l1), none, none, none] [] (pic G μ) n 0 0 := by
  unfold f_X12_trust_j55 at hf
  refine V_iload_n d_X12_trust_55 rfl rfl ?_
  cases hf
  exact R_i hK d_X12_trust_56 (Nat.le_of_ble_eq_true rfl) (Nat.le_of_ble_eq_true rfl)
theorem s_X12_trust_l11 {G : Gl} (hG : G.1.stackTraces = false) {C : Cx} {n : Nat} {μ : Mem} {l1 : Int32} {l2 : Int32} {l3 : Int32} {r : (Int32 × Mem)} (hf : f_X12_trust_l11 μ l1 l2 l3 = some r) (hK : FinR G C F_X12_trust (some .int) (some (.int r.1)) r.2) : V G C F_X12_trust 11 [some (.ref (G.2.1 + 264)), some (.int l1), some (.int l2), some (.int l3), none] [] (pic G μ) n 0 0 := by
  unfold f_X12_trust_l11 at hf
  obtain ⟨t, hl, hf⟩ := ob hf
  refine loopV (P := fun z => ∀ n, V G C F_X12_trust 11 [some (.ref (G.2.1 + 264)), some (.int z.1), some (.int z.2.1), some (.int z.2.2), none] [] (pic G μ) n 0 0) (t := t) ?_ _ _ hl n
  intro z y' hy hI hT n
  refine s_X12_trust_b11 hG hy ⟨hI, fun x9 ex => ?_⟩
  have ex2 := hT x9 ex
  subst ex2
  intro n
  exact s_X12_trust_j55 hG hf hK
theorem s_X12_trust_e {G : Gl} (hG : G.1.stackTraces = false) {C : Cx} {n : Nat} {μ : Mem}  {r : (Int32 × Mem)} (hf : f_X12_trust μ = some r) (hK : FinR G C F_X12_trust (some .int) (some (.int r.1)) r.2) : V G C F_X12_trust 0 [some (.ref (G.2.1 + 264)), none, none, none, none] [] (pic G μ) n 0 0 := by
  unfold f_X12_trust at hf
  refine V_aload_n d_X12_trust_0 rfl rfl ?_
  refine V_iconst (v := 0) d_X12_trust_1 ic_0 ?_
  refine B_putI k_264 fl_RX12_3 pt_12_0 (Nat.le_of_ble_eq_true rfl) p_12_0 d_X12_trust_2 ?_
  refine V_iconst (v := (-1)) d_X12_trust_5 ic_m1 ?_
  refine V_istore_n (ls' := [_, _, _, _, _]) d_X12_trust_6 rfl rfl rfl ?_
  refine V_iconst (v := 0) d_X12_trust_7 ic_0 ?_
  refine V_istore_n (ls' := [_, _, _, _, _]) d_X12_trust_8 rfl rfl rfl ?_
  refine V_iconst (v := 0) d_X12_trust_9 ic_0 ?_
  refine V_istore_n (ls' := [_, _, _, _, _]) d_X12_trust_10 rfl rfl rfl ?_
  refine V_less (ls' := [some _, some _, some _, some _, none]) ⟨rfl, rfl, rfl, rfl, trivial⟩ ?_
  exact s_X12_trust_l11 hG hf hK
theorem s_X12_trust {G : Gl} (hG : G.1.stackTraces = false) {μ : Mem} {r : (Int32 × Mem)} (hf : f_X12_trust μ = some r) : Rt G yX12_trust F_X12_trust (some .int) [.ref (G.2.1 + 264)] μ (some (.int r.1)) r.2 := fun n => Sd.of hG ⟨by decide +kernel, rfl, rfl⟩ rfl (Nat.le_of_ble_eq_true rfl) rfl (fun C hK => s_X12_trust_e hG hf hK)
theorem d_X12_isNeeded_0 : decode cX12_isNeeded 0 = .ok (.iconst 1, 1) := by decide +kernel
theorem d_X12_isNeeded_1 : decode cX12_isNeeded 1 = .ok (.istore_n 2, 1) := by decide +kernel
theorem d_X12_isNeeded_2 : decode cX12_isNeeded 2 = .ok (.iconst 0, 1) := by decide +kernel
theorem d_X12_isNeeded_3 : decode cX12_isNeeded 3 = .ok (.istore_n 3, 1) := by decide +kernel
theorem d_X12_isNeeded_4 : decode cX12_isNeeded 4 = .ok (.iload_n 3, 1) := by decide +kernel
theorem d_X12_isNeeded_5 : decode cX12_isNeeded 5 = .ok (.aload_n 0, 1) := by decide +kernel
theorem d_X12_isNeeded_6 : decode cX12_isNeeded 6 = .ok (.invokevirtual 77, 3) := by decide +kernel
theorem d_X12_isNeeded_9 : decode cX12_isNeeded 9 = .ok (.if_icmp .ge 74, 3) := by decide +kernel
theorem d_X12_isNeeded_12 : decode cX12_isNeeded 12 = .ok (.aload_n 0, 1) := by decide +kernel
theorem d_X12_isNeeded_13 : decode cX12_isNeeded 13 = .ok (.iload_n 3, 1) := by decide +kernel
theorem d_X12_isNeeded_14 : decode cX12_isNeeded 14 = .ok (.invokevirtual 296, 3) := by decide +kernel
theorem d_X12_isNeeded_17 : decode cX12_isNeeded 17 = .ok (.ifCond .eq 60, 3) := by decide +kernel
theorem d_X12_isNeeded_20 : decode cX12_isNeeded 20 = .ok (.iload_n 2, 1) := by decide +kernel
theorem d_X12_isNeeded_21 : decode cX12_isNeeded 21 = .ok (.ifCond .eq 54, 3) := by decide +kernel
theorem d_X12_isNeeded_24 : decode cX12_isNeeded 24 = .ok (.iload_n 1, 1) := by decide +kernel
theorem d_X12_isNeeded_25 : decode cX12_isNeeded 25 = .ok (.iload_n 3, 1) := by decide +kernel
theorem d_X12_isNeeded_26 : decode cX12_isNeeded 26 = .ok (.invokestatic 144, 3) := by decide +kernel
theorem d_X12_isNeeded_29 : decode cX12_isNeeded 29 = .ok (.invokestatic 380, 3) := by decide +kernel
theorem d_X12_isNeeded_32 : decode cX12_isNeeded 32 = .ok (.ifCond .ne 39, 3) := by decide +kernel
theorem d_X12_isNeeded_35 : decode cX12_isNeeded 35 = .ok (.iload_n 1, 1) := by decide +kernel
theorem d_X12_isNeeded_36 : decode cX12_isNeeded 36 = .ok (.aload_n 0, 1) := by decide +kernel
theorem d_X12_isNeeded_37 : decode cX12_isNeeded 37 = .ok (.iload_n 3, 1) := by decide +kernel
theorem d_X12_isNeeded_38 : decode cX12_isNeeded 38 = .ok (.iconst 1, 1) := by decide +kernel
theorem d_X12_isNeeded_39 : decode cX12_isNeeded 39 = .ok (.invokevirtual 70, 3) := by decide +kernel
theorem d_X12_isNeeded_42 : decode cX12_isNeeded 42 = .ok (.invokestatic 380, 3) := by decide +kernel
theorem d_X12_isNeeded_45 : decode cX12_isNeeded 45 = .ok (.ifCond .ne 26, 3) := by decide +kernel
theorem d_X12_isNeeded_48 : decode cX12_isNeeded 48 = .ok (.aload_n 0, 1) := by decide +kernel
theorem d_X12_isNeeded_49 : decode cX12_isNeeded 49 = .ok (.iload_n 3, 1) := by decide +kernel
theorem d_X12_isNeeded_50 : decode cX12_isNeeded 50 = .ok (.iconst 5, 1) := by decide +kernel
theorem d_X12_isNeeded_51 : decode cX12_isNeeded 51 = .ok (.invokevirtual 70, 3) := by decide +kernel
theorem d_X12_isNeeded_54 : decode cX12_isNeeded 54 = .ok (.iconst (-1), 1) := by decide +kernel
theorem d_X12_isNeeded_55 : decode cX12_isNeeded 55 = .ok (.if_icmp .eq 20, 3) := by decide +kernel
theorem d_X12_isNeeded_58 : decode cX12_isNeeded 58 = .ok (.iload_n 1, 1) := by decide +kernel
theorem d_X12_isNeeded_59 : decode cX12_isNeeded 59 = .ok (.aload_n 0, 1) := by decide +kernel
theorem d_X12_isNeeded_60 : decode cX12_isNeeded 60 = .ok (.iload_n 3, 1) := by decide +kernel
theorem d_X12_isNeeded_61 : decode cX12_isNeeded 61 = .ok (.iconst 5, 1) := by decide +kernel
theorem d_X12_isNeeded_62 : decode cX12_isNeeded 62 = .ok (.invokevirtual 70, 3) := by decide +kernel
theorem d_X12_isNeeded_65 : decode cX12_isNeeded 65 = .ok (.invokestatic 380, 3) := by decide +kernel
theorem d_X12_isNeeded_68 : decode cX12_isNeeded 68 = .ok (.ifCond .eq 7, 3) := by decide +kernel
theorem d_X12_isNeeded_71 : decode cX12_isNeeded 71 = .ok (.iconst 1, 1) := by decide +kernel
theorem d_X12_isNeeded_72 : decode cX12_isNeeded 72 = .ok (.goto 4, 3) := by decide +kernel
theorem d_X12_isNeeded_75 : decode cX12_isNeeded 75 = .ok (.iconst 0, 1) := by decide +kernel
theorem d_X12_isNeeded_76 : decode cX12_isNeeded 76 = .ok (.istore_n 2, 1) := by decide +kernel
theorem d_X12_isNeeded_77 : decode cX12_isNeeded 77 = .ok (.iinc 3 1, 3) := by decide +kernel
theorem d_X12_isNeeded_80 : decode cX12_isNeeded 80 = .ok (.goto (-76), 3) := by decide +kernel
theorem d_X12_isNeeded_83 : decode cX12_isNeeded 83 = .ok (.iload_n 2, 1) := by decide +kernel
theorem d_X12_isNeeded_84 : decode cX12_isNeeded 84 = .ok (.ireturn, 1) := by decide +kernel
theorem s_X12_isNeeded_j77_4 {G : Gl} (hG : G.1.stackTraces = false) {C : Cx} {n : Nat} {μ : Mem} {l1 : Int32} {l2 : Bool} {l3 : Int32} {y : ((Bool × Int32) ⊕ Bool)} (hf : f_X12_isNeeded_j77_4 μ l1 l2 l3 = some y) (hK : (∀ z', y = .inl z' → ∀ n, V G C F_X12_isNeeded 4 [some (.ref (G.2.1 + 264)), some (.int l1), some (.int (b2i z'.1)), some (.int z'.2)] [] (pic G μ) n 0 0) ∧ (∀ x', y = .inr x' → ∀ n, V G C F_X12_isNeeded 83 [none, none, some (.int (b2i x')), none] [] (pic G μ) n 0 0)) : V G C F_X12_isNeeded 77 [some (.ref (G.2.1 + 264)), some (.int l1), some (.int (b2i l2)), some (.int l3)] [] (pic G μ) n 0 0 := by
  unfold f_X12_isNeeded_j77_4 at hf
  refine V_iinc (v := (l3 + 1)) (ls' := [_, _, _, _]) d_X12_isNeeded_77 rfl (by rw [ic_1]) rfl ?_
  refine V_goto (tgt := 4) d_X12_isNeeded_80 (by decide) ?_
  refine V_less (ls' := [some _, some _, some _, some _]) ⟨rfl, rfl, rfl, rfl, trivial⟩ ?_
  cases hf
  exact hK.1 _ rfl _
theorem s_X12_isNeeded_j76_4 {G : Gl} (hG : G.1.stackTraces = false) {C : Cx} {n : Nat} {μ : Mem} {l1 : Int32} {l3 : Int32} {k0 : Bool} {y : ((Bool × Int32) ⊕ Bool)} (hf : f_X12_isNeeded_j76_4 μ l1 l3 k0 = some y) (hK : (∀ z', y = .inl z' → ∀ n, V G C F_X12_isNeeded 4 [some (.ref (G.2.1 + 264)), some (.int l1), some (.int (b2i z'.1)), some (.int z'.2)] [] (pic G μ) n 0 0) ∧ (∀ x', y = .inr x' → ∀ n, V G C F_X12_isNeeded 83 [none, none, some (.int (b2i x')), none] [] (pic G μ) n 0 0)) : V G C F_X12_isNeeded 76 [some (.ref (G.2.1 + 264)), some (.int l1), none, some (.int l3)] [.int (b2i k0)] (pic G μ) n 0 0 := by
  unfold f_X12_isNeeded_j76_4 at hf
  refine V_istore_n (ls' := [_, _, _, _]) d_X12_isNeeded_76 rfl rfl rfl ?_
  refine V_less (ls' := [some _, some _, some _, some _]) ⟨rfl, rfl, rfl, rfl, trivial⟩ ?_
  exact s_X12_isNeeded_j77_4 hG hf hK
theorem s_X12_isNeeded_j75_4 {G : Gl} (hG : G.1.stackTraces = false) {C : Cx} {n : Nat} {μ : Mem} {l1 : Int32} {l3 : Int32} {y : ((Bool × Int32) ⊕ Bool)} (hf : f_X12_isNeeded_j75_4 μ l1 l3 = some y) (hK : (∀ z', y = .inl z' → ∀ n, V G C F_X12_isNeeded 4 [some (.ref (G.2.1 + 264)), some (.int l1), some (.int (b2i z'.1)), some (.int z'.2)] [] (pic G μ) n 0 0) ∧ (∀ x', y = .inr x' → ∀ n, V G C F_X12_isNeeded 83 [none, none, some (.int (b2i x')), none] [] (pic G μ) n 0 0)) : V G C F_X12_isNeeded 75 [some (.ref (G.2.1 + 264)), some (.int l1), none, some (.int l3)] [] (pic G μ) n 0 0 := by
  unfold f_X12_isNeeded_j75_4 at hf
  refine V_iconst (v := 0) d_X12_isNeeded_75 ic_0 ?_
  refine V_less (ls' := [some _, some _, none, some _]) ⟨rfl, rfl, rfl, trivial⟩ ?_
  exact s_X12_isNeeded_j76_4 hG hf hK
theorem s_X12_isNeeded_j71_4 {G : Gl} (hG : G.1.stackTraces = false) {C : Cx} {n : Nat} {μ : Mem} {l1 : Int32} {l3 : Int32} {y : ((Bool × Int32) ⊕ Bool)} (hf : f_X12_isNeeded_j71_4 μ l1 l3 = some y) (hK : (∀ z', y = .inl z' → ∀ n, V G C F_X12_isNeeded 4 [some (.ref (G.2.1 + 264)), some (.int l1), some (.int (b2i z'.1)), some (.int z'.2)] [] (pic G μ) n 0 0) ∧ (∀ x', y = .inr x' → ∀ n, V G C F_X12_isNeeded 83 [none, none, some (.int (b2i x')), none] [] (pic G μ) n 0 0)) : V G C F_X12_isNeeded 71 [some (.ref (G.2.1 + 264)), some (.int l1), none, some (.int l3)] [] (pic G μ) n 0 0 := by
  unfold f_X12_isNeeded_j71_4 at hf
  refine V_iconst (v := 1) d_X12_isNeeded_71 ic_1 ?_
  refine V_goto (tgt := 76) d_X12_isNeeded_72 (by decide) ?_
  refine V_less (ls' := [some _, some _, none, some _]) ⟨rfl, rfl, rfl, trivial⟩ ?_
  exact s_X12_isNeeded_j76_4 hG hf hK
theorem s_X12_isNeeded_b4 {G : Gl} (hG : G.1.stackTraces = false) {C : Cx} {n : Nat} {μ : Mem} {l1 : Int32} {l2 : Bool} {l3 : Int32} {y : ((Bool × Int32) ⊕ Bool)} (hf : f_X12_isNeeded_b4 μ l1 l2 l3 = some y) (hK : (∀ z', y = .inl z' → ∀ n, V G C F_X12_isNeeded 4 [some (.ref (G.2.1 + 264)), some (.int l1), some (.int (b2i z'.1)), some (.int z'.2)] [] (pic G μ) n 0 0) ∧ (∀ x', y = .inr x' → ∀ n, V G C F_X12_isNeeded 83 [none, none, some (.int (b2i x')), none] [] (pic G μ) n 0 0)) : V G C F_X12_isNeeded 4 [some (.ref (G.2.1 + 264)), some (.int l1), some (.int (b2i l2)), some (.int l3)] [] (pic G μ) n 0 0 := by
  unfold f_X12_isNeeded_b4 at hf
  refine V_iload_n d_X12_isNeeded_4 rfl rfl ?_
  refine V_aload_n d_X12_isNeeded_5 rfl rfl ?_
  obtain ⟨t1, ht1, hf⟩ := ob hf
  refine B_callV1 (s_X12_laces hG ht1) k_264 clX12 m_X12_laces kv_RX12_77 d_X12_isNeeded_6 rfl (Nat.le_of_ble_eq_true rfl) ⟨rfl, rfl, Nat.le_of_ble_eq_true rfl, Nat.le_of_ble_eq_true rfl, Nat.le_of_ble_eq_true rfl⟩ (fun n => ?_)
  refine V_icmp_ge (tgt := 83) d_X12_isNeeded_9 (by decide) (fun c9 => ?_) (fun c9 => ?_)
  · replace hf := iteT c9 hf
    refine V_less (ls' := [none, none, some _, none]) ⟨rfl, trivial⟩ ?_
    cases hf
    exact hK.2 _ rfl _
  · replace hf := iteF c9 hf
    refine V_aload_n d_X12_isNeeded_12 rfl rfl ?_
    refine V_iload_n d_X12_isNeeded_13 rfl rfl ?_
    obtain ⟨t2, ht2, hf⟩ := ob hf
    refine B_callV1 (s_X12_isPledged hG ht2) k_264 clX12 m_X12_isPledged kv_RX12_296 d_X12_isNeeded_14 rfl (Nat.le_of_ble_eq_true rfl) ⟨rfl, rfl, Nat.le_of_ble_eq_true rfl, Nat.le_of_ble_eq_true rfl, Nat.le_of_ble_eq_true rfl⟩ (fun n => ?_)
    refine V_if_eq (tgt := 77) d_X12_isNeeded_17 (by decide) (fun c17 => ?_) (fun c17 => ?_)
    · replace hf := iteF (b2i_nt (b2i_eq0 c17)) hf
      refine V_less (ls' := [some _, some _, some _, some _]) ⟨rfl, rfl, rfl, rfl, trivial⟩ ?_
      exact s_X12_isNeeded_j77_4 hG hf hK
    · replace hf := iteT (b2i_ne0 c17) hf
      refine V_iload_n d_X12_isNeeded_20 rfl rfl ?_
      refine V_if_eq (tgt := 75) d_X12_isNeeded_21 (by decide) (fun c21 => ?_) (fun c21 => ?_)
      · replace hf := iteF (b2i_nt (b2i_eq0 c21)) hf
        refine V_less (ls' := [some _, some _, none, some _]) ⟨rfl, rfl, rfl, trivial⟩ ?_
        exact s_X12_isNeeded_j75_4 hG hf hK
      · replace hf := iteT (b2i_ne0 c21) hf
        refine V_iload_n d_X12_isNeeded_24 rfl rfl ?_
        refine V_iload_n d_X12_isNeeded_25 rfl rfl ?_
        obtain ⟨t3, ht3, hf⟩ := ob hf
        refine B_callS1 (s_X12_ownerOf hG ht3) m_X12_ownerOf ks_RX12_144 d_X12_isNeeded_26 rfl (Nat.le_of_ble_eq_true rfl) ⟨rfl, rfl, Nat.le_of_ble_eq_true rfl, Nat.le_of_ble_eq_true rfl, Nat.le_of_ble_eq_true rfl⟩ (fun n => ?_)
        obtain ⟨t4, ht4, hf⟩ := ob hf
        refine B_callS1 (s_X12_has hG ht4) m_X12_has ks_RX12_380 d_X12_isNeeded_29 rfl (Nat.le_of_ble_eq_true rfl) ⟨rfl, rfl, Nat.le_of_ble_eq_true rfl, Nat.le_of_ble_eq_true rfl, Nat.le_of_ble_eq_true rfl⟩ (fun n => ?_)
        refine V_if_ne (tgt := 71) d_X12_isNeeded_32 (by decide) (fun c32 => ?_) (fun c32 => ?_)
        · replace hf := iteT (b2i_ne0 c32) hf
          refine V_less (ls' := [some _, some _, none, some _]) ⟨rfl, rfl, rfl, trivial⟩ ?_
          exact s_X12_isNeeded_j71_4 hG hf hK
        · replace hf := iteF (b2i_nt (b2i_eq0 c32)) hf
          refine V_iload_n d_X12_isNeeded_35 rfl rfl ?_
          refine V_aload_n d_X12_isNeeded_36 rfl rfl ?_
          refine V_iload_n d_X12_isNeeded_37 rfl rfl ?_
          refine V_iconst (v := 1) d_X12_isNeeded_38 ic_1 ?_
          obtain ⟨t5, ht5, hf⟩ := ob hf
          refine B_callV1 (s_X12_ofLace hG ht5) k_264 clX12 m_X12_ofLace kv_RX12_70 d_X12_isNeeded_39 rfl (Nat.le_of_ble_eq_true rfl) ⟨rfl, rfl, Nat.le_of_ble_eq_true rfl, Nat.le_of_ble_eq_true rfl, Nat.le_of_ble_eq_true rfl⟩ (fun n => ?_)
          obtain ⟨t6, ht6, hf⟩ := ob hf
          refine B_callS1 (s_X12_has hG ht6) m_X12_has ks_RX12_380 d_X12_isNeeded_42 rfl (Nat.le_of_ble_eq_true rfl) ⟨rfl, rfl, Nat.le_of_ble_eq_true rfl, Nat.le_of_ble_eq_true rfl, Nat.le_of_ble_eq_true rfl⟩ (fun n => ?_)
          refine V_if_ne (tgt := 71) d_X12_isNeeded_45 (by decide) (fun c45 => ?_) (fun c45 => ?_)
          · replace hf := iteT (b2i_ne0 c45) hf
            refine V_less (ls' := [some _, some _, none, some _]) ⟨rfl, rfl, rfl, trivial⟩ ?_
            exact s_X12_isNeeded_j71_4 hG hf hK
          · replace hf := iteF (b2i_nt (b2i_eq0 c45)) hf
            refine V_aload_n d_X12_isNeeded_48 rfl rfl ?_
            refine V_iload_n d_X12_isNeeded_49 rfl rfl ?_
            refine V_iconst (v := 5) d_X12_isNeeded_50 ic_5 ?_
            obtain ⟨t7, ht7, hf⟩ := ob hf
            refine B_callV1 (s_X12_ofLace hG ht7) k_264 clX12 m_X12_ofLace kv_RX12_70 d_X12_isNeeded_51 rfl (Nat.le_of_ble_eq_true rfl) ⟨rfl, rfl, Nat.le_of_ble_eq_true rfl, Nat.le_of_ble_eq_true rfl, Nat.le_of_ble_eq_true rfl⟩ (fun n => ?_)
            refine V_iconst (v := (-1)) d_X12_isNeeded_54 ic_m1 ?_
            refine V_icmp_eq (tgt := 75) d_X12_isNeeded_55 (by decide) (fun c55 => ?_) (fun c55 => ?_)
            · replace hf := iteT c55 hf
              refine V_less (ls' := [some _, some _, none, some _]) ⟨rfl, rfl, rfl, trivial⟩ ?_
              exact s_X12_isNeeded_j75_4 hG hf hK
            · replace hf := iteF c55 hf
              refine V_iload_n d_X12_isNeeded_58 rfl rfl ?_
              refine V_aload_n d_X12_isNeeded_59 rfl rfl ?_
              refine V_iload_n d_X12_isNeeded_60 rfl rfl ?_
              refine V_iconst (v := 5) d_X12_isNeeded_61 ic_5 ?_
              obtain ⟨t8, ht8, hf⟩ := ob hf
              refine B_callV1 (s_X12_ofLace hG ht8) k_264 clX12 m_X12_ofLace kv_RX12_70 d_X12_isNeeded_62 rfl (Nat.le_of_ble_eq_true rfl) ⟨rfl, rfl, Nat.le_of_ble_eq_true rfl, Nat.le_of_ble_eq_true rfl, Nat.le_of_ble_eq_true rfl⟩ (fun n => ?_)
              obtain ⟨t9, ht9, hf⟩ := ob hf
              refine B_callS1 (s_X12_has hG ht9) m_X12_has ks_RX12_380 d_X12_isNeeded_65 rfl (Nat.le_of_ble_eq_true rfl) ⟨rfl, rfl, Nat.le_of_ble_eq_true rfl, Nat.le_of_ble_eq_true rfl, Nat.le_of_ble_eq_true rfl⟩ (fun n => ?_)
              have hJj10 : ∀ j10 : Bool, j10 = (if t9 = true then (true : Bool) else false) → V G C F_X12_isNeeded 76 [some (.ref (G.2.1 + 264)), some (.int l1), none, some (.int l3)] [.int (b2i j10)] (pic G μ) n 0 0 := by
                intro j10 ej10
                subst ej10
                refine V_istore_n (ls' := [_, _, _, _]) d_X12_isNeeded_76 rfl rfl rfl ?_
                refine V_less (ls' := [some _, some _, some _, some _]) ⟨rfl, rfl, rfl, rfl, trivial⟩ ?_
                exact s_X12_isNeeded_j77_4 hG hf hK
              refine V_if_eq (tgt := 75) d_X12_isNeeded_68 (by decide) (fun c68 => ?_) (fun c68 => ?_)
              · refine V_iconst (v := 0) d_X12_isNeeded_75 ic_0 ?_
                refine V_less (ls' := [some _, some _, none, some _]) ⟨rfl, rfl, rfl, trivial⟩ ?_
                exact hJj10 false (by rw [if_neg (b2i_nt (b2i_eq0 c68))])
              · refine V_iconst (v := 1) d_X12_isNeeded_71 ic_1 ?_
                refine V_goto (tgt := 76) d_X12_isNeeded_72 (by decide) ?_
                refine V_less (ls' := [some _, some _, none, some _]) ⟨rfl, rfl, rfl, trivial⟩ ?_
                exact hJj10 true (by rw [if_pos (b2i_ne0 c68)])
theorem s_X12_isNeeded_j83 {G : Gl} (hG : G.1.stackTraces = false) {C : Cx} {n : Nat} {μ : Mem} {l2 : Bool} {r : Bool} (hf : f_X12_isNeeded_j83 μ l2 = some r) (hK : FinR G C F_X12_isNeeded (some .boolean) (some (.int (b2i r))) μ) : V G C F_X12_isNeeded 83 [none, none, some (.int (b2i l2)), none] [] (pic G μ) n 0 0 := by
  unfold f_X12_isNeeded_j83 at hf
  refine V_iload_n d_X12_isNeeded_83 rfl rfl ?_
  cases hf
  exact R_z hK d_X12_isNeeded_84 (Nat.le_of_ble_eq_true rfl) (Nat.le_of_ble_eq_true rfl)
theorem s_X12_isNeeded_l4 {G : Gl} (hG : G.1.stackTraces = false) {C : Cx} {n : Nat} {μ : Mem} {l1 : Int32} {l2 : Bool} {l3 : Int32} {r : Bool} (hf : f_X12_isNeeded_l4 μ l1 l2 l3 = some r) (hK : FinR G C F_X12_isNeeded (some .boolean) (some (.int (b2i r))) μ) : V G C F_X12_isNeeded 4 [some (.ref (G.2.1 + 264)), some (.int l1), some (.int (b2i l2)), some (.int l3)] [] (pic G μ) n 0 0 := by
  unfold f_X12_isNeeded_l4 at hf
  obtain ⟨t, hl, hf⟩ := ob hf
  refine loopV (P := fun z => ∀ n, V G C F_X12_isNeeded 4 [some (.ref (G.2.1 + 264)), some (.int l1), some (.int (b2i z.1)), some (.int z.2)] [] (pic G μ) n 0 0) (t := t) ?_ _ _ hl n
  intro z y' hy hI hT n
  refine s_X12_isNeeded_b4 hG hy ⟨hI, fun x9 ex => ?_⟩
  have ex2 := hT x9 ex
  subst ex2
  intro n
  exact s_X12_isNeeded_j83 hG hf hK
theorem s_X12_isNeeded_e {G : Gl} (hG : G.1.stackTraces = false) {C : Cx} {n : Nat} {μ : Mem} {p1 : Int32} {r : Bool} (hf : f_X12_isNeeded μ p1 = some r) (hK : FinR G C F_X12_isNeeded (some .boolean) (some (.int (b2i r))) μ) : V G C F_X12_isNeeded 0 [some (.ref (G.2.1 + 264)), some (.int p1), none, none] [] (pic G μ) n 0 0 := by
  unfold f_X12_isNeeded at hf
  refine V_iconst (v := 1) d_X12_isNeeded_0 ic_1 ?_
  refine V_istore_n (ls' := [_, _, _, _]) d_X12_isNeeded_1 rfl rfl rfl ?_
  refine V_iconst (v := 0) d_X12_isNeeded_2 ic_0 ?_
  refine V_istore_n (ls' := [_, _, _, _]) d_X12_isNeeded_3 rfl rfl rfl ?_
  refine V_less (ls' := [some _, some _, some _, some _]) ⟨rfl, rfl, rfl, rfl, trivial⟩ ?_
  exact s_X12_isNeeded_l4 hG hf hK
theorem s_X12_isNeeded {G : Gl} (hG : G.1.stackTraces = false) {μ : Mem} {p1 : Int32} {r : Bool} (hf : f_X12_isNeeded μ p1 = some r) : Rt G yX12_isNeeded F_X12_isNeeded (some .boolean) [.ref (G.2.1 + 264), .int p1] μ (some (.int (b2i r))) μ := fun n => Sd.of hG ⟨by decide +kernel, rfl, rfl⟩ rfl (Nat.le_of_ble_eq_true rfl) rfl (fun C hK => s_X12_isNeeded_e hG hf hK)
theorem d_X12_needed_0 : decode cX12_needed 0 = .ok (.aload_n 0, 1) := by decide +kernel
theorem d_X12_needed_1 : decode cX12_needed 1 = .ok (.iconst 0, 1) := by decide +kernel
theorem d_X12_needed_2 : decode cX12_needed 2 = .ok (.putfield 3, 3) := by decide +kernel
theorem d_X12_needed_5 : decode cX12_needed 5 = .ok (.aload_n 0, 1) := by decide +kernel
theorem d_X12_needed_6 : decode cX12_needed 6 = .ok (.invokevirtual 413, 3) := by decide +kernel
theorem d_X12_needed_9 : decode cX12_needed 9 = .ok (.istore_n 1, 1) := by decide +kernel
theorem d_X12_needed_10 : decode cX12_needed 10 = .ok (.iload_n 1, 1) := by decide +kernel
theorem d_X12_needed_11 : decode cX12_needed 11 = .ok (.istore_n 2, 1) := by decide +kernel
theorem d_X12_needed_12 : decode cX12_needed 12 = .ok (.iload_n 2, 1) := by decide +kernel
theorem d_X12_needed_13 : decode cX12_needed 13 = .ok (.ifCond .lt 34, 3) := by decide +kernel
theorem d_X12_needed_16 : decode cX12_needed 16 = .ok (.iload_n 2, 1) := by decide +kernel
theorem d_X12_needed_17 : decode cX12_needed 17 = .ok (.invokestatic 272, 3) := by decide +kernel
theorem d_X12_needed_20 : decode cX12_needed 20 = .ok (.iload_n 1, 1) := by decide +kernel
theorem d_X12_needed_21 : decode cX12_needed 21 = .ok (.invokestatic 272, 3) := by decide +kernel
theorem d_X12_needed_24 : decode cX12_needed 24 = .ok (.if_icmp .gt 15, 3) := by decide +kernel
theorem d_X12_needed_27 : decode cX12_needed 27 = .ok (.aload_n 0, 1) := by decide +kernel
theorem d_X12_needed_28 : decode cX12_needed 28 = .ok (.iload_n 2, 1) := by decide +kernel
theorem d_X12_needed_29 : decode cX12_needed 29 = .ok (.invokevirtual 416, 3) := by decide +kernel
theorem d_X12_needed_32 : decode cX12_needed 32 = .ok (.ifCond .eq 7, 3) := by decide +kernel
theorem d_X12_needed_35 : decode cX12_needed 35 = .ok (.iload_n 2, 1) := by decide +kernel
theorem d_X12_needed_36 : decode cX12_needed 36 = .ok (.goto 4, 3) := by decide +kernel
theorem d_X12_needed_39 : decode cX12_needed 39 = .ok (.iload_n 1, 1) := by decide +kernel
theorem d_X12_needed_40 : decode cX12_needed 40 = .ok (.istore_n 1, 1) := by decide +kernel
theorem d_X12_needed_41 : decode cX12_needed 41 = .ok (.iinc 2 (-1), 3) := by decide +kernel
theorem d_X12_needed_44 : decode cX12_needed 44 = .ok (.goto (-32), 3) := by decide +kernel
theorem d_X12_needed_47 : decode cX12_needed 47 = .ok (.iload_n 1, 1) := by decide +kernel
theorem d_X12_needed_48 : decode cX12_needed 48 = .ok (.ireturn, 1) := by decide +kernel
theorem s_X12_needed_j40_12 {G : Gl} (hG : G.1.stackTraces = false) {C : Cx} {n : Nat} {μ : Mem} {l2 : Int32} {k0 : Int32} {y : ((Int32 × Int32) ⊕ Int32)} (hf : f_X12_needed_j40_12 μ l2 k0 = some y) (hK : (∀ z', y = .inl z' → ∀ n, V G C F_X12_needed 12 [some (.ref (G.2.1 + 264)), some (.int z'.1), some (.int z'.2)] [] (pic G μ) n 0 0) ∧ (∀ x', y = .inr x' → ∀ n, V G C F_X12_needed 47 [none, some (.int x'), none] [] (pic G μ) n 0 0)) : V G C F_X12_needed 40 [some (.ref (G.2.1 + 264)), none, some (.int l2)] [.int k0] (pic G μ) n 0 0 := by
  unfold f_X12_needed_j40_12 at hf
  refine V_istore_n (ls' := [_, _, _]) d_X12_needed_40 rfl rfl rfl ?_
  refine V_iinc (v := (l2 + (-1))) (ls' := [_, _, _]) d_X12_needed_41 rfl (by rw [ic_m1]) rfl ?_
  refine V_goto (tgt := 12) d_X12_needed_44 (by decide) ?_
  refine V_less (ls' := [some _, some _, some _]) ⟨rfl, rfl, rfl, trivial⟩ ?_
  cases hf
  exact hK.1 _ rfl _
theorem s_X12_needed_j39_12 {G : Gl} (hG : G.1.stackTraces = false) {C : Cx} {n : Nat} {μ : Mem} {l1 : Int32} {l2 : Int32} {y : ((Int32 × Int32) ⊕ Int32)} (hf : f_X12_needed_j39_12 μ l1 l2 = some y) (hK : (∀ z', y = .inl z' → ∀ n, V G C F_X12_needed 12 [some (.ref (G.2.1 + 264)), some (.int z'.1), some (.int z'.2)] [] (pic G μ) n 0 0) ∧ (∀ x', y = .inr x' → ∀ n, V G C F_X12_needed 47 [none, some (.int x'), none] [] (pic G μ) n 0 0)) : V G C F_X12_needed 39 [some (.ref (G.2.1 + 264)), some (.int l1), some (.int l2)] [] (pic G μ) n 0 0 := by
  unfold f_X12_needed_j39_12 at hf
  refine V_iload_n d_X12_needed_39 rfl rfl ?_
  refine V_less (ls' := [some _, none, some _]) ⟨rfl, rfl, trivial⟩ ?_
  exact s_X12_needed_j40_12 hG hf hK
theorem s_X12_needed_b12 {G : Gl} (hG : G.1.stackTraces = false) {C : Cx} {n : Nat} {μ : Mem} {l1 : Int32} {l2 : Int32} {y : ((Int32 × Int32) ⊕ Int32)} (hf : f_X12_needed_b12 μ l1 l2 = some y) (hK : (∀ z', y = .inl z' → ∀ n, V G C F_X12_needed 12 [some (.ref (G.2.1 + 264)), some (.int z'.1), some (.int z'.2)] [] (pic G μ) n 0 0) ∧ (∀ x', y = .inr x' → ∀ n, V G C F_X12_needed 47 [none, some (.int x'), none] [] (pic G μ) n 0 0)) : V G C F_X12_needed 12 [some (.ref (G.2.1 + 264)), some (.int l1), some (.int l2)] [] (pic G μ) n 0 0 := by
  unfold f_X12_needed_b12 at hf
  refine V_iload_n d_X12_needed_12 rfl rfl ?_
  refine V_if_lt (tgt := 47) d_X12_needed_13 (by decide) (fun c13 => ?_) (fun c13 => ?_)
  · replace hf := iteT c13 hf
    refine V_less (ls' := [none, some _, none]) ⟨rfl, trivial⟩ ?_
    cases hf
    exact hK.2 _ rfl _
  · replace hf := iteF c13 hf
    refine V_iload_n d_X12_needed_16 rfl rfl ?_
    obtain ⟨t1, ht1, hf⟩ := ob hf
    refine B_callS1 (s_J6_bitCount_0f7a4 hG ht1) m_J6_bitCount_0f7a4 ks_RX12_272 d_X12_needed_17 rfl (Nat.le_of_ble_eq_true rfl) ⟨rfl, rfl, Nat.le_of_ble_eq_true rfl, Nat.le_of_ble_eq_true rfl, Nat.le_of_ble_eq_true rfl⟩ (fun n => ?_)
    refine V_iload_n d_X12_needed_20 rfl rfl ?_
    obtain ⟨t2, ht2, hf⟩ := ob hf
    refine B_callS1 (s_J6_bitCount_0f7a4 hG ht2) m_J6_bitCount_0f7a4 ks_RX12_272 d_X12_needed_21 rfl (Nat.le_of_ble_eq_true rfl) ⟨rfl, rfl, Nat.le_of_ble_eq_true rfl, Nat.le_of_ble_eq_true rfl, Nat.le_of_ble_eq_true rfl⟩ (fun n => ?_)
    refine V_icmp_gt (tgt := 39) d_X12_needed_24 (by decide) (fun c24 => ?_) (fun c24 => ?_)
    · replace hf := iteT c24 hf
      refine V_less (ls' := [some _, some _, some _]) ⟨rfl, rfl, rfl, trivial⟩ ?_
      exact s_X12_needed_j39_12 hG hf hK
    · replace hf := iteF c24 hf
      refine V_aload_n d_X12_needed_27 rfl rfl ?_
      refine V_iload_n d_X12_needed_28 rfl rfl ?_
      obtain ⟨t3, ht3, hf⟩ := ob hf
      refine B_callV1 (s_X12_isNeeded hG ht3) k_264 clX12 m_X12_isNeeded kv_RX12_416 d_X12_needed_29 rfl (Nat.le_of_ble_eq_true rfl) ⟨rfl, rfl, Nat.le_of_ble_eq_true rfl, Nat.le_of_ble_eq_true rfl, Nat.le_of_ble_eq_true rfl⟩ (fun n => ?_)
      have hJj4 : ∀ j4 : Int32, j4 = (if t3 = true then (l2 : Int32) else l1) → V G C F_X12_needed 40 [some (.ref (G.2.1 + 264)), none, some (.int l2)] [.int j4] (pic G μ) n 0 0 := by
        intro j4 ej4
        subst ej4
        refine V_istore_n (ls' := [_, _, _]) d_X12_needed_40 rfl rfl rfl ?_
        refine V_iinc (v := (l2 + (-1))) (ls' := [_, _, _]) d_X12_needed_41 rfl (by rw [ic_m1]) rfl ?_
        refine V_goto (tgt := 12) d_X12_needed_44 (by decide) ?_
        refine V_less (ls' := [some _, some _, some _]) ⟨rfl, rfl, rfl, trivial⟩ ?_
        cases hf
        exact hK.1 _ rfl _
      refine V_if_eq (tgt := 39) d_X12_needed_32 (by decide) (fun c32 => ?_) (fun c32 => ?_)
      · refine V_iload_n d_X12_needed_39 rfl rfl ?_
        refine V_less (ls' := [some _, none, some _]) ⟨rfl, rfl, trivial⟩ ?_
        exact hJj4 l1 (by rw [if_neg (b2i_nt (b2i_eq0 c32))])
      · refine V_iload_n d_X12_needed_35 rfl rfl ?_
        refine V_goto (tgt := 40) d_X12_needed_36 (by decide) ?_
        refine V_less (ls' := [some _, none, some _]) ⟨rfl, rfl, trivial⟩ ?_
        exact hJj4 l2 (by rw [if_pos (b2i_ne0 c32)])
theorem s_X12_needed_j47 {G : Gl} (hG : G.1.stackTraces = false) {C : Cx} {n : Nat} {μ : Mem} {l1 : Int32} {r : (Int32 × Mem)} (hf : f_X12_needed_j47 μ l1 = some r) (hK : FinR G C F_X12_needed (some .int) (some (.int r.1)) r.2) : V G C F_X12_needed 47 [none, some (.int l1), none] [] (pic G μ) n 0 0 := by
  unfold f_X12_needed_j47 at hf
  refine V_iload_n d_X12_needed_47 rfl rfl ?_
  cases hf
  exact R_i hK d_X12_needed_48 (Nat.le_of_ble_eq_true rfl) (Nat.le_of_ble_eq_true rfl)
theorem s_X12_needed_l12 {G : Gl} (hG : G.1.stackTraces = false) {C : Cx} {n : Nat} {μ : Mem} {l1 : Int32} {l2 : Int32} {r : (Int32 × Mem)} (hf : f_X12_needed_l12 μ l1 l2 = some r) (hK : FinR G C F_X12_needed (some .int) (some (.int r.1)) r.2) : V G C F_X12_needed 12 [some (.ref (G.2.1 + 264)), some (.int l1), some (.int l2)] [] (pic G μ) n 0 0 := by
  unfold f_X12_needed_l12 at hf
  obtain ⟨t, hl, hf⟩ := ob hf
  refine loopV (P := fun z => ∀ n, V G C F_X12_needed 12 [some (.ref (G.2.1 + 264)), some (.int z.1), some (.int z.2)] [] (pic G μ) n 0 0) (t := t) ?_ _ _ hl n
  intro z y' hy hI hT n
  refine s_X12_needed_b12 hG hy ⟨hI, fun x9 ex => ?_⟩
  have ex2 := hT x9 ex
  subst ex2
  intro n
  exact s_X12_needed_j47 hG hf hK
theorem s_X12_needed_e {G : Gl} (hG : G.1.stackTraces = false) {C : Cx} {n : Nat} {μ : Mem}  {r : (Int32 × Mem)} (hf : f_X12_needed μ = some r) (hK : FinR G C F_X12_needed (some .int) (some (.int r.1)) r.2) : V G C F_X12_needed 0 [some (.ref (G.2.1 + 264)), none, none] [] (pic G μ) n 0 0 := by
  unfold f_X12_needed at hf
  refine V_aload_n d_X12_needed_0 rfl rfl ?_
  refine V_iconst (v := 0) d_X12_needed_1 ic_0 ?_
  refine B_putI k_264 fl_RX12_3 pt_12_0 (Nat.le_of_ble_eq_true rfl) p_12_0 d_X12_needed_2 ?_
  refine V_aload_n d_X12_needed_5 rfl rfl ?_
  obtain ⟨t1, ht1, hf⟩ := ob hf
  refine B_callV1 (s_X12_everybody hG ht1) k_264 clX12 m_X12_everybody kv_RX12_413 d_X12_needed_6 rfl (Nat.le_of_ble_eq_true rfl) ⟨rfl, rfl, Nat.le_of_ble_eq_true rfl, Nat.le_of_ble_eq_true rfl, Nat.le_of_ble_eq_true rfl⟩ (fun n => ?_)
  refine V_istore_n (ls' := [_, _, _]) d_X12_needed_9 rfl rfl rfl ?_
  refine V_iload_n d_X12_needed_10 rfl rfl ?_
  refine V_istore_n (ls' := [_, _, _]) d_X12_needed_11 rfl rfl rfl ?_
  refine V_less (ls' := [some _, some _, some _]) ⟨rfl, rfl, rfl, trivial⟩ ?_
  exact s_X12_needed_l12 hG hf hK
theorem s_X12_needed {G : Gl} (hG : G.1.stackTraces = false) {μ : Mem} {r : (Int32 × Mem)} (hf : f_X12_needed μ = some r) : Rt G yX12_needed F_X12_needed (some .int) [.ref (G.2.1 + 264)] μ (some (.int r.1)) r.2 := fun n => Sd.of hG ⟨by decide +kernel, rfl, rfl⟩ rfl (Nat.le_of_ble_eq_true rfl) rfl (fun C hK => s_X12_needed_e hG hf hK)
theorem d_X12_isTold_0 : decode cX12_isTold 0 = .ok (.aload_n 0, 1) := by decide +kernel
theorem d_X12_isTold_1 : decode cX12_isTold 1 = .ok (.getfield 99, 3) := by decide +kernel
theorem d_X12_isTold_4 : decode cX12_isTold 4 = .ok (.iconst 3, 1) := by decide +kernel
theorem d_X12_isTold_5 : decode cX12_isTold 5 = .ok (.irem, 1) := by decide +kernel
theorem d_X12_isTold_6 : decode cX12_isTold 6 = .ok (.ifCond .ne 16, 3) := by decide +kernel
theorem d_X12_isTold_9 : decode cX12_isTold 9 = .ok (.aload_n 0, 1) := by decide +kernel
theorem d_X12_isTold_10 : decode cX12_isTold 10 = .ok (.getfield 99, 3) := by decide +kernel
theorem d_X12_isTold_13 : decode cX12_isTold 13 = .ok (.bipush 36, 2) := by decide +kernel
theorem d_X12_isTold_15 : decode cX12_isTold 15 = .ok (.if_icmp .gt 7, 3) := by decide +kernel
theorem d_X12_isTold_18 : decode cX12_isTold 18 = .ok (.iconst 1, 1) := by decide +kernel
theorem d_X12_isTold_19 : decode cX12_isTold 19 = .ok (.goto 4, 3) := by decide +kernel
theorem d_X12_isTold_22 : decode cX12_isTold 22 = .ok (.iconst 0, 1) := by decide +kernel
theorem d_X12_isTold_23 : decode cX12_isTold 23 = .ok (.istore_n 1, 1) := by decide +kernel
theorem d_X12_isTold_24 : decode cX12_isTold 24 = .ok (.iconst 0, 1) := by decide +kernel
theorem d_X12_isTold_25 : decode cX12_isTold 25 = .ok (.istore_n 2, 1) := by decide +kernel
theorem d_X12_isTold_26 : decode cX12_isTold 26 = .ok (.iload_n 2, 1) := by decide +kernel
theorem d_X12_isTold_27 : decode cX12_isTold 27 = .ok (.aload_n 0, 1) := by decide +kernel
theorem d_X12_isTold_28 : decode cX12_isTold 28 = .ok (.getfield 99, 3) := by decide +kernel
theorem d_X12_isTold_31 : decode cX12_isTold 31 = .ok (.if_icmp .ge 64, 3) := by decide +kernel
theorem d_X12_isTold_34 : decode cX12_isTold 34 = .ok (.iload_n 1, 1) := by decide +kernel
theorem d_X12_isTold_35 : decode cX12_isTold 35 = .ok (.ifCond .eq 60, 3) := by decide +kernel
theorem d_X12_isTold_38 : decode cX12_isTold 38 = .ok (.aload_n 0, 1) := by decide +kernel
theorem d_X12_isTold_39 : decode cX12_isTold 39 = .ok (.aload_n 0, 1) := by decide +kernel
theorem d_X12_isTold_40 : decode cX12_isTold 40 = .ok (.getfield 29, 3) := by decide +kernel
theorem d_X12_isTold_43 : decode cX12_isTold 43 = .ok (.iload_n 2, 1) := by decide +kernel
theorem d_X12_isTold_44 : decode cX12_isTold 44 = .ok (.baload, 1) := by decide +kernel
theorem d_X12_isTold_45 : decode cX12_isTold 45 = .ok (.invokevirtual 305, 3) := by decide +kernel
theorem d_X12_isTold_48 : decode cX12_isTold 48 = .ok (.ifCond .ne 39, 3) := by decide +kernel
theorem d_X12_isTold_51 : decode cX12_isTold 51 = .ok (.aload_n 0, 1) := by decide +kernel
theorem d_X12_isTold_52 : decode cX12_isTold 52 = .ok (.aload_n 0, 1) := by decide +kernel
theorem d_X12_isTold_53 : decode cX12_isTold 53 = .ok (.getfield 29, 3) := by decide +kernel
theorem d_X12_isTold_56 : decode cX12_isTold 56 = .ok (.iload_n 2, 1) := by decide +kernel
theorem d_X12_isTold_57 : decode cX12_isTold 57 = .ok (.iconst 1, 1) := by decide +kernel
theorem d_X12_isTold_58 : decode cX12_isTold 58 = .ok (.iadd, 1) := by decide +kernel
theorem d_X12_isTold_59 : decode cX12_isTold 59 = .ok (.baload, 1) := by decide +kernel
theorem d_X12_isTold_60 : decode cX12_isTold 60 = .ok (.invokevirtual 305, 3) := by decide +kernel
theorem d_X12_isTold_63 : decode cX12_isTold 63 = .ok (.ifCond .ne 24, 3) := by decide +kernel
theorem d_X12_isTold_66 : decode cX12_isTold 66 = .ok (.aload_n 0, 1) := by decide +kernel
theorem d_X12_isTold_67 : decode cX12_isTold 67 = .ok (.getfield 29, 3) := by decide +kernel
theorem d_X12_isTold_70 : decode cX12_isTold 70 = .ok (.iload_n 2, 1) := by decide +kernel
theorem d_X12_isTold_71 : decode cX12_isTold 71 = .ok (.baload, 1) := by decide +kernel
theorem d_X12_isTold_72 : decode cX12_isTold 72 = .ok (.aload_n 0, 1) := by decide +kernel
theorem d_X12_isTold_73 : decode cX12_isTold 73 = .ok (.getfield 29, 3) := by decide +kernel
theorem d_X12_isTold_76 : decode cX12_isTold 76 = .ok (.iload_n 2, 1) := by decide +kernel
theorem d_X12_isTold_77 : decode cX12_isTold 77 = .ok (.iconst 1, 1) := by decide +kernel
theorem d_X12_isTold_78 : decode cX12_isTold 78 = .ok (.iadd, 1) := by decide +kernel
theorem d_X12_isTold_79 : decode cX12_isTold 79 = .ok (.baload, 1) := by decide +kernel
theorem d_X12_isTold_80 : decode cX12_isTold 80 = .ok (.if_icmp .gt 7, 3) := by decide +kernel
theorem d_X12_isTold_83 : decode cX12_isTold 83 = .ok (.iconst 1, 1) := by decide +kernel
theorem d_X12_isTold_84 : decode cX12_isTold 84 = .ok (.goto 4, 3) := by decide +kernel
theorem d_X12_isTold_87 : decode cX12_isTold 87 = .ok (.iconst 0, 1) := by decide +kernel
theorem d_X12_isTold_88 : decode cX12_isTold 88 = .ok (.istore_n 1, 1) := by decide +kernel
theorem d_X12_isTold_89 : decode cX12_isTold 89 = .ok (.iinc 2 3, 3) := by decide +kernel
theorem d_X12_isTold_92 : decode cX12_isTold 92 = .ok (.goto (-66), 3) := by decide +kernel
theorem d_X12_isTold_95 : decode cX12_isTold 95 = .ok (.iload_n 1, 1) := by decide +kernel
theorem d_X12_isTold_96 : decode cX12_isTold 96 = .ok (.ireturn, 1) := by decide +kernel
theorem s_X12_isTold_j88_26 {G : Gl} (hG : G.1.stackTraces = false) {C : Cx} {n : Nat} {μ : Mem} {l2 : Int32} {k0 : Bool} {y : ((Bool × Int32) ⊕ Bool)} (hf : f_X12_isTold_j88_26 μ l2 k0 = some y) (hK : (∀ z', y = .inl z' → ∀ n, V G C F_X12_isTold 26 [some (.ref (G.2.1 + 264)), some (.int (b2i z'.1)), some (.int z'.2)] [] (pic G μ) n 0 0) ∧ (∀ x', y = .inr x' → ∀ n, V G C F_X12_isTold 95 [none, some (.int (b2i x')), none] [] (pic G μ) n 0 0)) : V G C F_X12_isTold 88 [some (.ref (G.2.1 + 264)), none, some (.int l2)] [.int (b2i k0)] (pic G μ) n 0 0 := by
  unfold f_X12_isTold_j88_26 at hf
  refine V_istore_n (ls' := [_, _, _]) d_X12_isTold_88 rfl rfl rfl ?_
  refine V_iinc (v := (l2 + 3)) (ls' := [_, _, _]) d_X12_isTold_89 rfl (by rw [ic_3]) rfl ?_
  refine V_goto (tgt := 26) d_X12_isTold_92 (by decide) ?_
  refine V_less (ls' := [some _, some _, some _]) ⟨rfl, rfl, rfl, trivial⟩ ?_
  cases hf
  exact hK.1 _ rfl _
theorem s_X12_isTold_j87_26 {G : Gl} (hG : G.1.stackTraces = false) {C : Cx} {n : Nat} {μ : Mem} {l2 : Int32} {y : ((Bool × Int32) ⊕ Bool)} (hf : f_X12_isTold_j87_26 μ l2 = some y) (hK : (∀ z', y = .inl z' → ∀ n, V G C F_X12_isTold 26 [some (.ref (G.2.1 + 264)), some (.int (b2i z'.1)), some (.int z'.2)] [] (pic G μ) n 0 0) ∧ (∀ x', y = .inr x' → ∀ n, V G C F_X12_isTold 95 [none, some (.int (b2i x')), none] [] (pic G μ) n 0 0)) : V G C F_X12_isTold 87 [some (.ref (G.2.1 + 264)), none, some (.int l2)] [] (pic G μ) n 0 0 := by
  unfold f_X12_isTold_j87_26 at hf
  refine V_iconst (v := 0) d_X12_isTold_87 ic_0 ?_
  refine V_less (ls' := [some _, none, some _]) ⟨rfl, rfl, trivial⟩ ?_
  exact s_X12_isTold_j88_26 hG hf hK
theorem s_X12_isTold_b26 {G : Gl} (hG : G.1.stackTraces = false) {C : Cx} {n : Nat} {μ : Mem} {l1 : Bool} {l2 : Int32} {y : ((Bool × Int32) ⊕ Bool)} (hf : f_X12_isTold_b26 μ l1 l2 = some y) (hK : (∀ z', y = .inl z' → ∀ n, V G C F_X12_isTold 26 [some (.ref (G.2.1 + 264)), some (.int (b2i z'.1)), some (.int z'.2)] [] (pic G μ) n 0 0) ∧ (∀ x', y = .inr x' → ∀ n, V G C F_X12_isTold 95 [none, some (.int (b2i x')), none] [] (pic G μ) n 0 0)) : V G C F_X12_isTold 26 [some (.ref (G.2.1 + 264)), some (.int (b2i l1)), some (.int l2)] [] (pic G μ) n 0 0 := by
  unfold f_X12_isTold_b26 at hf
  refine V_iload_n d_X12_isTold_26 rfl rfl ?_
  refine V_aload_n d_X12_isTold_27 rfl rfl ?_
  refine B_get k_264 fl_RX12_99 d_X12_isTold_28 g_12_11 ?_
  refine V_icmp_ge (tgt := 95) d_X12_isTold_31 (by decide) (fun c31 => ?_) (fun c31 => ?_)
  · replace hf := iteT c31 hf
    refine V_less (ls' := [none, some _, none]) ⟨rfl, trivial⟩ ?_
    cases hf
    exact hK.2 _ rfl _
  · replace hf := iteF c31 hf
    refine V_iload_n d_X12_isTold_34 rfl rfl ?_
    refine V_if_eq (tgt := 95) d_X12_isTold_35 (by decide) (fun c35 => ?_) (fun c35 => ?_)
    · replace hf := iteF (b2i_nt (b2i_eq0 c35)) hf
      refine V_less (ls' := [none, some _, none]) ⟨rfl, trivial⟩ ?_
      cases hf
      exact hK.2 _ rfl _
    · replace hf := iteT (b2i_ne0 c35) hf
      refine V_aload_n d_X12_isTold_38 rfl rfl ?_
      refine V_aload_n d_X12_isTold_39 rfl rfl ?_
      refine B_get k_264 fl_RX12_29 d_X12_isTold_40 g_12_8 ?_
      refine V_iload_n d_X12_isTold_43 rfl rfl ?_
      obtain ⟨t1, ht1, hf⟩ := ob hf
      refine B_bald k_270 ht1 d_X12_isTold_44 ?_
      obtain ⟨t2, ht2, hf⟩ := ob hf
      refine B_callV1 (s_X12_noPerson hG ht2) k_264 clX12 m_X12_noPerson kv_RX12_305 d_X12_isTold_45 rfl (Nat.le_of_ble_eq_true rfl) ⟨rfl, rfl, Nat.le_of_ble_eq_true rfl, Nat.le_of_ble_eq_true rfl, Nat.le_of_ble_eq_true rfl⟩ (fun n => ?_)
      refine V_if_ne (tgt := 87) d_X12_isTold_48 (by decide) (fun c48 => ?_) (fun c48 => ?_)
      · replace hf := iteT (b2i_ne0 c48) hf
        refine V_less (ls' := [some _, none, some _]) ⟨rfl, rfl, trivial⟩ ?_
        exact s_X12_isTold_j87_26 hG hf hK
      · replace hf := iteF (b2i_nt (b2i_eq0 c48)) hf
        refine V_aload_n d_X12_isTold_51 rfl rfl ?_
        refine V_aload_n d_X12_isTold_52 rfl rfl ?_
        refine B_get k_264 fl_RX12_29 d_X12_isTold_53 g_12_8 ?_
        refine V_iload_n d_X12_isTold_56 rfl rfl ?_
        refine V_iconst (v := 1) d_X12_isTold_57 ic_1 ?_
        refine V_iadd d_X12_isTold_58 ?_
        obtain ⟨t3, ht3, hf⟩ := ob hf
        refine B_bald k_270 ht3 d_X12_isTold_59 ?_
        obtain ⟨t4, ht4, hf⟩ := ob hf
        refine B_callV1 (s_X12_noPerson hG ht4) k_264 clX12 m_X12_noPerson kv_RX12_305 d_X12_isTold_60 rfl (Nat.le_of_ble_eq_true rfl) ⟨rfl, rfl, Nat.le_of_ble_eq_true rfl, Nat.le_of_ble_eq_true rfl, Nat.le_of_ble_eq_true rfl⟩ (fun n => ?_)
        refine V_if_ne (tgt := 87) d_X12_isTold_63 (by decide) (fun c63 => ?_) (fun c63 => ?_)
        · replace hf := iteT (b2i_ne0 c63) hf
          refine V_less (ls' := [some _, none, some _]) ⟨rfl, rfl, trivial⟩ ?_
          exact s_X12_isTold_j87_26 hG hf hK
        · replace hf := iteF (b2i_nt (b2i_eq0 c63)) hf
          refine V_aload_n d_X12_isTold_66 rfl rfl ?_
          refine B_get k_264 fl_RX12_29 d_X12_isTold_67 g_12_8 ?_
          refine V_iload_n d_X12_isTold_70 rfl rfl ?_
          obtain ⟨t5, ht5, hf⟩ := ob hf
          refine B_bald k_270 ht5 d_X12_isTold_71 ?_
          refine V_aload_n d_X12_isTold_72 rfl rfl ?_
          refine B_get k_264 fl_RX12_29 d_X12_isTold_73 g_12_8 ?_
          refine V_iload_n d_X12_isTold_76 rfl rfl ?_
          refine V_iconst (v := 1) d_X12_isTold_77 ic_1 ?_
          refine V_iadd d_X12_isTold_78 ?_
          obtain ⟨t6, ht6, hf⟩ := ob hf
          refine B_bald k_270 ht6 d_X12_isTold_79 ?_
          have hJj7 : ∀ j7 : Bool, j7 = (if t6 < t5 then (false : Bool) else true) → V G C F_X12_isTold 88 [some (.ref (G.2.1 + 264)), none, some (.int l2)] [.int (b2i j7)] (pic G μ) n 0 0 := by
            intro j7 ej7
            subst ej7
            refine V_istore_n (ls' := [_, _, _]) d_X12_isTold_88 rfl rfl rfl ?_
            refine V_iinc (v := (l2 + 3)) (ls' := [_, _, _]) d_X12_isTold_89 rfl (by rw [ic_3]) rfl ?_
            refine V_goto (tgt := 26) d_X12_isTold_92 (by decide) ?_
            refine V_less (ls' := [some _, some _, some _]) ⟨rfl, rfl, rfl, trivial⟩ ?_
            cases hf
            exact hK.1 _ rfl _
          refine V_icmp_gt (tgt := 87) d_X12_isTold_80 (by decide) (fun c80 => ?_) (fun c80 => ?_)
          · refine V_iconst (v := 0) d_X12_isTold_87 ic_0 ?_
            refine V_less (ls' := [some _, none, some _]) ⟨rfl, rfl, trivial⟩ ?_
            exact hJj7 false (by rw [if_pos c80])
          · refine V_iconst (v := 1) d_X12_isTold_83 ic_1 ?_
            refine V_goto (tgt := 88) d_X12_isTold_84 (by decide) ?_
            refine V_less (ls' := [some _, none, some _]) ⟨rfl, rfl, trivial⟩ ?_
            exact hJj7 true (by rw [if_neg c80])
theorem s_X12_isTold_j95 {G : Gl} (hG : G.1.stackTraces = false) {C : Cx} {n : Nat} {μ : Mem} {l1 : Bool} {r : Bool} (hf : f_X12_isTold_j95 μ l1 = some r) (hK : FinR G C F_X12_isTold (some .boolean) (some (.int (b2i r))) μ) : V G C F_X12_isTold 95 [none, some (.int (b2i l1)), none] [] (pic G μ) n 0 0 := by
  unfold f_X12_isTold_j95 at hf
  refine V_iload_n d_X12_isTold_95 rfl rfl ?_
  cases hf
  exact R_z hK d_X12_isTold_96 (Nat.le_of_ble_eq_true rfl) (Nat.le_of_ble_eq_true rfl)
theorem s_X12_isTold_l26 {G : Gl} (hG : G.1.stackTraces = false) {C : Cx} {n : Nat} {μ : Mem} {l1 : Bool} {l2 : Int32} {r : Bool} (hf : f_X12_isTold_l26 μ l1 l2 = some r) (hK : FinR G C F_X12_isTold (some .boolean) (some (.int (b2i r))) μ) : V G C F_X12_isTold 26 [some (.ref (G.2.1 + 264)), some (.int (b2i l1)), some (.int l2)] [] (pic G μ) n 0 0 := by
  unfold f_X12_isTold_l26 at hf
  obtain ⟨t, hl, hf⟩ := ob hf
  refine loopV (P := fun z => ∀ n, V G C F_X12_isTold 26 [some (.ref (G.2.1 + 264)), some (.int (b2i z.1)), some (.int z.2)] [] (pic G μ) n 0 0) (t := t) ?_ _ _ hl n
  intro z y' hy hI hT n
  refine s_X12_isTold_b26 hG hy ⟨hI, fun x9 ex => ?_⟩
  have ex2 := hT x9 ex
  subst ex2
  intro n
  exact s_X12_isTold_j95 hG hf hK
theorem s_X12_isTold_e {G : Gl} (hG : G.1.stackTraces = false) {C : Cx} {n : Nat} {μ : Mem}  {r : Bool} (hf : f_X12_isTold μ = some r) (hK : FinR G C F_X12_isTold (some .boolean) (some (.int (b2i r))) μ) : V G C F_X12_isTold 0 [some (.ref (G.2.1 + 264)), none, none] [] (pic G μ) n 0 0 := by
  unfold f_X12_isTold at hf
  refine V_aload_n d_X12_isTold_0 rfl rfl ?_
  refine B_get k_264 fl_RX12_99 d_X12_isTold_1 g_12_11 ?_
  refine V_iconst (v := 3) d_X12_isTold_4 ic_3 ?_
  obtain ⟨t1, ht1, hf⟩ := ob hf
  obtain ⟨gt1, ht1⟩ := rm_some ht1
  refine V_irem d_X12_isTold_5 gt1 ?_
  rw [ht1]
  have hJj2 : ∀ j2 : Bool, j2 = (if t1 = 0 then ((if 36 < (μ 264 11) then (false : Bool) else true) : Bool) else false) → V G C F_X12_isTold 23 [some (.ref (G.2.1 + 264)), none, none] [.int (b2i j2)] (pic G μ) n 0 0 := by
    intro j2 ej2
    subst ej2
    refine V_istore_n (ls' := [_, _, _]) d_X12_isTold_23 rfl rfl rfl ?_
    refine V_iconst (v := 0) d_X12_isTold_24 ic_0 ?_
    refine V_istore_n (ls' := [_, _, _]) d_X12_isTold_25 rfl rfl rfl ?_
    refine V_less (ls' := [some _, some _, some _]) ⟨rfl, rfl, rfl, trivial⟩ ?_
    exact s_X12_isTold_l26 hG hf hK
  refine V_if_ne (tgt := 22) d_X12_isTold_6 (by decide) (fun c6 => ?_) (fun c6 => ?_)
  · refine V_iconst (v := 0) d_X12_isTold_22 ic_0 ?_
    refine V_less (ls' := [some _, none, none]) ⟨rfl, trivial⟩ ?_
    exact hJj2 false (by rw [if_neg c6])
  · refine V_aload_n d_X12_isTold_9 rfl rfl ?_
    refine B_get k_264 fl_RX12_99 d_X12_isTold_10 g_12_11 ?_
    refine V_bipush (v := 36) d_X12_isTold_13 bp_36 ?_
    refine V_icmp_gt (tgt := 22) d_X12_isTold_15 (by decide) (fun c15 => ?_) (fun c15 => ?_)
    · refine V_iconst (v := 0) d_X12_isTold_22 ic_0 ?_
      refine V_less (ls' := [some _, none, none]) ⟨rfl, trivial⟩ ?_
      exact hJj2 false (by rw [if_pos c6, if_pos c15])
    · refine V_iconst (v := 1) d_X12_isTold_18 ic_1 ?_
      refine V_goto (tgt := 23) d_X12_isTold_19 (by decide) ?_
      refine V_less (ls' := [some _, none, none]) ⟨rfl, trivial⟩ ?_
      exact hJj2 true (by rw [if_pos c6, if_neg c15])
theorem s_X12_isTold {G : Gl} (hG : G.1.stackTraces = false) {μ : Mem} {r : Bool} (hf : f_X12_isTold μ = some r) : Rt G yX12_isTold F_X12_isTold (some .boolean) [.ref (G.2.1 + 264)] μ (some (.int (b2i r))) μ := fun n => Sd.of hG ⟨by decide +kernel, rfl, rfl⟩ rfl (Nat.le_of_ble_eq_true rfl) rfl (fun C hK => s_X12_isTold_e hG hf hK)
theorem d_X12_fits_0 : decode cX12_fits 0 = .ok (.iconst 1, 1) := by decide +kernel
theorem d_X12_fits_1 : decode cX12_fits 1 = .ok (.istore_n 2, 1) := by decide +kernel
theorem d_X12_fits_2 : decode cX12_fits 2 = .ok (.iconst 0, 1) := by decide +kernel
theorem d_X12_fits_3 : decode cX12_fits 3 = .ok (.istore_n 3, 1) := by decide +kernel
theorem d_X12_fits_4 : decode cX12_fits 4 = .ok (.iload_n 3, 1) := by decide +kernel
theorem d_X12_fits_5 : decode cX12_fits 5 = .ok (.aload_n 0, 1) := by decide +kernel
theorem d_X12_fits_6 : decode cX12_fits 6 = .ok (.getfield 99, 3) := by decide +kernel
theorem d_X12_fits_9 : decode cX12_fits 9 = .ok (.if_icmp .ge 64, 3) := by decide +kernel
theorem d_X12_fits_12 : decode cX12_fits 12 = .ok (.iconst 1, 1) := by decide +kernel
theorem d_X12_fits_13 : decode cX12_fits 13 = .ok (.aload_n 0, 1) := by decide +kernel
theorem d_X12_fits_14 : decode cX12_fits 14 = .ok (.getfield 29, 3) := by decide +kernel
theorem d_X12_fits_17 : decode cX12_fits 17 = .ok (.iload_n 3, 1) := by decide +kernel
theorem d_X12_fits_18 : decode cX12_fits 18 = .ok (.iconst 1, 1) := by decide +kernel
theorem d_X12_fits_19 : decode cX12_fits 19 = .ok (.iadd, 1) := by decide +kernel
theorem d_X12_fits_20 : decode cX12_fits 20 = .ok (.baload, 1) := by decide +kernel
theorem d_X12_fits_21 : decode cX12_fits 21 = .ok (.iconst 1, 1) := by decide +kernel
theorem d_X12_fits_22 : decode cX12_fits 22 = .ok (.iadd, 1) := by decide +kernel
theorem d_X12_fits_23 : decode cX12_fits 23 = .ok (.ishl, 1) := by decide +kernel
theorem d_X12_fits_24 : decode cX12_fits 24 = .ok (.iconst 1, 1) := by decide +kernel
theorem d_X12_fits_25 : decode cX12_fits 25 = .ok (.aload_n 0, 1) := by decide +kernel
theorem d_X12_fits_26 : decode cX12_fits 26 = .ok (.getfield 29, 3) := by decide +kernel
theorem d_X12_fits_29 : decode cX12_fits 29 = .ok (.iload_n 3, 1) := by decide +kernel
theorem d_X12_fits_30 : decode cX12_fits 30 = .ok (.baload, 1) := by decide +kernel
theorem d_X12_fits_31 : decode cX12_fits 31 = .ok (.ishl, 1) := by decide +kernel
theorem d_X12_fits_32 : decode cX12_fits 32 = .ok (.isub, 1) := by decide +kernel
theorem d_X12_fits_33 : decode cX12_fits 33 = .ok (.istore 4, 2) := by decide +kernel
theorem d_X12_fits_35 : decode cX12_fits 35 = .ok (.iload_n 2, 1) := by decide +kernel
theorem d_X12_fits_36 : decode cX12_fits 36 = .ok (.ifCond .eq 29, 3) := by decide +kernel
theorem d_X12_fits_39 : decode cX12_fits 39 = .ok (.iload_n 1, 1) := by decide +kernel
theorem d_X12_fits_40 : decode cX12_fits 40 = .ok (.iload 4, 2) := by decide +kernel
theorem d_X12_fits_42 : decode cX12_fits 42 = .ok (.iand, 1) := by decide +kernel
theorem d_X12_fits_43 : decode cX12_fits 43 = .ok (.invokestatic 272, 3) := by decide +kernel
theorem d_X12_fits_46 : decode cX12_fits 46 = .ok (.aload_n 0, 1) := by decide +kernel
theorem d_X12_fits_47 : decode cX12_fits 47 = .ok (.getfield 29, 3) := by decide +kernel
theorem d_X12_fits_50 : decode cX12_fits 50 = .ok (.iload_n 3, 1) := by decide +kernel
theorem d_X12_fits_51 : decode cX12_fits 51 = .ok (.iconst 2, 1) := by decide +kernel
theorem d_X12_fits_52 : decode cX12_fits 52 = .ok (.iadd, 1) := by decide +kernel
theorem d_X12_fits_53 : decode cX12_fits 53 = .ok (.baload, 1) := by decide +kernel
theorem d_X12_fits_54 : decode cX12_fits 54 = .ok (.sipush 255, 3) := by decide +kernel
theorem d_X12_fits_57 : decode cX12_fits 57 = .ok (.iand, 1) := by decide +kernel
theorem d_X12_fits_58 : decode cX12_fits 58 = .ok (.if_icmp .ne 7, 3) := by decide +kernel
theorem d_X12_fits_61 : decode cX12_fits 61 = .ok (.iconst 1, 1) := by decide +kernel
theorem d_X12_fits_62 : decode cX12_fits 62 = .ok (.goto 4, 3) := by decide +kernel
theorem d_X12_fits_65 : decode cX12_fits 65 = .ok (.iconst 0, 1) := by decide +kernel
theorem d_X12_fits_66 : decode cX12_fits 66 = .ok (.istore_n 2, 1) := by decide +kernel
theorem d_X12_fits_67 : decode cX12_fits 67 = .ok (.iinc 3 3, 3) := by decide +kernel
theorem d_X12_fits_70 : decode cX12_fits 70 = .ok (.goto (-66), 3) := by decide +kernel
theorem d_X12_fits_73 : decode cX12_fits 73 = .ok (.iload_n 2, 1) := by decide +kernel
theorem d_X12_fits_74 : decode cX12_fits 74 = .ok (.ireturn, 1) := by decide +kernel
theorem s_X12_fits_j66_4 {G : Gl} (hG : G.1.stackTraces = false) {C : Cx} {n : Nat} {μ : Mem} {l1 : Int32} {l3 : Int32} {k0 : Bool} {y : ((Bool × Int32) ⊕ Bool)} (hf : f_X12_fits_j66_4 μ l1 l3 k0 = some y) (hK : (∀ z', y = .inl z' → ∀ n, V G C F_X12_fits 4 [some (.ref (G.2.1 + 264)), some (.int l1), some (.int (b2i z'.1)), some (.int z'.2), none] [] (pic G μ) n 0 0) ∧ (∀ x', y = .inr x' → ∀ n, V G C F_X12_fits 73 [none, none, some (.int (b2i x')), none, none] [] (pic G μ) n 0 0)) : V G C F_X12_fits 66 [some (.ref (G.2.1 + 264)), some (.int l1), none, some (.int l3), none] [.int (b2i k0)] (pic G μ) n 0 0 := by
  unfold f_X12_fits_j66_4 at hf
  refine V_istore_n (ls' := [_, _, _, _, _]) d_X12_fits_66 rfl rfl rfl ?_
  refine V_iinc (v := (l3 + 3)) (ls' := [_, _, _, _, _]) d_X12_fits_67 rfl (by rw [ic_3]) rfl ?_
  refine V_goto (tgt := 4) d_X12_fits_70 (by decide) ?_
  refine V_less (ls' := [some _, some _, some _, some _, none]) ⟨rfl, rfl, rfl, rfl, trivial⟩ ?_
  cases hf
  exact hK.1 _ rfl _
theorem s_X12_fits_j65_4 {G : Gl} (hG : G.1.stackTraces = false) {C : Cx} {n : Nat} {μ : Mem} {l1 : Int32} {l3 : Int32} {y : ((Bool × Int32) ⊕ Bool)} (hf : f_X12_fits_j65_4 μ l1 l3 = some y) (hK : (∀ z', y = .inl z' → ∀ n, V G C F_X12_fits 4 [some (.ref (G.2.1 + 264)), some (.int l1), some (.int (b2i z'.1)), some (.int z'.2), none] [] (pic G μ) n 0 0) ∧ (∀ x', y = .inr x' → ∀ n, V G C F_X12_fits 73 [none, none, some (.int (b2i x')), none, none] [] (pic G μ) n 0 0)) : V G C F_X12_fits 65 [some (.ref (G.2.1 + 264)), some (.int l1), none, some (.int l3), none] [] (pic G μ) n 0 0 := by
  unfold f_X12_fits_j65_4 at hf
  refine V_iconst (v := 0) d_X12_fits_65 ic_0 ?_
  refine V_less (ls' := [some _, some _, none, some _, none]) ⟨rfl, rfl, rfl, trivial⟩ ?_
  exact s_X12_fits_j66_4 hG hf hK
theorem s_X12_fits_b4 {G : Gl} (hG : G.1.stackTraces = false) {C : Cx} {n : Nat} {μ : Mem} {l1 : Int32} {l2 : Bool} {l3 : Int32} {y : ((Bool × Int32) ⊕ Bool)} (hf : f_X12_fits_b4 μ l1 l2 l3 = some y) (hK : (∀ z', y = .inl z' → ∀ n, V G C F_X12_fits 4 [some (.ref (G.2.1 + 264)), some (.int l1), some (.int (b2i z'.1)), some (.int z'.2), none] [] (pic G μ) n 0 0) ∧ (∀ x', y = .inr x' → ∀ n, V G C F_X12_fits 73 [none, none, some (.int (b2i x')), none, none] [] (pic G μ) n 0 0)) : V G C F_X12_fits 4 [some (.ref (G.2.1 + 264)), some (.int l1), some (.int (b2i l2)), some (.int l3), none] [] (pic G μ) n 0 0 := by
  unfold f_X12_fits_b4 at hf
  refine V_iload_n d_X12_fits_4 rfl rfl ?_
  refine V_aload_n d_X12_fits_5 rfl rfl ?_
  refine B_get k_264 fl_RX12_99 d_X12_fits_6 g_12_11 ?_
  refine V_icmp_ge (tgt := 73) d_X12_fits_9 (by decide) (fun c9 => ?_) (fun c9 => ?_)
  · replace hf := iteT c9 hf
    refine V_less (ls' := [none, none, some _, none, none]) ⟨rfl, trivial⟩ ?_
    cases hf
    exact hK.2 _ rfl _
  · replace hf := iteF c9 hf
    refine V_iconst (v := 1) d_X12_fits_12 ic_1 ?_
    refine V_aload_n d_X12_fits_13 rfl rfl ?_
    refine B_get k_264 fl_RX12_29 d_X12_fits_14 g_12_8 ?_
    refine V_iload_n d_X12_fits_17 rfl rfl ?_
    refine V_iconst (v := 1) d_X12_fits_18 ic_1 ?_
    refine V_iadd d_X12_fits_19 ?_
    obtain ⟨t1, ht1, hf⟩ := ob hf
    refine B_bald k_270 ht1 d_X12_fits_20 ?_
    refine V_iconst (v := 1) d_X12_fits_21 ic_1 ?_
    refine V_iadd d_X12_fits_22 ?_
    refine V_ishl d_X12_fits_23 ?_
    refine V_iconst (v := 1) d_X12_fits_24 ic_1 ?_
    refine V_aload_n d_X12_fits_25 rfl rfl ?_
    refine B_get k_264 fl_RX12_29 d_X12_fits_26 g_12_8 ?_
    refine V_iload_n d_X12_fits_29 rfl rfl ?_
    obtain ⟨t2, ht2, hf⟩ := ob hf
    refine B_bald k_270 ht2 d_X12_fits_30 ?_
    refine V_ishl d_X12_fits_31 ?_
    refine V_isub d_X12_fits_32 ?_
    refine V_istore (ls' := [_, _, _, _, _]) d_X12_fits_33 rfl rfl ?_
    refine V_iload_n d_X12_fits_35 rfl rfl ?_
    refine V_if_eq (tgt := 65) d_X12_fits_36 (by decide) (fun c36 => ?_) (fun c36 => ?_)
    · replace hf := iteF (b2i_nt (b2i_eq0 c36)) hf
      refine V_less (ls' := [some _, some _, none, some _, none]) ⟨rfl, rfl, rfl, trivial⟩ ?_
      exact s_X12_fits_j65_4 hG hf hK
    · replace hf := iteT (b2i_ne0 c36) hf
      refine V_iload_n d_X12_fits_39 rfl rfl ?_
      refine V_iload d_X12_fits_40 rfl ?_
      refine V_iand d_X12_fits_42 ?_
      obtain ⟨t3, ht3, hf⟩ := ob hf
      refine B_callS1 (s_J6_bitCount_0f7a4 hG ht3) m_J6_bitCount_0f7a4 ks_RX12_272 d_X12_fits_43 rfl (Nat.le_of_ble_eq_true rfl) ⟨rfl, rfl, Nat.le_of_ble_eq_true rfl, Nat.le_of_ble_eq_true rfl, Nat.le_of_ble_eq_true rfl⟩ (fun n => ?_)
      refine V_aload_n d_X12_fits_46 rfl rfl ?_
      refine B_get k_264 fl_RX12_29 d_X12_fits_47 g_12_8 ?_
      refine V_iload_n d_X12_fits_50 rfl rfl ?_
      refine V_iconst (v := 2) d_X12_fits_51 ic_2 ?_
      refine V_iadd d_X12_fits_52 ?_
      obtain ⟨t4, ht4, hf⟩ := ob hf
      refine B_bald k_270 ht4 d_X12_fits_53 ?_
      refine V_sipush (v := 255) d_X12_fits_54 sp_255 ?_
      refine V_iand d_X12_fits_57 ?_
      have hJj5 : ∀ j5 : Bool, j5 = (if t3 = (t4 &&& 255) then (true : Bool) else false) → V G C F_X12_fits 66 [some (.ref (G.2.1 + 264)), some (.int l1), none, some (.int l3), none] [.int (b2i j5)] (pic G μ) n 0 0 := by
        intro j5 ej5
        subst ej5
        refine V_istore_n (ls' := [_, _, _, _, _]) d_X12_fits_66 rfl rfl rfl ?_
        refine V_iinc (v := (l3 + 3)) (ls' := [_, _, _, _, _]) d_X12_fits_67 rfl (by rw [ic_3]) rfl ?_
        refine V_goto (tgt := 4) d_X12_fits_70 (by decide) ?_
        refine V_less (ls' := [some _, some _, some _, some _, none]) ⟨rfl, rfl, rfl, rfl, trivial⟩ ?_
        cases hf
        exact hK.1 _ rfl _
      refine V_icmp_ne (tgt := 65) d_X12_fits_58 (by decide) (fun c58 => ?_) (fun c58 => ?_)
      · refine V_iconst (v := 0) d_X12_fits_65 ic_0 ?_
        refine V_less (ls' := [some _, some _, none, some _, none]) ⟨rfl, rfl, rfl, trivial⟩ ?_
        exact hJj5 false (by rw [if_neg c58])
      · refine V_iconst (v := 1) d_X12_fits_61 ic_1 ?_
        refine V_goto (tgt := 66) d_X12_fits_62 (by decide) ?_
        refine V_less (ls' := [some _, some _, none, some _, none]) ⟨rfl, rfl, rfl, trivial⟩ ?_
        exact hJj5 true (by rw [if_pos c58])
theorem s_X12_fits_j73 {G : Gl} (hG : G.1.stackTraces = false) {C : Cx} {n : Nat} {μ : Mem} {l2 : Bool} {r : Bool} (hf : f_X12_fits_j73 μ l2 = some r) (hK : FinR G C F_X12_fits (some .boolean) (some (.int (b2i r))) μ) : V G C F_X12_fits 73 [none, none, some (.int (b2i l2)), none, none] [] (pic G μ) n 0 0 := by
  unfold f_X12_fits_j73 at hf
  refine V_iload_n d_X12_fits_73 rfl rfl ?_
  cases hf
  exact R_z hK d_X12_fits_74 (Nat.le_of_ble_eq_true rfl) (Nat.le_of_ble_eq_true rfl)
theorem s_X12_fits_l4 {G : Gl} (hG : G.1.stackTraces = false) {C : Cx} {n : Nat} {μ : Mem} {l1 : Int32} {l2 : Bool} {l3 : Int32} {r : Bool} (hf : f_X12_fits_l4 μ l1 l2 l3 = some r) (hK : FinR G C F_X12_fits (some .boolean) (some (.int (b2i r))) μ) : V G C F_X12_fits 4 [some (.ref (G.2.1 + 264)), some (.int l1), some (.int (b2i l2)), some (.int l3), none] [] (pic G μ) n 0 0 := by
  unfold f_X12_fits_l4 at hf
  obtain ⟨t, hl, hf⟩ := ob hf
  refine loopV (P := fun z => ∀ n, V G C F_X12_fits 4 [some (.ref (G.2.1 + 264)), some (.int l1), some (.int (b2i z.1)), some (.int z.2), none] [] (pic G μ) n 0 0) (t := t) ?_ _ _ hl n
  intro z y' hy hI hT n
  refine s_X12_fits_b4 hG hy ⟨hI, fun x9 ex => ?_⟩
  have ex2 := hT x9 ex
  subst ex2
  intro n
  exact s_X12_fits_j73 hG hf hK
theorem s_X12_fits_e {G : Gl} (hG : G.1.stackTraces = false) {C : Cx} {n : Nat} {μ : Mem} {p1 : Int32} {r : Bool} (hf : f_X12_fits μ p1 = some r) (hK : FinR G C F_X12_fits (some .boolean) (some (.int (b2i r))) μ) : V G C F_X12_fits 0 [some (.ref (G.2.1 + 264)), some (.int p1), none, none, none] [] (pic G μ) n 0 0 := by
  unfold f_X12_fits at hf
  refine V_iconst (v := 1) d_X12_fits_0 ic_1 ?_
  refine V_istore_n (ls' := [_, _, _, _, _]) d_X12_fits_1 rfl rfl rfl ?_
  refine V_iconst (v := 0) d_X12_fits_2 ic_0 ?_
  refine V_istore_n (ls' := [_, _, _, _, _]) d_X12_fits_3 rfl rfl rfl ?_
  refine V_less (ls' := [some _, some _, some _, some _, none]) ⟨rfl, rfl, rfl, rfl, trivial⟩ ?_
  exact s_X12_fits_l4 hG hf hK
theorem s_X12_fits {G : Gl} (hG : G.1.stackTraces = false) {μ : Mem} {p1 : Int32} {r : Bool} (hf : f_X12_fits μ p1 = some r) : Rt G yX12_fits F_X12_fits (some .boolean) [.ref (G.2.1 + 264), .int p1] μ (some (.int (b2i r))) μ := fun n => Sd.of hG ⟨by decide +kernel, rfl, rfl⟩ rfl (Nat.le_of_ble_eq_true rfl) rfl (fun C hK => s_X12_fits_e hG hf hK)
theorem d_X12_wear_0 : decode cX12_wear 0 = .ok (.aload_n 0, 1) := by decide +kernel
theorem d_X12_wear_1 : decode cX12_wear 1 = .ok (.invokevirtual 252, 3) := by decide +kernel
theorem d_X12_wear_4 : decode cX12_wear 4 = .ok (.aload_n 0, 1) := by decide +kernel
theorem d_X12_wear_5 : decode cX12_wear 5 = .ok (.aload_n 0, 1) := by decide +kernel
theorem d_X12_wear_6 : decode cX12_wear 6 = .ok (.invokevirtual 419, 3) := by decide +kernel
theorem d_X12_wear_9 : decode cX12_wear 9 = .ok (.ifCond .ne 7, 3) := by decide +kernel
theorem d_X12_wear_12 : decode cX12_wear 12 = .ok (.iconst 1, 1) := by decide +kernel
theorem d_X12_wear_13 : decode cX12_wear 13 = .ok (.goto 4, 3) := by decide +kernel
theorem d_X12_wear_16 : decode cX12_wear 16 = .ok (.iconst 0, 1) := by decide +kernel
theorem d_X12_wear_17 : decode cX12_wear 17 = .ok (.iconst 1, 1) := by decide +kernel
theorem d_X12_wear_18 : decode cX12_wear 18 = .ok (.invokevirtual 263, 3) := by decide +kernel
theorem d_X12_wear_21 : decode cX12_wear 21 = .ok (.ifCond .eq 5, 3) := by decide +kernel
theorem d_X12_wear_24 : decode cX12_wear 24 = .ok (.iconst 0, 1) := by decide +kernel
theorem d_X12_wear_25 : decode cX12_wear 25 = .ok (.ireturn, 1) := by decide +kernel
theorem d_X12_wear_26 : decode cX12_wear 26 = .ok (.iconst 0, 1) := by decide +kernel
theorem d_X12_wear_27 : decode cX12_wear 27 = .ok (.istore_n 2, 1) := by decide +kernel
theorem d_X12_wear_28 : decode cX12_wear 28 = .ok (.aload_n 0, 1) := by decide +kernel
theorem d_X12_wear_29 : decode cX12_wear 29 = .ok (.invokevirtual 413, 3) := by decide +kernel
theorem d_X12_wear_32 : decode cX12_wear 32 = .ok (.istore_n 3, 1) := by decide +kernel
theorem d_X12_wear_33 : decode cX12_wear 33 = .ok (.iconst 0, 1) := by decide +kernel
theorem d_X12_wear_34 : decode cX12_wear 34 = .ok (.istore 4, 2) := by decide +kernel
theorem d_X12_wear_36 : decode cX12_wear 36 = .ok (.iload 4, 2) := by decide +kernel
theorem d_X12_wear_38 : decode cX12_wear 38 = .ok (.aload_n 0, 1) := by decide +kernel
theorem d_X12_wear_39 : decode cX12_wear 39 = .ok (.invokevirtual 413, 3) := by decide +kernel
theorem d_X12_wear_42 : decode cX12_wear 42 = .ok (.if_icmp .gt 29, 3) := by decide +kernel
theorem d_X12_wear_45 : decode cX12_wear 45 = .ok (.aload_n 0, 1) := by decide +kernel
theorem d_X12_wear_46 : decode cX12_wear 46 = .ok (.iload 4, 2) := by decide +kernel
theorem d_X12_wear_48 : decode cX12_wear 48 = .ok (.invokevirtual 422, 3) := by decide +kernel
theorem d_X12_wear_51 : decode cX12_wear 51 = .ok (.ifCond .ne 6, 3) := by decide +kernel
theorem d_X12_wear_54 : decode cX12_wear 54 = .ok (.goto 11, 3) := by decide +kernel
theorem d_X12_wear_57 : decode cX12_wear 57 = .ok (.iinc 2 1, 3) := by decide +kernel
theorem d_X12_wear_60 : decode cX12_wear 60 = .ok (.iload_n 3, 1) := by decide +kernel
theorem d_X12_wear_61 : decode cX12_wear 61 = .ok (.iload 4, 2) := by decide +kernel
theorem d_X12_wear_63 : decode cX12_wear 63 = .ok (.iand, 1) := by decide +kernel
theorem d_X12_wear_64 : decode cX12_wear 64 = .ok (.istore_n 3, 1) := by decide +kernel
theorem d_X12_wear_65 : decode cX12_wear 65 = .ok (.iinc 4 1, 3) := by decide +kernel
theorem d_X12_wear_68 : decode cX12_wear 68 = .ok (.goto (-32), 3) := by decide +kernel
theorem d_X12_wear_71 : decode cX12_wear 71 = .ok (.iload_n 1, 1) := by decide +kernel
theorem d_X12_wear_72 : decode cX12_wear 72 = .ok (.ifCond .ne 7, 3) := by decide +kernel
theorem d_X12_wear_75 : decode cX12_wear 75 = .ok (.iload_n 2, 1) := by decide +kernel
theorem d_X12_wear_76 : decode cX12_wear 76 = .ok (.goto 12, 3) := by decide +kernel
theorem d_X12_wear_79 : decode cX12_wear 79 = .ok (.iload_n 2, 1) := by decide +kernel
theorem d_X12_wear_80 : decode cX12_wear 80 = .ok (.ifCond .ne 7, 3) := by decide +kernel
theorem d_X12_wear_83 : decode cX12_wear 83 = .ok (.iconst 0, 1) := by decide +kernel
theorem d_X12_wear_84 : decode cX12_wear 84 = .ok (.goto 4, 3) := by decide +kernel
theorem d_X12_wear_87 : decode cX12_wear 87 = .ok (.iload_n 3, 1) := by decide +kernel
theorem d_X12_wear_88 : decode cX12_wear 88 = .ok (.ireturn, 1) := by decide +kernel
theorem s_X12_wear_j65_36 {G : Gl} (hG : G.1.stackTraces = false) {C : Cx} {n : Nat} {μ : Mem} {l1 : Bool} {l2 : Int32} {l3 : Int32} {l4 : Int32} {y : ((Int32 × Int32 × Int32) ⊕ (Int32 × Int32))} (hf : f_X12_wear_j65_36 μ l1 l2 l3 l4 = some y) (hK : (∀ z', y = .inl z' → ∀ n, V G C F_X12_wear 36 [some (.ref (G.2.1 + 264)), some (.int (b2i l1)), some (.int z'.1), some (.int z'.2.1), some (.int z'.2.2)] [] (pic G μ) n 0 0) ∧ (∀ x', y = .inr x' → ∀ n, V G C F_X12_wear 71 [none, some (.int (b2i l1)), some (.int x'.1), some (.int x'.2), none] [] (pic G μ) n 0 0)) : V G C F_X12_wear 65 [some (.ref (G.2.1 + 264)), some (.int (b2i l1)), some (.int l2), some (.int l3), some (.int l4)] [] (pic G μ) n 0 0 := by
  unfold f_X12_wear_j65_36 at hf
  refine V_iinc (v := (l4 + 1)) (ls' := [_, _, _, _, _]) d_X12_wear_65 rfl (by rw [ic_1]) rfl ?_
  refine V_goto (tgt := 36) d_X12_wear_68 (by decide) ?_
  refine V_less (ls' := [some _, some _, some _, some _, some _]) ⟨rfl, rfl, rfl, rfl, rfl, trivial⟩ ?_
  cases hf
  exact hK.1 _ rfl _
theorem s_X12_wear_b36 {G : Gl} (hG : G.1.stackTraces = false) {C : Cx} {n : Nat} {μ : Mem} {l1 : Bool} {l2 : Int32} {l3 : Int32} {l4 : Int32} {y : ((Int32 × Int32 × Int32) ⊕ (Int32 × Int32))} (hf : f_X12_wear_b36 μ l1 l2 l3 l4 = some y) (hK : (∀ z', y = .inl z' → ∀ n, V G C F_X12_wear 36 [some (.ref (G.2.1 + 264)), some (.int (b2i l1)), some (.int z'.1), some (.int z'.2.1), some (.int z'.2.2)] [] (pic G μ) n 0 0) ∧ (∀ x', y = .inr x' → ∀ n, V G C F_X12_wear 71 [none, some (.int (b2i l1)), some (.int x'.1), some (.int x'.2), none] [] (pic G μ) n 0 0)) : V G C F_X12_wear 36 [some (.ref (G.2.1 + 264)), some (.int (b2i l1)), some (.int l2), some (.int l3), some (.int l4)] [] (pic G μ) n 0 0 := by
  unfold f_X12_wear_b36 at hf
  refine V_iload d_X12_wear_36 rfl ?_
  refine V_aload_n d_X12_wear_38 rfl rfl ?_
  obtain ⟨t1, ht1, hf⟩ := ob hf
  refine B_callV1 (s_X12_everybody hG ht1) k_264 clX12 m_X12_everybody kv_RX12_413 d_X12_wear_39 rfl (Nat.le_of_ble_eq_true rfl) ⟨rfl, rfl, Nat.le_of_ble_eq_true rfl, Nat.le_of_ble_eq_true rfl, Nat.le_of_ble_eq_true rfl⟩ (fun n => ?_)
  refine V_icmp_gt (tgt := 71) d_X12_wear_42 (by decide) (fun c42 => ?_) (fun c42 => ?_)
  · replace hf := iteT c42 hf
    refine V_less (ls' := [none, some _, some _, some _, none]) ⟨rfl, rfl, rfl, trivial⟩ ?_
    cases hf
    exact hK.2 _ rfl _
  · replace hf := iteF c42 hf
    refine V_aload_n d_X12_wear_45 rfl rfl ?_
    refine V_iload d_X12_wear_46 rfl ?_
    obtain ⟨t2, ht2, hf⟩ := ob hf
    refine B_callV1 (s_X12_fits hG ht2) k_264 clX12 m_X12_fits kv_RX12_422 d_X12_wear_48 rfl (Nat.le_of_ble_eq_true rfl) ⟨rfl, rfl, Nat.le_of_ble_eq_true rfl, Nat.le_of_ble_eq_true rfl, Nat.le_of_ble_eq_true rfl⟩ (fun n => ?_)
    refine V_if_ne (tgt := 57) d_X12_wear_51 (by decide) (fun c51 => ?_) (fun c51 => ?_)
    · replace hf := iteT (b2i_ne0 c51) hf
      refine V_iinc (v := (l2 + 1)) (ls' := [_, _, _, _, _]) d_X12_wear_57 rfl (by rw [ic_1]) rfl ?_
      refine V_iload_n d_X12_wear_60 rfl rfl ?_
      refine V_iload d_X12_wear_61 rfl ?_
      refine V_iand d_X12_wear_63 ?_
      refine V_istore_n (ls' := [_, _, _, _, _]) d_X12_wear_64 rfl rfl rfl ?_
      refine V_less (ls' := [some _, some _, some _, some _, some _]) ⟨rfl, rfl, rfl, rfl, rfl, trivial⟩ ?_
      exact s_X12_wear_j65_36 hG hf hK
    · replace hf := iteF (b2i_nt (b2i_eq0 c51)) hf
      refine V_goto (tgt := 65) d_X12_wear_54 (by decide) ?_
      refine V_less (ls' := [some _, some _, some _, some _, some _]) ⟨rfl, rfl, rfl, rfl, rfl, trivial⟩ ?_
      exact s_X12_wear_j65_36 hG hf hK
theorem s_X12_wear_j71 {G : Gl} (hG : G.1.stackTraces = false) {C : Cx} {n : Nat} {μ : Mem} {l1 : Bool} {l2 : Int32} {l3 : Int32} {r : (Int32 × Mem)} (hf : f_X12_wear_j71 μ l1 l2 l3 = some r) (hK : FinR G C F_X12_wear (some .int) (some (.int r.1)) r.2) : V G C F_X12_wear 71 [none, some (.int (b2i l1)), some (.int l2), some (.int l3), none] [] (pic G μ) n 0 0 := by
  unfold f_X12_wear_j71 at hf
  refine V_iload_n d_X12_wear_71 rfl rfl ?_
  have hJj1 : ∀ j1 : Int32, j1 = (if l1 = true then ((if l2 = 0 then (0 : Int32) else l3) : Int32) else l2) → V G C F_X12_wear 88 [none, none, none, none, none] [.int j1] (pic G μ) n 0 0 := by
    intro j1 ej1
    subst ej1
    cases hf
    exact R_i hK d_X12_wear_88 (Nat.le_of_ble_eq_true rfl) (Nat.le_of_ble_eq_true rfl)
  refine V_if_ne (tgt := 79) d_X12_wear_72 (by decide) (fun c72 => ?_) (fun c72 => ?_)
  · refine V_iload_n d_X12_wear_79 rfl rfl ?_
    refine V_if_ne (tgt := 87) d_X12_wear_80 (by decide) (fun c80 => ?_) (fun c80 => ?_)
    · refine V_iload_n d_X12_wear_87 rfl rfl ?_
      refine V_less (ls' := [none, none, none, none, none]) trivial ?_
      exact hJj1 l3 (by rw [if_pos (b2i_ne0 c72), if_neg c80])
    · refine V_iconst (v := 0) d_X12_wear_83 ic_0 ?_
      refine V_goto (tgt := 88) d_X12_wear_84 (by decide) ?_
      refine V_less (ls' := [none, none, none, none, none]) trivial ?_
      exact hJj1 0 (by rw [if_pos (b2i_ne0 c72), if_pos c80])
  · refine V_iload_n d_X12_wear_75 rfl rfl ?_
    refine V_goto (tgt := 88) d_X12_wear_76 (by decide) ?_
    refine V_less (ls' := [none, none, none, none, none]) trivial ?_
    exact hJj1 l2 (by rw [if_neg (b2i_nt (b2i_eq0 c72))])
theorem s_X12_wear_l36 {G : Gl} (hG : G.1.stackTraces = false) {C : Cx} {n : Nat} {μ : Mem} {l1 : Bool} {l2 : Int32} {l3 : Int32} {l4 : Int32} {r : (Int32 × Mem)} (hf : f_X12_wear_l36 μ l1 l2 l3 l4 = some r) (hK : FinR G C F_X12_wear (some .int) (some (.int r.1)) r.2) : V G C F_X12_wear 36 [some (.ref (G.2.1 + 264)), some (.int (b2i l1)), some (.int l2), some (.int l3), some (.int l4)] [] (pic G μ) n 0 0 := by
  unfold f_X12_wear_l36 at hf
  obtain ⟨t, hl, hf⟩ := ob hf
  refine loopV (P := fun z => ∀ n, V G C F_X12_wear 36 [some (.ref (G.2.1 + 264)), some (.int (b2i l1)), some (.int z.1), some (.int z.2.1), some (.int z.2.2)] [] (pic G μ) n 0 0) (t := t) ?_ _ _ hl n
  intro z y' hy hI hT n
  refine s_X12_wear_b36 hG hy ⟨hI, fun x9 ex => ?_⟩
  have ex2 := hT x9 ex
  subst ex2
  intro n
  exact s_X12_wear_j71 hG hf hK
theorem s_X12_wear_e {G : Gl} (hG : G.1.stackTraces = false) {C : Cx} {n : Nat} {μ : Mem} {p1 : Bool} {r : (Int32 × Mem)} (hf : f_X12_wear μ p1 = some r) (hK : FinR G C F_X12_wear (some .int) (some (.int r.1)) r.2) : V G C F_X12_wear 0 [some (.ref (G.2.1 + 264)), some (.int (b2i p1)), none, none, none] [] (pic G μ) n 0 0 := by
  unfold f_X12_wear at hf
  refine V_aload_n d_X12_wear_0 rfl rfl ?_
  obtain ⟨q1, hq1, hf⟩ := ob hf
  refine B_callV0 (s_X12_uses hG hq1) k_264 clX12 m_X12_uses kv_RX12_252 d_X12_wear_1 rfl (Nat.le_of_ble_eq_true rfl) ⟨rfl, rfl, Nat.le_of_ble_eq_true rfl, Nat.le_of_ble_eq_true rfl, Nat.le_of_ble_eq_true rfl⟩ (fun n => ?_)
  refine V_aload_n d_X12_wear_4 rfl rfl ?_
  refine V_aload_n d_X12_wear_5 rfl rfl ?_
  obtain ⟨t2, ht2, hf⟩ := ob hf
  refine B_callV1 (s_X12_isTold hG ht2) k_264 clX12 m_X12_isTold kv_RX12_419 d_X12_wear_6 rfl (Nat.le_of_ble_eq_true rfl) ⟨rfl, rfl, Nat.le_of_ble_eq_true rfl, Nat.le_of_ble_eq_true rfl, Nat.le_of_ble_eq_true rfl⟩ (fun n => ?_)
  have hJj3 : ∀ j3 : Bool, j3 = (if t2 = true then (false : Bool) else true) → V G C F_X12_wear 17 [some (.ref (G.2.1 + 264)), some (.int (b2i p1)), none, none, none] [.int (b2i j3), .ref (G.2.1 + 264)] (pic G q1) n 0 0 := by
    intro j3 ej3
    subst ej3
    refine V_iconst (v := 1) d_X12_wear_17 ic_1 ?_
    obtain ⟨q4, hq4, hf⟩ := ob hf
    refine B_callV1 (s_X12_throwsIf hG hq4) k_264 clX12 m_X12_throwsIf kv_RX12_263 d_X12_wear_18 rfl (Nat.le_of_ble_eq_true rfl) ⟨rfl, rfl, Nat.le_of_ble_eq_true rfl, Nat.le_of_ble_eq_true rfl, Nat.le_of_ble_eq_true rfl⟩ (fun n => ?_)
    refine V_if_eq (tgt := 26) d_X12_wear_21 (by decide) (fun c21 => ?_) (fun c21 => ?_)
    · replace hf := iteF (b2i_nt (b2i_eq0 c21)) hf
      refine V_iconst (v := 0) d_X12_wear_26 ic_0 ?_
      refine V_istore_n (ls' := [_, _, _, _, _]) d_X12_wear_27 rfl rfl rfl ?_
      refine V_aload_n d_X12_wear_28 rfl rfl ?_
      obtain ⟨t5, ht5, hf⟩ := ob hf
      refine B_callV1 (s_X12_everybody hG ht5) k_264 clX12 m_X12_everybody kv_RX12_413 d_X12_wear_29 rfl (Nat.le_of_ble_eq_true rfl) ⟨rfl, rfl, Nat.le_of_ble_eq_true rfl, Nat.le_of_ble_eq_true rfl, Nat.le_of_ble_eq_true rfl⟩ (fun n => ?_)
      refine V_istore_n (ls' := [_, _, _, _, _]) d_X12_wear_32 rfl rfl rfl ?_
      refine V_iconst (v := 0) d_X12_wear_33 ic_0 ?_
      refine V_istore (ls' := [_, _, _, _, _]) d_X12_wear_34 rfl rfl ?_
      refine V_less (ls' := [some _, some _, some _, some _, some _]) ⟨rfl, rfl, rfl, rfl, rfl, trivial⟩ ?_
      exact s_X12_wear_l36 hG hf hK
    · replace hf := iteT (b2i_ne0 c21) hf
      refine V_iconst (v := 0) d_X12_wear_24 ic_0 ?_
      cases hf
      exact R_i hK d_X12_wear_25 (Nat.le_of_ble_eq_true rfl) (Nat.le_of_ble_eq_true rfl)
  refine V_if_ne (tgt := 16) d_X12_wear_9 (by decide) (fun c9 => ?_) (fun c9 => ?_)
  · refine V_iconst (v := 0) d_X12_wear_16 ic_0 ?_
    refine V_less (ls' := [some _, some _, none, none, none]) ⟨rfl, rfl, trivial⟩ ?_
    exact hJj3 false (by rw [if_pos (b2i_ne0 c9)])
  · refine V_iconst (v := 1) d_X12_wear_12 ic_1 ?_
    refine V_goto (tgt := 17) d_X12_wear_13 (by decide) ?_
    refine V_less (ls' := [some _, some _, none, none, none]) ⟨rfl, rfl, trivial⟩ ?_
    exact hJj3 true (by rw [if_neg (b2i_nt (b2i_eq0 c9))])
theorem s_X12_wear {G : Gl} (hG : G.1.stackTraces = false) {μ : Mem} {p1 : Bool} {r : (Int32 × Mem)} (hf : f_X12_wear μ p1 = some r) : Rt G yX12_wear F_X12_wear (some .int) [.ref (G.2.1 + 264), .int (b2i p1)] μ (some (.int r.1)) r.2 := fun n => Sd.of hG ⟨by decide +kernel, rfl, rfl⟩ rfl (Nat.le_of_ble_eq_true rfl) rfl (fun C hK => s_X12_wear_e hG hf hK)
theorem d_X12_look_0 : decode cX12_look 0 = .ok (.aload_n 0, 1) := by decide +kernel
theorem d_X12_look_1 : decode cX12_look 1 = .ok (.invokevirtual 252, 3) := by decide +kernel
theorem d_X12_look_4 : decode cX12_look 4 = .ok (.aload_n 0, 1) := by decide +kernel
theorem d_X12_look_5 : decode cX12_look 5 = .ok (.aload_n 0, 1) := by decide +kernel
theorem d_X12_look_6 : decode cX12_look 6 = .ok (.invokevirtual 419, 3) := by decide +kernel
theorem d_X12_look_9 : decode cX12_look 9 = .ok (.ifCond .ne 7, 3) := by decide +kernel
theorem d_X12_look_12 : decode cX12_look 12 = .ok (.iconst 1, 1) := by decide +kernel
theorem d_X12_look_13 : decode cX12_look 13 = .ok (.goto 4, 3) := by decide +kernel
theorem d_X12_look_16 : decode cX12_look 16 = .ok (.iconst 0, 1) := by decide +kernel
theorem d_X12_look_17 : decode cX12_look 17 = .ok (.iconst 1, 1) := by decide +kernel
theorem d_X12_look_18 : decode cX12_look 18 = .ok (.invokevirtual 263, 3) := by decide +kernel
theorem d_X12_look_21 : decode cX12_look 21 = .ok (.ifCond .eq 5, 3) := by decide +kernel
theorem d_X12_look_24 : decode cX12_look 24 = .ok (.iconst 0, 1) := by decide +kernel
theorem d_X12_look_25 : decode cX12_look 25 = .ok (.ireturn, 1) := by decide +kernel
theorem d_X12_look_26 : decode cX12_look 26 = .ok (.iconst (-1), 1) := by decide +kernel
theorem d_X12_look_27 : decode cX12_look 27 = .ok (.istore_n 1, 1) := by decide +kernel
theorem d_X12_look_28 : decode cX12_look 28 = .ok (.ldc_w 373, 3) := by decide +kernel
theorem d_X12_look_31 : decode cX12_look 31 = .ok (.istore_n 2, 1) := by decide +kernel
theorem d_X12_look_32 : decode cX12_look 32 = .ok (.iconst 0, 1) := by decide +kernel
theorem d_X12_look_33 : decode cX12_look 33 = .ok (.istore_n 3, 1) := by decide +kernel
theorem d_X12_look_34 : decode cX12_look 34 = .ok (.iload_n 3, 1) := by decide +kernel
theorem d_X12_look_35 : decode cX12_look 35 = .ok (.aload_n 0, 1) := by decide +kernel
theorem d_X12_look_36 : decode cX12_look 36 = .ok (.invokevirtual 59, 3) := by decide +kernel
theorem d_X12_look_39 : decode cX12_look 39 = .ok (.if_icmp .ge 91, 3) := by decide +kernel
theorem d_X12_look_42 : decode cX12_look 42 = .ok (.iconst 0, 1) := by decide +kernel
theorem d_X12_look_43 : decode cX12_look 43 = .ok (.istore 4, 2) := by decide +kernel
theorem d_X12_look_45 : decode cX12_look 45 = .ok (.iconst 0, 1) := by decide +kernel
theorem d_X12_look_46 : decode cX12_look 46 = .ok (.istore 5, 2) := by decide +kernel
theorem d_X12_look_48 : decode cX12_look 48 = .ok (.iconst 0, 1) := by decide +kernel
theorem d_X12_look_49 : decode cX12_look 49 = .ok (.istore 6, 2) := by decide +kernel
theorem d_X12_look_51 : decode cX12_look 51 = .ok (.iload 6, 2) := by decide +kernel
theorem d_X12_look_53 : decode cX12_look 53 = .ok (.aload_n 0, 1) := by decide +kernel
theorem d_X12_look_54 : decode cX12_look 54 = .ok (.invokevirtual 413, 3) := by decide +kernel
theorem d_X12_look_57 : decode cX12_look 57 = .ok (.if_icmp .gt 35, 3) := by decide +kernel
theorem d_X12_look_60 : decode cX12_look 60 = .ok (.aload_n 0, 1) := by decide +kernel
theorem d_X12_look_61 : decode cX12_look 61 = .ok (.iload 6, 2) := by decide +kernel
theorem d_X12_look_63 : decode cX12_look 63 = .ok (.invokevirtual 422, 3) := by decide +kernel
theorem d_X12_look_66 : decode cX12_look 66 = .ok (.ifCond .ne 6, 3) := by decide +kernel
theorem d_X12_look_69 : decode cX12_look 69 = .ok (.goto 17, 3) := by decide +kernel
theorem d_X12_look_72 : decode cX12_look 72 = .ok (.iinc 4 1, 3) := by decide +kernel
theorem d_X12_look_75 : decode cX12_look 75 = .ok (.iload 5, 2) := by decide +kernel
theorem d_X12_look_77 : decode cX12_look 77 = .ok (.iload 6, 2) := by decide +kernel
theorem d_X12_look_79 : decode cX12_look 79 = .ok (.iload_n 3, 1) := by decide +kernel
theorem d_X12_look_80 : decode cX12_look 80 = .ok (.ishr, 1) := by decide +kernel
theorem d_X12_look_81 : decode cX12_look 81 = .ok (.iconst 1, 1) := by decide +kernel
theorem d_X12_look_82 : decode cX12_look 82 = .ok (.iand, 1) := by decide +kernel
theorem d_X12_look_83 : decode cX12_look 83 = .ok (.iadd, 1) := by decide +kernel
theorem d_X12_look_84 : decode cX12_look 84 = .ok (.istore 5, 2) := by decide +kernel
theorem d_X12_look_86 : decode cX12_look 86 = .ok (.iinc 6 1, 3) := by decide +kernel
theorem d_X12_look_89 : decode cX12_look 89 = .ok (.goto (-38), 3) := by decide +kernel
theorem d_X12_look_92 : decode cX12_look 92 = .ok (.iload 5, 2) := by decide +kernel
theorem d_X12_look_94 : decode cX12_look 94 = .ok (.iload 4, 2) := by decide +kernel
theorem d_X12_look_96 : decode cX12_look 96 = .ok (.iload 5, 2) := by decide +kernel
theorem d_X12_look_98 : decode cX12_look 98 = .ok (.isub, 1) := by decide +kernel
theorem d_X12_look_99 : decode cX12_look 99 = .ok (.invokestatic 293, 3) := by decide +kernel
theorem d_X12_look_102 : decode cX12_look 102 = .ok (.istore 6, 2) := by decide +kernel
theorem d_X12_look_104 : decode cX12_look 104 = .ok (.iload 4, 2) := by decide +kernel
theorem d_X12_look_106 : decode cX12_look 106 = .ok (.iconst 2, 1) := by decide +kernel
theorem d_X12_look_107 : decode cX12_look 107 = .ok (.if_icmp .lt 17, 3) := by decide +kernel
theorem d_X12_look_110 : decode cX12_look 110 = .ok (.iload 6, 2) := by decide +kernel
theorem d_X12_look_112 : decode cX12_look 112 = .ok (.iload_n 2, 1) := by decide +kernel
theorem d_X12_look_113 : decode cX12_look 113 = .ok (.if_icmp .lt 6, 3) := by decide +kernel
theorem d_X12_look_116 : decode cX12_look 116 = .ok (.goto 8, 3) := by decide +kernel
theorem d_X12_look_119 : decode cX12_look 119 = .ok (.iload_n 3, 1) := by decide +kernel
theorem d_X12_look_120 : decode cX12_look 120 = .ok (.istore_n 1, 1) := by decide +kernel
theorem d_X12_look_121 : decode cX12_look 121 = .ok (.iload 6, 2) := by decide +kernel
theorem d_X12_look_123 : decode cX12_look 123 = .ok (.istore_n 2, 1) := by decide +kernel
theorem d_X12_look_124 : decode cX12_look 124 = .ok (.iinc 3 1, 3) := by decide +kernel
theorem d_X12_look_127 : decode cX12_look 127 = .ok (.goto (-93), 3) := by decide +kernel
theorem d_X12_look_130 : decode cX12_look 130 = .ok (.iload_n 1, 1) := by decide +kernel
theorem d_X12_look_131 : decode cX12_look 131 = .ok (.ireturn, 1) := by decide +kernel
theorem s_X12_look_j86_51 {G : Gl} (hG : G.1.stackTraces = false) {C : Cx} {n : Nat} {μ : Mem} {l1 : Int32} {l2 : Int32} {l3 : Int32} {l4 : Int32} {l5 : Int32} {l6 : Int32} {y : ((Int32 × Int32 × Int32) ⊕ (Int32 × Int32))} (hf : f_X12_look_j86_51 μ l1 l2 l3 l4 l5 l6 = some y) (hK : (∀ z', y = .inl z' → ∀ n, V G C F_X12_look 51 [some (.ref (G.2.1 + 264)), some (.int l1), some (.int l2), some (.int l3), some (.int z'.1), some (.int z'.2.1), some (.int z'.2.2)] [] (pic G μ) n 0 0) ∧ (∀ x', y = .inr x' → ∀ n, V G C F_X12_look 92 [some (.ref (G.2.1 + 264)), some (.int l1), some (.int l2), some (.int l3), some (.int x'.1), some (.int x'.2), none] [] (pic G μ) n 0 0)) : V G C F_X12_look 86 [some (.ref (G.2.1 + 264)), some (.int l1), some (.int l2), some (.int l3), some (.int l4), some (.int l5), some (.int l6)] [] (pic G μ) n 0 0 := by
  unfold f_X12_look_j86_51 at hf
  refine V_iinc (v := (l6 + 1)) (ls' := [_, _, _, _, _, _, _]) d_X12_look_86 rfl (by rw [ic_1]) rfl ?_
  refine V_goto (tgt := 51) d_X12_look_89 (by decide) ?_
  refine V_less (ls' := [some _, some _, some _, some _, some _, some _, some _]) ⟨rfl, rfl, rfl, rfl, rfl, rfl, rfl, trivial⟩ ?_
  cases hf
  exact hK.1 _ rfl _
theorem s_X12_look_b51 {G : Gl} (hG : G.1.stackTraces = false) {C : Cx} {n : Nat} {μ : Mem} {l1 : Int32} {l2 : Int32} {l3 : Int32} {l4 : Int32} {l5 : Int32} {l6 : Int32} {y : ((Int32 × Int32 × Int32) ⊕ (Int32 × Int32))} (hf : f_X12_look_b51 μ l1 l2 l3 l4 l5 l6 = some y) (hK : (∀ z', y = .inl z' → ∀ n, V G C F_X12_look 51 [some (.ref (G.2.1 + 264)), some (.int l1), some (.int l2), some (.int l3), some (.int z'.1), some (.int z'.2.1), some (.int z'.2.2)] [] (pic G μ) n 0 0) ∧ (∀ x', y = .inr x' → ∀ n, V G C F_X12_look 92 [some (.ref (G.2.1 + 264)), some (.int l1), some (.int l2), some (.int l3), some (.int x'.1), some (.int x'.2), none] [] (pic G μ) n 0 0)) : V G C F_X12_look 51 [some (.ref (G.2.1 + 264)), some (.int l1), some (.int l2), some (.int l3), some (.int l4), some (.int l5), some (.int l6)] [] (pic G μ) n 0 0 := by
  unfold f_X12_look_b51 at hf
  refine V_iload d_X12_look_51 rfl ?_
  refine V_aload_n d_X12_look_53 rfl rfl ?_
  obtain ⟨t1, ht1, hf⟩ := ob hf
  refine B_callV1 (s_X12_everybody hG ht1) k_264 clX12 m_X12_everybody kv_RX12_413 d_X12_look_54 rfl (Nat.le_of_ble_eq_true rfl) ⟨rfl, rfl, Nat.le_of_ble_eq_true rfl, Nat.le_of_ble_eq_true rfl, Nat.le_of_ble_eq_true rfl⟩ (fun n => ?_)
  refine V_icmp_gt (tgt := 92) d_X12_look_57 (by decide) (fun c57 => ?_) (fun c57 => ?_)
  · replace hf := iteT c57 hf
    refine V_less (ls' := [some _, some _, some _, some _, some _, some _, none]) ⟨rfl, rfl, rfl, rfl, rfl, rfl, trivial⟩ ?_
    cases hf
    exact hK.2 _ rfl _
  · replace hf := iteF c57 hf
    refine V_aload_n d_X12_look_60 rfl rfl ?_
    refine V_iload d_X12_look_61 rfl ?_
    obtain ⟨t2, ht2, hf⟩ := ob hf
    refine B_callV1 (s_X12_fits hG ht2) k_264 clX12 m_X12_fits kv_RX12_422 d_X12_look_63 rfl (Nat.le_of_ble_eq_true rfl) ⟨rfl, rfl, Nat.le_of_ble_eq_true rfl, Nat.le_of_ble_eq_true rfl, Nat.le_of_ble_eq_true rfl⟩ (fun n => ?_)
    refine V_if_ne (tgt := 72) d_X12_look_66 (by decide) (fun c66 => ?_) (fun c66 => ?_)
    · replace hf := iteT (b2i_ne0 c66) hf
      refine V_iinc (v := (l4 + 1)) (ls' := [_, _, _, _, _, _, _]) d_X12_look_72 rfl (by rw [ic_1]) rfl ?_
      refine V_iload d_X12_look_75 rfl ?_
      refine V_iload d_X12_look_77 rfl ?_
      refine V_iload_n d_X12_look_79 rfl rfl ?_
      refine V_ishr d_X12_look_80 ?_
      refine V_iconst (v := 1) d_X12_look_81 ic_1 ?_
      refine V_iand d_X12_look_82 ?_
      refine V_iadd d_X12_look_83 ?_
      refine V_istore (ls' := [_, _, _, _, _, _, _]) d_X12_look_84 rfl rfl ?_
      refine V_less (ls' := [some _, some _, some _, some _, some _, some _, some _]) ⟨rfl, rfl, rfl, rfl, rfl, rfl, rfl, trivial⟩ ?_
      exact s_X12_look_j86_51 hG hf hK
    · replace hf := iteF (b2i_nt (b2i_eq0 c66)) hf
      refine V_goto (tgt := 86) d_X12_look_69 (by decide) ?_
      refine V_less (ls' := [some _, some _, some _, some _, some _, some _, some _]) ⟨rfl, rfl, rfl, rfl, rfl, rfl, rfl, trivial⟩ ?_
      exact s_X12_look_j86_51 hG hf hK
theorem s_X12_look_j124_34 {G : Gl} (hG : G.1.stackTraces = false) {C : Cx} {n : Nat} {μ : Mem} {l1 : Int32} {l2 : Int32} {l3 : Int32} {y : ((Int32 × Int32 × Int32) ⊕ Int32)} (hf : f_X12_look_j124_34 μ l1 l2 l3 = some y) (hK : (∀ z', y = .inl z' → ∀ n, V G C F_X12_look 34 [some (.ref (G.2.1 + 264)), some (.int z'.1), some (.int z'.2.1), some (.int z'.2.2), none, none, none] [] (pic G μ) n 0 0) ∧ (∀ x', y = .inr x' → ∀ n, V G C F_X12_look 130 [none, some (.int x'), none, none, none, none, none] [] (pic G μ) n 0 0)) : V G C F_X12_look 124 [some (.ref (G.2.1 + 264)), some (.int l1), some (.int l2), some (.int l3), none, none, none] [] (pic G μ) n 0 0 := by
  unfold f_X12_look_j124_34 at hf
  refine V_iinc (v := (l3 + 1)) (ls' := [_, _, _, _, _, _, _]) d_X12_look_124 rfl (by rw [ic_1]) rfl ?_
  refine V_goto (tgt := 34) d_X12_look_127 (by decide) ?_
  refine V_less (ls' := [some _, some _, some _, some _, none, none, none]) ⟨rfl, rfl, rfl, rfl, trivial⟩ ?_
  cases hf
  exact hK.1 _ rfl _
theorem s_X12_look_j92_34 {G : Gl} (hG : G.1.stackTraces = false) {C : Cx} {n : Nat} {μ : Mem} {l1 : Int32} {l2 : Int32} {l3 : Int32} {l4 : Int32} {l5 : Int32} {y : ((Int32 × Int32 × Int32) ⊕ Int32)} (hf : f_X12_look_j92_34 μ l1 l2 l3 l4 l5 = some y) (hK : (∀ z', y = .inl z' → ∀ n, V G C F_X12_look 34 [some (.ref (G.2.1 + 264)), some (.int z'.1), some (.int z'.2.1), some (.int z'.2.2), none, none, none] [] (pic G μ) n 0 0) ∧ (∀ x', y = .inr x' → ∀ n, V G C F_X12_look 130 [none, some (.int x'), none, none, none, none, none] [] (pic G μ) n 0 0)) : V G C F_X12_look 92 [some (.ref (G.2.1 + 264)), some (.int l1), some (.int l2), some (.int l3), some (.int l4), some (.int l5), none] [] (pic G μ) n 0 0 := by
  unfold f_X12_look_j92_34 at hf
  refine V_iload d_X12_look_92 rfl ?_
  refine V_iload d_X12_look_94 rfl ?_
  refine V_iload d_X12_look_96 rfl ?_
  refine V_isub d_X12_look_98 ?_
  obtain ⟨t1, ht1, hf⟩ := ob hf
  refine B_callS1 (s_J9_max_7cf53 hG ht1) m_J9_max_7cf53 ks_RX12_293 d_X12_look_99 rfl (Nat.le_of_ble_eq_true rfl) ⟨rfl, rfl, Nat.le_of_ble_eq_true rfl, Nat.le_of_ble_eq_true rfl, Nat.le_of_ble_eq_true rfl⟩ (fun n => ?_)
  refine V_istore (ls' := [_, _, _, _, _, _, _]) d_X12_look_102 rfl rfl ?_
  refine V_iload d_X12_look_104 rfl ?_
  refine V_iconst (v := 2) d_X12_look_106 ic_2 ?_
  refine V_icmp_lt (tgt := 124) d_X12_look_107 (by decide) (fun c107 => ?_) (fun c107 => ?_)
  · replace hf := iteT c107 hf
    refine V_less (ls' := [some _, some _, some _, some _, none, none, none]) ⟨rfl, rfl, rfl, rfl, trivial⟩ ?_
    exact s_X12_look_j124_34 hG hf hK
  · replace hf := iteF c107 hf
    refine V_iload d_X12_look_110 rfl ?_
    refine V_iload_n d_X12_look_112 rfl rfl ?_
    refine V_icmp_lt (tgt := 119) d_X12_look_113 (by decide) (fun c113 => ?_) (fun c113 => ?_)
    · replace hf := iteT c113 hf
      refine V_iload_n d_X12_look_119 rfl rfl ?_
      refine V_istore_n (ls' := [_, _, _, _, _, _, _]) d_X12_look_120 rfl rfl rfl ?_
      refine V_iload d_X12_look_121 rfl ?_
      refine V_istore_n (ls' := [_, _, _, _, _, _, _]) d_X12_look_123 rfl rfl rfl ?_
      refine V_less (ls' := [some _, some _, some _, some _, none, none, none]) ⟨rfl, rfl, rfl, rfl, trivial⟩ ?_
      exact s_X12_look_j124_34 hG hf hK
    · replace hf := iteF c113 hf
      refine V_goto (tgt := 124) d_X12_look_116 (by decide) ?_
      refine V_less (ls' := [some _, some _, some _, some _, none, none, none]) ⟨rfl, rfl, rfl, rfl, trivial⟩ ?_
      exact s_X12_look_j124_34 hG hf hK
theorem s_X12_look_l51 {G : Gl} (hG : G.1.stackTraces = false) {C : Cx} {n : Nat} {μ : Mem} {l1 : Int32} {l2 : Int32} {l3 : Int32} {l4 : Int32} {l5 : Int32} {l6 : Int32} {y : ((Int32 × Int32 × Int32) ⊕ Int32)} (hf : f_X12_look_l51 μ l1 l2 l3 l4 l5 l6 = some y) (hK : (∀ z', y = .inl z' → ∀ n, V G C F_X12_look 34 [some (.ref (G.2.1 + 264)), some (.int z'.1), some (.int z'.2.1), some (.int z'.2.2), none, none, none] [] (pic G μ) n 0 0) ∧ (∀ x', y = .inr x' → ∀ n, V G C F_X12_look 130 [none, some (.int x'), none, none, none, none, none] [] (pic G μ) n 0 0)) : V G C F_X12_look 51 [some (.ref (G.2.1 + 264)), some (.int l1), some (.int l2), some (.int l3), some (.int l4), some (.int l5), some (.int l6)] [] (pic G μ) n 0 0 := by
  unfold f_X12_look_l51 at hf
  obtain ⟨t, hl, hf⟩ := ob hf
  refine loopV (P := fun z => ∀ n, V G C F_X12_look 51 [some (.ref (G.2.1 + 264)), some (.int l1), some (.int l2), some (.int l3), some (.int z.1), some (.int z.2.1), some (.int z.2.2)] [] (pic G μ) n 0 0) (t := t) ?_ _ _ hl n
  intro z y' hy hI hT n
  refine s_X12_look_b51 hG hy ⟨hI, fun x9 ex => ?_⟩
  have ex2 := hT x9 ex
  subst ex2
  intro n
  exact s_X12_look_j92_34 hG hf hK
theorem s_X12_look_b34 {G : Gl} (hG : G.1.stackTraces = false) {C : Cx} {n : Nat} {μ : Mem} {l1 : Int32} {l2 : Int32} {l3 : Int32} {y : ((Int32 × Int32 × Int32) ⊕ Int32)} (hf : f_X12_look_b34 μ l1 l2 l3 = some y) (hK : (∀ z', y = .inl z' → ∀ n, V G C F_X12_look 34 [some (.ref (G.2.1 + 264)), some (.int z'.1), some (.int z'.2.1), some (.int z'.2.2), none, none, none] [] (pic G μ) n 0 0) ∧ (∀ x', y = .inr x' → ∀ n, V G C F_X12_look 130 [none, some (.int x'), none, none, none, none, none] [] (pic G μ) n 0 0)) : V G C F_X12_look 34 [some (.ref (G.2.1 + 264)), some (.int l1), some (.int l2), some (.int l3), none, none, none] [] (pic G μ) n 0 0 := by
  unfold f_X12_look_b34 at hf
  refine V_iload_n d_X12_look_34 rfl rfl ?_
  refine V_aload_n d_X12_look_35 rfl rfl ?_
  obtain ⟨t1, ht1, hf⟩ := ob hf
  refine B_callV1 (s_X12_people hG ht1) k_264 clX12 m_X12_people kv_RX12_59 d_X12_look_36 rfl (Nat.le_of_ble_eq_true rfl) ⟨rfl, rfl, Nat.le_of_ble_eq_true rfl, Nat.le_of_ble_eq_true rfl, Nat.le_of_ble_eq_true rfl⟩ (fun n => ?_)
  refine V_icmp_ge (tgt := 130) d_X12_look_39 (by decide) (fun c39 => ?_) (fun c39 => ?_)
  · replace hf := iteT c39 hf
    refine V_less (ls' := [none, some _, none, none, none, none, none]) ⟨rfl, trivial⟩ ?_
    cases hf
    exact hK.2 _ rfl _
  · replace hf := iteF c39 hf
    refine V_iconst (v := 0) d_X12_look_42 ic_0 ?_
    refine V_istore (ls' := [_, _, _, _, _, _, _]) d_X12_look_43 rfl rfl ?_
    refine V_iconst (v := 0) d_X12_look_45 ic_0 ?_
    refine V_istore (ls' := [_, _, _, _, _, _, _]) d_X12_look_46 rfl rfl ?_
    refine V_iconst (v := 0) d_X12_look_48 ic_0 ?_
    refine V_istore (ls' := [_, _, _, _, _, _, _]) d_X12_look_49 rfl rfl ?_
    refine V_less (ls' := [some _, some _, some _, some _, some _, some _, some _]) ⟨rfl, rfl, rfl, rfl, rfl, rfl, rfl, trivial⟩ ?_
    exact s_X12_look_l51 hG hf hK
theorem s_X12_look_j130 {G : Gl} (hG : G.1.stackTraces = false) {C : Cx} {n : Nat} {μ : Mem} {l1 : Int32} {r : (Int32 × Mem)} (hf : f_X12_look_j130 μ l1 = some r) (hK : FinR G C F_X12_look (some .int) (some (.int r.1)) r.2) : V G C F_X12_look 130 [none, some (.int l1), none, none, none, none, none] [] (pic G μ) n 0 0 := by
  unfold f_X12_look_j130 at hf
  refine V_iload_n d_X12_look_130 rfl rfl ?_
  cases hf
  exact R_i hK d_X12_look_131 (Nat.le_of_ble_eq_true rfl) (Nat.le_of_ble_eq_true rfl)
theorem s_X12_look_l34 {G : Gl} (hG : G.1.stackTraces = false) {C : Cx} {n : Nat} {μ : Mem} {l1 : Int32} {l2 : Int32} {l3 : Int32} {r : (Int32 × Mem)} (hf : f_X12_look_l34 μ l1 l2 l3 = some r) (hK : FinR G C F_X12_look (some .int) (some (.int r.1)) r.2) : V G C F_X12_look 34 [some (.ref (G.2.1 + 264)), some (.int l1), some (.int l2), some (.int l3), none, none, none] [] (pic G μ) n 0 0 := by
  unfold f_X12_look_l34 at hf
  obtain ⟨t, hl, hf⟩ := ob hf
  refine loopV (P := fun z => ∀ n, V G C F_X12_look 34 [some (.ref (G.2.1 + 264)), some (.int z.1), some (.int z.2.1), some (.int z.2.2), none, none, none] [] (pic G μ) n 0 0) (t := t) ?_ _ _ hl n
  intro z y' hy hI hT n
  refine s_X12_look_b34 hG hy ⟨hI, fun x9 ex => ?_⟩
  have ex2 := hT x9 ex
  subst ex2
  intro n
  exact s_X12_look_j130 hG hf hK
theorem s_X12_look_e {G : Gl} (hG : G.1.stackTraces = false) {C : Cx} {n : Nat} {μ : Mem}  {r : (Int32 × Mem)} (hf : f_X12_look μ = some r) (hK : FinR G C F_X12_look (some .int) (some (.int r.1)) r.2) : V G C F_X12_look 0 [some (.ref (G.2.1 + 264)), none, none, none, none, none, none] [] (pic G μ) n 0 0 := by
  unfold f_X12_look at hf
  refine V_aload_n d_X12_look_0 rfl rfl ?_
  obtain ⟨q1, hq1, hf⟩ := ob hf
  refine B_callV0 (s_X12_uses hG hq1) k_264 clX12 m_X12_uses kv_RX12_252 d_X12_look_1 rfl (Nat.le_of_ble_eq_true rfl) ⟨rfl, rfl, Nat.le_of_ble_eq_true rfl, Nat.le_of_ble_eq_true rfl, Nat.le_of_ble_eq_true rfl⟩ (fun n => ?_)
  refine V_aload_n d_X12_look_4 rfl rfl ?_
  refine V_aload_n d_X12_look_5 rfl rfl ?_
  obtain ⟨t2, ht2, hf⟩ := ob hf
  refine B_callV1 (s_X12_isTold hG ht2) k_264 clX12 m_X12_isTold kv_RX12_419 d_X12_look_6 rfl (Nat.le_of_ble_eq_true rfl) ⟨rfl, rfl, Nat.le_of_ble_eq_true rfl, Nat.le_of_ble_eq_true rfl, Nat.le_of_ble_eq_true rfl⟩ (fun n => ?_)
  have hJj3 : ∀ j3 : Bool, j3 = (if t2 = true then (false : Bool) else true) → V G C F_X12_look 17 [some (.ref (G.2.1 + 264)), none, none, none, none, none, none] [.int (b2i j3), .ref (G.2.1 + 264)] (pic G q1) n 0 0 := by
    intro j3 ej3
    subst ej3
    refine V_iconst (v := 1) d_X12_look_17 ic_1 ?_
    obtain ⟨q4, hq4, hf⟩ := ob hf
    refine B_callV1 (s_X12_throwsIf hG hq4) k_264 clX12 m_X12_throwsIf kv_RX12_263 d_X12_look_18 rfl (Nat.le_of_ble_eq_true rfl) ⟨rfl, rfl, Nat.le_of_ble_eq_true rfl, Nat.le_of_ble_eq_true rfl, Nat.le_of_ble_eq_true rfl⟩ (fun n => ?_)
    refine V_if_eq (tgt := 26) d_X12_look_21 (by decide) (fun c21 => ?_) (fun c21 => ?_)
    · replace hf := iteF (b2i_nt (b2i_eq0 c21)) hf
      refine V_iconst (v := (-1)) d_X12_look_26 ic_m1 ?_
      refine V_istore_n (ls' := [_, _, _, _, _, _, _]) d_X12_look_27 rfl rfl rfl ?_
      refine V_ldcw (v := 1000000) d_X12_look_28 w_1899 ?_
      refine V_istore_n (ls' := [_, _, _, _, _, _, _]) d_X12_look_31 rfl rfl rfl ?_
      refine V_iconst (v := 0) d_X12_look_32 ic_0 ?_
      refine V_istore_n (ls' := [_, _, _, _, _, _, _]) d_X12_look_33 rfl rfl rfl ?_
      refine V_less (ls' := [some _, some _, some _, some _, none, none, none]) ⟨rfl, rfl, rfl, rfl, trivial⟩ ?_
      exact s_X12_look_l34 hG hf hK
    · replace hf := iteT (b2i_ne0 c21) hf
      refine V_iconst (v := 0) d_X12_look_24 ic_0 ?_
      cases hf
      exact R_i hK d_X12_look_25 (Nat.le_of_ble_eq_true rfl) (Nat.le_of_ble_eq_true rfl)
  refine V_if_ne (tgt := 16) d_X12_look_9 (by decide) (fun c9 => ?_) (fun c9 => ?_)
  · refine V_iconst (v := 0) d_X12_look_16 ic_0 ?_
    refine V_less (ls' := [some _, none, none, none, none, none, none]) ⟨rfl, trivial⟩ ?_
    exact hJj3 false (by rw [if_pos (b2i_ne0 c9)])
  · refine V_iconst (v := 1) d_X12_look_12 ic_1 ?_
    refine V_goto (tgt := 17) d_X12_look_13 (by decide) ?_
    refine V_less (ls' := [some _, none, none, none, none, none, none]) ⟨rfl, trivial⟩ ?_
    exact hJj3 true (by rw [if_neg (b2i_nt (b2i_eq0 c9))])
theorem s_X12_look {G : Gl} (hG : G.1.stackTraces = false) {μ : Mem} {r : (Int32 × Mem)} (hf : f_X12_look μ = some r) : Rt G yX12_look F_X12_look (some .int) [.ref (G.2.1 + 264)] μ (some (.int r.1)) r.2 := fun n => Sd.of hG ⟨by decide +kernel, rfl, rfl⟩ rfl (Nat.le_of_ble_eq_true rfl) rfl (fun C hK => s_X12_look_e hG hf hK)
theorem d_X12_asFastAs_0 : decode cX12_asFastAs 0 = .ok (.iconst 0, 1) := by decide +kernel
theorem d_X12_asFastAs_1 : decode cX12_asFastAs 1 = .ok (.istore_n 2, 1) := by decide +kernel
theorem d_X12_asFastAs_2 : decode cX12_asFastAs 2 = .ok (.iconst 0, 1) := by decide +kernel
theorem d_X12_asFastAs_3 : decode cX12_asFastAs 3 = .ok (.istore_n 3, 1) := by decide +kernel
theorem d_X12_asFastAs_4 : decode cX12_asFastAs 4 = .ok (.iload_n 3, 1) := by decide +kernel
theorem d_X12_asFastAs_5 : decode cX12_asFastAs 5 = .ok (.aload_n 0, 1) := by decide +kernel
theorem d_X12_asFastAs_6 : decode cX12_asFastAs 6 = .ok (.invokevirtual 59, 3) := by decide +kernel
theorem d_X12_asFastAs_9 : decode cX12_asFastAs 9 = .ok (.if_icmp .ge 28, 3) := by decide +kernel
theorem d_X12_asFastAs_12 : decode cX12_asFastAs 12 = .ok (.iload_n 2, 1) := by decide +kernel
theorem d_X12_asFastAs_13 : decode cX12_asFastAs 13 = .ok (.aload_n 0, 1) := by decide +kernel
theorem d_X12_asFastAs_14 : decode cX12_asFastAs 14 = .ok (.iload_n 3, 1) := by decide +kernel
theorem d_X12_asFastAs_15 : decode cX12_asFastAs 15 = .ok (.invokevirtual 323, 3) := by decide +kernel
theorem d_X12_asFastAs_18 : decode cX12_asFastAs 18 = .ok (.iload_n 1, 1) := by decide +kernel
theorem d_X12_asFastAs_19 : decode cX12_asFastAs 19 = .ok (.if_icmp .ne 9, 3) := by decide +kernel
theorem d_X12_asFastAs_22 : decode cX12_asFastAs 22 = .ok (.iconst 1, 1) := by decide +kernel
theorem d_X12_asFastAs_23 : decode cX12_asFastAs 23 = .ok (.iload_n 3, 1) := by decide +kernel
theorem d_X12_asFastAs_24 : decode cX12_asFastAs 24 = .ok (.ishl, 1) := by decide +kernel
theorem d_X12_asFastAs_25 : decode cX12_asFastAs 25 = .ok (.goto 4, 3) := by decide +kernel
theorem d_X12_asFastAs_28 : decode cX12_asFastAs 28 = .ok (.iconst 0, 1) := by decide +kernel
theorem d_X12_asFastAs_29 : decode cX12_asFastAs 29 = .ok (.ior, 1) := by decide +kernel
theorem d_X12_asFastAs_30 : decode cX12_asFastAs 30 = .ok (.istore_n 2, 1) := by decide +kernel
theorem d_X12_asFastAs_31 : decode cX12_asFastAs 31 = .ok (.iinc 3 1, 3) := by decide +kernel
theorem d_X12_asFastAs_34 : decode cX12_asFastAs 34 = .ok (.goto (-30), 3) := by decide +kernel
theorem d_X12_asFastAs_37 : decode cX12_asFastAs 37 = .ok (.iload_n 2, 1) := by decide +kernel
theorem d_X12_asFastAs_38 : decode cX12_asFastAs 38 = .ok (.ireturn, 1) := by decide +kernel
theorem s_X12_asFastAs_b4 {G : Gl} (hG : G.1.stackTraces = false) {C : Cx} {n : Nat} {μ : Mem} {l1 : Int32} {l2 : Int32} {l3 : Int32} {y : ((Int32 × Int32 × Mem) ⊕ (Int32 × Mem))} (hf : f_X12_asFastAs_b4 μ l1 l2 l3 = some y) (hK : (∀ z', y = .inl z' → ∀ n, V G C F_X12_asFastAs 4 [some (.ref (G.2.1 + 264)), some (.int l1), some (.int z'.1), some (.int z'.2.1)] [] (pic G z'.2.2) n 0 0) ∧ (∀ x', y = .inr x' → ∀ n, V G C F_X12_asFastAs 37 [none, none, some (.int x'.1), none] [] (pic G x'.2) n 0 0)) : V G C F_X12_asFastAs 4 [some (.ref (G.2.1 + 264)), some (.int l1), some (.int l2), some (.int l3)] [] (pic G μ) n 0 0 := by
  unfold f_X12_asFastAs_b4 at hf
  refine V_iload_n d_X12_asFastAs_4 rfl rfl ?_
  refine V_aload_n d_X12_asFastAs_5 rfl rfl ?_
  obtain ⟨t1, ht1, hf⟩ := ob hf
  refine B_callV1 (s_X12_people hG ht1) k_264 clX12 m_X12_people kv_RX12_59 d_X12_asFastAs_6 rfl (Nat.le_of_ble_eq_true rfl) ⟨rfl, rfl, Nat.le_of_ble_eq_true rfl, Nat.le_of_ble_eq_true rfl, Nat.le_of_ble_eq_true rfl⟩ (fun n => ?_)
  refine V_icmp_ge (tgt := 37) d_X12_asFastAs_9 (by decide) (fun c9 => ?_) (fun c9 => ?_)
  · replace hf := iteT c9 hf
    refine V_less (ls' := [none, none, some _, none]) ⟨rfl, trivial⟩ ?_
    cases hf
    exact hK.2 _ rfl _
  · replace hf := iteF c9 hf
    refine V_iload_n d_X12_asFastAs_12 rfl rfl ?_
    refine V_aload_n d_X12_asFastAs_13 rfl rfl ?_
    refine V_iload_n d_X12_asFastAs_14 rfl rfl ?_
    obtain ⟨q2, hq2, hf⟩ := ob hf
    refine B_callV1 (s_X12_walksBy hG hq2) k_264 clX12 m_X12_walksBy kv_RX12_323 d_X12_asFastAs_15 rfl (Nat.le_of_ble_eq_true rfl) ⟨rfl, rfl, Nat.le_of_ble_eq_true rfl, Nat.le_of_ble_eq_true rfl, Nat.le_of_ble_eq_true rfl⟩ (fun n => ?_)
    refine V_iload_n d_X12_asFastAs_18 rfl rfl ?_
    have hJj3 : ∀ j3 : Int32, j3 = (if q2.1 = l1 then ((1 <<< (l3 &&& 31)) : Int32) else 0) → V G C F_X12_asFastAs 29 [some (.ref (G.2.1 + 264)), some (.int l1), none, some (.int l3)] [.int j3, .int l2] (pic G q2.2) n 0 0 := by
      intro j3 ej3
      subst ej3
      refine V_ior d_X12_asFastAs_29 ?_
      refine V_istore_n (ls' := [_, _, _, _]) d_X12_asFastAs_30 rfl rfl rfl ?_
      refine V_iinc (v := (l3 + 1)) (ls' := [_, _, _, _]) d_X12_asFastAs_31 rfl (by rw [ic_1]) rfl ?_
      refine V_goto (tgt := 4) d_X12_asFastAs_34 (by decide) ?_
      refine V_less (ls' := [some _, some _, some _, some _]) ⟨rfl, rfl, rfl, rfl, trivial⟩ ?_
      cases hf
      exact hK.1 _ rfl _
    refine V_icmp_ne (tgt := 28) d_X12_asFastAs_19 (by decide) (fun c19 => ?_) (fun c19 => ?_)
    · refine V_iconst (v := 0) d_X12_asFastAs_28 ic_0 ?_
      refine V_less (ls' := [some _, some _, none, some _]) ⟨rfl, rfl, rfl, trivial⟩ ?_
      exact hJj3 0 (by rw [if_neg c19])
    · refine V_iconst (v := 1) d_X12_asFastAs_22 ic_1 ?_
      refine V_iload_n d_X12_asFastAs_23 rfl rfl ?_
      refine V_ishl d_X12_asFastAs_24 ?_
      refine V_goto (tgt := 29) d_X12_asFastAs_25 (by decide) ?_
      refine V_less (ls' := [some _, some _, none, some _]) ⟨rfl, rfl, rfl, trivial⟩ ?_
      exact hJj3 (1 <<< (l3 &&& 31)) (by rw [if_pos c19])
theorem s_X12_asFastAs_j37 {G : Gl} (hG : G.1.stackTraces = false) {C : Cx} {n : Nat} {μ : Mem} {l2 : Int32} {r : (Int32 × Mem)} (hf : f_X12_asFastAs_j37 μ l2 = some r) (hK : FinR G C F_X12_asFastAs (some .int) (some (.int r.1)) r.2) : V G C F_X12_asFastAs 37 [none, none, some (.int l2), none] [] (pic G μ) n 0 0 := by
  unfold f_X12_asFastAs_j37 at hf
  refine V_iload_n d_X12_asFastAs_37 rfl rfl ?_
  cases hf
  exact R_i hK d_X12_asFastAs_38 (Nat.le_of_ble_eq_true rfl) (Nat.le_of_ble_eq_true rfl)
theorem s_X12_asFastAs_l4 {G : Gl} (hG : G.1.stackTraces = false) {C : Cx} {n : Nat} {μ : Mem} {l1 : Int32} {l2 : Int32} {l3 : Int32} {r : (Int32 × Mem)} (hf : f_X12_asFastAs_l4 μ l1 l2 l3 = some r) (hK : FinR G C F_X12_asFastAs (some .int) (some (.int r.1)) r.2) : V G C F_X12_asFastAs 4 [some (.ref (G.2.1 + 264)), some (.int l1), some (.int l2), some (.int l3)] [] (pic G μ) n 0 0 := by
  unfold f_X12_asFastAs_l4 at hf
  obtain ⟨t, hl, hf⟩ := ob hf
  refine loopV (P := fun z => ∀ n, V G C F_X12_asFastAs 4 [some (.ref (G.2.1 + 264)), some (.int l1), some (.int z.1), some (.int z.2.1)] [] (pic G z.2.2) n 0 0) (t := t) ?_ _ _ hl n
  intro z y' hy hI hT n
  refine s_X12_asFastAs_b4 hG hy ⟨hI, fun x9 ex => ?_⟩
  have ex2 := hT x9 ex
  subst ex2
  intro n
  exact s_X12_asFastAs_j37 hG hf hK
theorem s_X12_asFastAs_e {G : Gl} (hG : G.1.stackTraces = false) {C : Cx} {n : Nat} {μ : Mem} {p1 : Int32} {r : (Int32 × Mem)} (hf : f_X12_asFastAs μ p1 = some r) (hK : FinR G C F_X12_asFastAs (some .int) (some (.int r.1)) r.2) : V G C F_X12_asFastAs 0 [some (.ref (G.2.1 + 264)), some (.int p1), none, none] [] (pic G μ) n 0 0 := by
  unfold f_X12_asFastAs at hf
  refine V_iconst (v := 0) d_X12_asFastAs_0 ic_0 ?_
  refine V_istore_n (ls' := [_, _, _, _]) d_X12_asFastAs_1 rfl rfl rfl ?_
  refine V_iconst (v := 0) d_X12_asFastAs_2 ic_0 ?_
  refine V_istore_n (ls' := [_, _, _, _]) d_X12_asFastAs_3 rfl rfl rfl ?_
  refine V_less (ls' := [some _, some _, some _, some _]) ⟨rfl, rfl, rfl, rfl, trivial⟩ ?_
  exact s_X12_asFastAs_l4 hG hf hK
theorem s_X12_asFastAs {G : Gl} (hG : G.1.stackTraces = false) {μ : Mem} {p1 : Int32} {r : (Int32 × Mem)} (hf : f_X12_asFastAs μ p1 = some r) : Rt G yX12_asFastAs F_X12_asFastAs (some .int) [.ref (G.2.1 + 264), .int p1] μ (some (.int r.1)) r.2 := fun n => Sd.of hG ⟨by decide +kernel, rfl, rfl⟩ rfl (Nat.le_of_ble_eq_true rfl) rfl (fun C hK => s_X12_asFastAs_e hG hf hK)
theorem d_X12_race_0 : decode cX12_race 0 = .ok (.aload_n 0, 1) := by decide +kernel
theorem d_X12_race_1 : decode cX12_race 1 = .ok (.iconst 0, 1) := by decide +kernel
theorem d_X12_race_2 : decode cX12_race 2 = .ok (.putfield 3, 3) := by decide +kernel
theorem d_X12_race_5 : decode cX12_race 5 = .ok (.aload_n 0, 1) := by decide +kernel
theorem d_X12_race_6 : decode cX12_race 6 = .ok (.aload_n 0, 1) := by decide +kernel
theorem d_X12_race_7 : decode cX12_race 7 = .ok (.iload_n 1, 1) := by decide +kernel
theorem d_X12_race_8 : decode cX12_race 8 = .ok (.invokevirtual 305, 3) := by decide +kernel
theorem d_X12_race_11 : decode cX12_race 11 = .ok (.iconst 1, 1) := by decide +kernel
theorem d_X12_race_12 : decode cX12_race 12 = .ok (.invokevirtual 263, 3) := by decide +kernel
theorem d_X12_race_15 : decode cX12_race 15 = .ok (.ifCond .eq 7, 3) := by decide +kernel
theorem d_X12_race_18 : decode cX12_race 18 = .ok (.iconst 0, 1) := by decide +kernel
theorem d_X12_race_19 : decode cX12_race 19 = .ok (.goto 18, 3) := by decide +kernel
theorem d_X12_race_22 : decode cX12_race 22 = .ok (.aload_n 0, 1) := by decide +kernel
theorem d_X12_race_23 : decode cX12_race 23 = .ok (.aload_n 0, 1) := by decide +kernel
theorem d_X12_race_24 : decode cX12_race 24 = .ok (.iload_n 1, 1) := by decide +kernel
theorem d_X12_race_25 : decode cX12_race 25 = .ok (.invokevirtual 323, 3) := by decide +kernel
theorem d_X12_race_28 : decode cX12_race 28 = .ok (.invokevirtual 425, 3) := by decide +kernel
theorem d_X12_race_31 : decode cX12_race 31 = .ok (.iconst 1, 1) := by decide +kernel
theorem d_X12_race_32 : decode cX12_race 32 = .ok (.iload_n 1, 1) := by decide +kernel
theorem d_X12_race_33 : decode cX12_race 33 = .ok (.ishl, 1) := by decide +kernel
theorem d_X12_race_34 : decode cX12_race 34 = .ok (.iconst (-1), 1) := by decide +kernel
theorem d_X12_race_35 : decode cX12_race 35 = .ok (.ixor, 1) := by decide +kernel
theorem d_X12_race_36 : decode cX12_race 36 = .ok (.iand, 1) := by decide +kernel
theorem d_X12_race_37 : decode cX12_race 37 = .ok (.ireturn, 1) := by decide +kernel
theorem s_X12_race_j37 {G : Gl} (hG : G.1.stackTraces = false) {C : Cx} {n : Nat} {μ : Mem} {k0 : Int32} {r : (Int32 × Mem)} (hf : f_X12_race_j37 μ k0 = some r) (hK : FinR G C F_X12_race (some .int) (some (.int r.1)) r.2) : V G C F_X12_race 37 [none, none] [.int k0] (pic G μ) n 0 0 := by
  unfold f_X12_race_j37 at hf
  cases hf
  exact R_i hK d_X12_race_37 (Nat.le_of_ble_eq_true rfl) (Nat.le_of_ble_eq_true rfl)
theorem s_X12_race_e {G : Gl} (hG : G.1.stackTraces = false) {C : Cx} {n : Nat} {μ : Mem} {p1 : Int32} {r : (Int32 × Mem)} (hf : f_X12_race μ p1 = some r) (hK : FinR G C F_X12_race (some .int) (some (.int r.1)) r.2) : V G C F_X12_race 0 [some (.ref (G.2.1 + 264)), some (.int p1)] [] (pic G μ) n 0 0 := by
  unfold f_X12_race at hf
  refine V_aload_n d_X12_race_0 rfl rfl ?_
  refine V_iconst (v := 0) d_X12_race_1 ic_0 ?_
  refine B_putI k_264 fl_RX12_3 pt_12_0 (Nat.le_of_ble_eq_true rfl) p_12_0 d_X12_race_2 ?_
  refine V_aload_n d_X12_race_5 rfl rfl ?_
  refine V_aload_n d_X12_race_6 rfl rfl ?_
  refine V_iload_n d_X12_race_7 rfl rfl ?_
  obtain ⟨t1, ht1, hf⟩ := ob hf
  refine B_callV1 (s_X12_noPerson hG ht1) k_264 clX12 m_X12_noPerson kv_RX12_305 d_X12_race_8 rfl (Nat.le_of_ble_eq_true rfl) ⟨rfl, rfl, Nat.le_of_ble_eq_true rfl, Nat.le_of_ble_eq_true rfl, Nat.le_of_ble_eq_true rfl⟩ (fun n => ?_)
  refine V_iconst (v := 1) d_X12_race_11 ic_1 ?_
  obtain ⟨q2, hq2, hf⟩ := ob hf
  refine B_callV1 (s_X12_throwsIf hG hq2) k_264 clX12 m_X12_throwsIf kv_RX12_263 d_X12_race_12 rfl (Nat.le_of_ble_eq_true rfl) ⟨rfl, rfl, Nat.le_of_ble_eq_true rfl, Nat.le_of_ble_eq_true rfl, Nat.le_of_ble_eq_true rfl⟩ (fun n => ?_)
  refine V_if_eq (tgt := 22) d_X12_race_15 (by decide) (fun c15 => ?_) (fun c15 => ?_)
  · replace hf := iteF (b2i_nt (b2i_eq0 c15)) hf
    refine V_aload_n d_X12_race_22 rfl rfl ?_
    refine V_aload_n d_X12_race_23 rfl rfl ?_
    refine V_iload_n d_X12_race_24 rfl rfl ?_
    obtain ⟨q3, hq3, hf⟩ := ob hf
    refine B_callV1 (s_X12_walksBy hG hq3) k_264 clX12 m_X12_walksBy kv_RX12_323 d_X12_race_25 rfl (Nat.le_of_ble_eq_true rfl) ⟨rfl, rfl, Nat.le_of_ble_eq_true rfl, Nat.le_of_ble_eq_true rfl, Nat.le_of_ble_eq_true rfl⟩ (fun n => ?_)
    obtain ⟨q4, hq4, hf⟩ := ob hf
    refine B_callV1 (s_X12_asFastAs hG hq4) k_264 clX12 m_X12_asFastAs kv_RX12_425 d_X12_race_28 rfl (Nat.le_of_ble_eq_true rfl) ⟨rfl, rfl, Nat.le_of_ble_eq_true rfl, Nat.le_of_ble_eq_true rfl, Nat.le_of_ble_eq_true rfl⟩ (fun n => ?_)
    refine V_iconst (v := 1) d_X12_race_31 ic_1 ?_
    refine V_iload_n d_X12_race_32 rfl rfl ?_
    refine V_ishl d_X12_race_33 ?_
    refine V_iconst (v := (-1)) d_X12_race_34 ic_m1 ?_
    refine V_ixor d_X12_race_35 ?_
    refine V_iand d_X12_race_36 ?_
    refine V_less (ls' := [none, none]) trivial ?_
    exact s_X12_race_j37 hG hf hK
  · replace hf := iteT (b2i_ne0 c15) hf
    refine V_iconst (v := 0) d_X12_race_18 ic_0 ?_
    refine V_goto (tgt := 37) d_X12_race_19 (by decide) ?_
    refine V_less (ls' := [none, none]) trivial ?_
    exact s_X12_race_j37 hG hf hK
theorem s_X12_race {G : Gl} (hG : G.1.stackTraces = false) {μ : Mem} {p1 : Int32} {r : (Int32 × Mem)} (hf : f_X12_race μ p1 = some r) : Rt G yX12_race F_X12_race (some .int) [.ref (G.2.1 + 264), .int p1] μ (some (.int r.1)) r.2 := fun n => Sd.of hG ⟨by decide +kernel, rfl, rfl⟩ rfl (Nat.le_of_ble_eq_true rfl) rfl (fun C hK => s_X12_race_e hG hf hK)
theorem d_X12_pairs_0 : decode cX12_pairs 0 = .ok (.aload_n 0, 1) := by decide +kernel
theorem d_X12_pairs_1 : decode cX12_pairs 1 = .ok (.iconst 0, 1) := by decide +kernel
theorem d_X12_pairs_2 : decode cX12_pairs 2 = .ok (.putfield 3, 3) := by decide +kernel
theorem d_X12_pairs_5 : decode cX12_pairs 5 = .ok (.iconst 0, 1) := by decide +kernel
theorem d_X12_pairs_6 : decode cX12_pairs 6 = .ok (.istore_n 1, 1) := by decide +kernel
theorem d_X12_pairs_7 : decode cX12_pairs 7 = .ok (.iconst 0, 1) := by decide +kernel
theorem d_X12_pairs_8 : decode cX12_pairs 8 = .ok (.istore_n 2, 1) := by decide +kernel
theorem d_X12_pairs_9 : decode cX12_pairs 9 = .ok (.iload_n 2, 1) := by decide +kernel
theorem d_X12_pairs_10 : decode cX12_pairs 10 = .ok (.bipush 9, 2) := by decide +kernel
theorem d_X12_pairs_12 : decode cX12_pairs 12 = .ok (.if_icmp .gt 22, 3) := by decide +kernel
theorem d_X12_pairs_15 : decode cX12_pairs 15 = .ok (.iload_n 1, 1) := by decide +kernel
theorem d_X12_pairs_16 : decode cX12_pairs 16 = .ok (.aload_n 0, 1) := by decide +kernel
theorem d_X12_pairs_17 : decode cX12_pairs 17 = .ok (.iload_n 2, 1) := by decide +kernel
theorem d_X12_pairs_18 : decode cX12_pairs 18 = .ok (.invokevirtual 425, 3) := by decide +kernel
theorem d_X12_pairs_21 : decode cX12_pairs 21 = .ok (.invokestatic 272, 3) := by decide +kernel
theorem d_X12_pairs_24 : decode cX12_pairs 24 = .ok (.iconst 2, 1) := by decide +kernel
theorem d_X12_pairs_25 : decode cX12_pairs 25 = .ok (.idiv, 1) := by decide +kernel
theorem d_X12_pairs_26 : decode cX12_pairs 26 = .ok (.iadd, 1) := by decide +kernel
theorem d_X12_pairs_27 : decode cX12_pairs 27 = .ok (.istore_n 1, 1) := by decide +kernel
theorem d_X12_pairs_28 : decode cX12_pairs 28 = .ok (.iinc 2 1, 3) := by decide +kernel
theorem d_X12_pairs_31 : decode cX12_pairs 31 = .ok (.goto (-22), 3) := by decide +kernel
theorem d_X12_pairs_34 : decode cX12_pairs 34 = .ok (.iload_n 1, 1) := by decide +kernel
theorem d_X12_pairs_35 : decode cX12_pairs 35 = .ok (.ireturn, 1) := by decide +kernel
theorem s_X12_pairs_b9 {G : Gl} (hG : G.1.stackTraces = false) {C : Cx} {n : Nat} {μ : Mem} {l1 : Int32} {l2 : Int32} {y : ((Int32 × Int32 × Mem) ⊕ (Int32 × Mem))} (hf : f_X12_pairs_b9 μ l1 l2 = some y) (hK : (∀ z', y = .inl z' → ∀ n, V G C F_X12_pairs 9 [some (.ref (G.2.1 + 264)), some (.int z'.1), some (.int z'.2.1)] [] (pic G z'.2.2) n 0 0) ∧ (∀ x', y = .inr x' → ∀ n, V G C F_X12_pairs 34 [none, some (.int x'.1), none] [] (pic G x'.2) n 0 0)) : V G C F_X12_pairs 9 [some (.ref (G.2.1 + 264)), some (.int l1), some (.int l2)] [] (pic G μ) n 0 0 := by
  unfold f_X12_pairs_b9 at hf
  refine V_iload_n d_X12_pairs_9 rfl rfl ?_
  refine V_bipush (v := 9) d_X12_pairs_10 bp_9 ?_
  refine V_icmp_gt (tgt := 34) d_X12_pairs_12 (by decide) (fun c12 => ?_) (fun c12 => ?_)
  · replace hf := iteT c12 hf
    refine V_less (ls' := [none, some _, none]) ⟨rfl, trivial⟩ ?_
    cases hf
    exact hK.2 _ rfl _
  · replace hf := iteF c12 hf
    refine V_iload_n d_X12_pairs_15 rfl rfl ?_
    refine V_aload_n d_X12_pairs_16 rfl rfl ?_
    refine V_iload_n d_X12_pairs_17 rfl rfl ?_
    obtain ⟨q1, hq1, hf⟩ := ob hf
    refine B_callV1 (s_X12_asFastAs hG hq1) k_264 clX12 m_X12_asFastAs kv_RX12_425 d_X12_pairs_18 rfl (Nat.le_of_ble_eq_true rfl) ⟨rfl, rfl, Nat.le_of_ble_eq_true rfl, Nat.le_of_ble_eq_true rfl, Nat.le_of_ble_eq_true rfl⟩ (fun n => ?_)
    obtain ⟨t2, ht2, hf⟩ := ob hf
    refine B_callS1 (s_J6_bitCount_0f7a4 hG ht2) m_J6_bitCount_0f7a4 ks_RX12_272 d_X12_pairs_21 rfl (Nat.le_of_ble_eq_true rfl) ⟨rfl, rfl, Nat.le_of_ble_eq_true rfl, Nat.le_of_ble_eq_true rfl, Nat.le_of_ble_eq_true rfl⟩ (fun n => ?_)
    refine V_iconst (v := 2) d_X12_pairs_24 ic_2 ?_
    obtain ⟨t3, ht3, hf⟩ := ob hf
    obtain ⟨gt3, ht3⟩ := dv_some ht3
    refine V_idiv d_X12_pairs_25 gt3 ?_
    rw [ht3]
    refine V_iadd d_X12_pairs_26 ?_
    refine V_istore_n (ls' := [_, _, _]) d_X12_pairs_27 rfl rfl rfl ?_
    refine V_iinc (v := (l2 + 1)) (ls' := [_, _, _]) d_X12_pairs_28 rfl (by rw [ic_1]) rfl ?_
    refine V_goto (tgt := 9) d_X12_pairs_31 (by decide) ?_
    refine V_less (ls' := [some _, some _, some _]) ⟨rfl, rfl, rfl, trivial⟩ ?_
    cases hf
    exact hK.1 _ rfl _
theorem s_X12_pairs_j34 {G : Gl} (hG : G.1.stackTraces = false) {C : Cx} {n : Nat} {μ : Mem} {l1 : Int32} {r : (Int32 × Mem)} (hf : f_X12_pairs_j34 μ l1 = some r) (hK : FinR G C F_X12_pairs (some .int) (some (.int r.1)) r.2) : V G C F_X12_pairs 34 [none, some (.int l1), none] [] (pic G μ) n 0 0 := by
  unfold f_X12_pairs_j34 at hf
  refine V_iload_n d_X12_pairs_34 rfl rfl ?_
  cases hf
  exact R_i hK d_X12_pairs_35 (Nat.le_of_ble_eq_true rfl) (Nat.le_of_ble_eq_true rfl)
theorem s_X12_pairs_l9 {G : Gl} (hG : G.1.stackTraces = false) {C : Cx} {n : Nat} {μ : Mem} {l1 : Int32} {l2 : Int32} {r : (Int32 × Mem)} (hf : f_X12_pairs_l9 μ l1 l2 = some r) (hK : FinR G C F_X12_pairs (some .int) (some (.int r.1)) r.2) : V G C F_X12_pairs 9 [some (.ref (G.2.1 + 264)), some (.int l1), some (.int l2)] [] (pic G μ) n 0 0 := by
  unfold f_X12_pairs_l9 at hf
  obtain ⟨t, hl, hf⟩ := ob hf
  refine loopV (P := fun z => ∀ n, V G C F_X12_pairs 9 [some (.ref (G.2.1 + 264)), some (.int z.1), some (.int z.2.1)] [] (pic G z.2.2) n 0 0) (t := t) ?_ _ _ hl n
  intro z y' hy hI hT n
  refine s_X12_pairs_b9 hG hy ⟨hI, fun x9 ex => ?_⟩
  have ex2 := hT x9 ex
  subst ex2
  intro n
  exact s_X12_pairs_j34 hG hf hK
theorem s_X12_pairs_e {G : Gl} (hG : G.1.stackTraces = false) {C : Cx} {n : Nat} {μ : Mem}  {r : (Int32 × Mem)} (hf : f_X12_pairs μ = some r) (hK : FinR G C F_X12_pairs (some .int) (some (.int r.1)) r.2) : V G C F_X12_pairs 0 [some (.ref (G.2.1 + 264)), none, none] [] (pic G μ) n 0 0 := by
  unfold f_X12_pairs at hf
  refine V_aload_n d_X12_pairs_0 rfl rfl ?_
  refine V_iconst (v := 0) d_X12_pairs_1 ic_0 ?_
  refine B_putI k_264 fl_RX12_3 pt_12_0 (Nat.le_of_ble_eq_true rfl) p_12_0 d_X12_pairs_2 ?_
  refine V_iconst (v := 0) d_X12_pairs_5 ic_0 ?_
  refine V_istore_n (ls' := [_, _, _]) d_X12_pairs_6 rfl rfl rfl ?_
  refine V_iconst (v := 0) d_X12_pairs_7 ic_0 ?_
  refine V_istore_n (ls' := [_, _, _]) d_X12_pairs_8 rfl rfl rfl ?_
  refine V_less (ls' := [some _, some _, some _]) ⟨rfl, rfl, rfl, trivial⟩ ?_
  exact s_X12_pairs_l9 hG hf hK
theorem s_X12_pairs {G : Gl} (hG : G.1.stackTraces = false) {μ : Mem} {r : (Int32 × Mem)} (hf : f_X12_pairs μ = some r) : Rt G yX12_pairs F_X12_pairs (some .int) [.ref (G.2.1 + 264)] μ (some (.int r.1)) r.2 := fun n => Sd.of hG ⟨by decide +kernel, rfl, rfl⟩ rfl (Nat.le_of_ble_eq_true rfl) rfl (fun C hK => s_X12_pairs_e hG hf hK)
theorem d_X12_lends_0 : decode cX12_lends 0 = .ok (.aload_n 0, 1) := by decide +kernel
theorem d_X12_lends_1 : decode cX12_lends 1 = .ok (.iconst 0, 1) := by decide +kernel
theorem d_X12_lends_2 : decode cX12_lends 2 = .ok (.putfield 3, 3) := by decide +kernel
theorem d_X12_lends_5 : decode cX12_lends 5 = .ok (.aload_n 0, 1) := by decide +kernel
theorem d_X12_lends_6 : decode cX12_lends 6 = .ok (.iload_n 1, 1) := by decide +kernel
theorem d_X12_lends_7 : decode cX12_lends 7 = .ok (.iconst 1, 1) := by decide +kernel
theorem d_X12_lends_8 : decode cX12_lends 8 = .ok (.sipush 999, 3) := by decide +kernel
theorem d_X12_lends_11 : decode cX12_lends 11 = .ok (.invokestatic 73, 3) := by decide +kernel
theorem d_X12_lends_14 : decode cX12_lends 14 = .ok (.ifCond .ne 7, 3) := by decide +kernel
theorem d_X12_lends_17 : decode cX12_lends 17 = .ok (.iconst 1, 1) := by decide +kernel
theorem d_X12_lends_18 : decode cX12_lends 18 = .ok (.goto 4, 3) := by decide +kernel
theorem d_X12_lends_21 : decode cX12_lends 21 = .ok (.iconst 0, 1) := by decide +kernel
theorem d_X12_lends_22 : decode cX12_lends 22 = .ok (.iconst 1, 1) := by decide +kernel
theorem d_X12_lends_23 : decode cX12_lends 23 = .ok (.invokevirtual 263, 3) := by decide +kernel
theorem d_X12_lends_26 : decode cX12_lends 26 = .ok (.ifCond .eq 5, 3) := by decide +kernel
theorem d_X12_lends_29 : decode cX12_lends 29 = .ok (.iconst 0, 1) := by decide +kernel
theorem d_X12_lends_30 : decode cX12_lends 30 = .ok (.ireturn, 1) := by decide +kernel
theorem d_X12_lends_31 : decode cX12_lends 31 = .ok (.iconst 0, 1) := by decide +kernel
theorem d_X12_lends_32 : decode cX12_lends 32 = .ok (.istore_n 2, 1) := by decide +kernel
theorem d_X12_lends_33 : decode cX12_lends 33 = .ok (.iconst 0, 1) := by decide +kernel
theorem d_X12_lends_34 : decode cX12_lends 34 = .ok (.istore_n 3, 1) := by decide +kernel
theorem d_X12_lends_35 : decode cX12_lends 35 = .ok (.iload_n 3, 1) := by decide +kernel
theorem d_X12_lends_36 : decode cX12_lends 36 = .ok (.aload_n 0, 1) := by decide +kernel
theorem d_X12_lends_37 : decode cX12_lends 37 = .ok (.invokevirtual 59, 3) := by decide +kernel
theorem d_X12_lends_40 : decode cX12_lends 40 = .ok (.if_icmp .ge 65, 3) := by decide +kernel
theorem d_X12_lends_43 : decode cX12_lends 43 = .ok (.iconst 0, 1) := by decide +kernel
theorem d_X12_lends_44 : decode cX12_lends 44 = .ok (.istore 4, 2) := by decide +kernel
theorem d_X12_lends_46 : decode cX12_lends 46 = .ok (.iload 4, 2) := by decide +kernel
theorem d_X12_lends_48 : decode cX12_lends 48 = .ok (.aload_n 0, 1) := by decide +kernel
theorem d_X12_lends_49 : decode cX12_lends 49 = .ok (.invokevirtual 77, 3) := by decide +kernel
theorem d_X12_lends_52 : decode cX12_lends 52 = .ok (.if_icmp .ge 47, 3) := by decide +kernel
theorem d_X12_lends_55 : decode cX12_lends 55 = .ok (.iload_n 2, 1) := by decide +kernel
theorem d_X12_lends_56 : decode cX12_lends 56 = .ok (.iload 4, 2) := by decide +kernel
theorem d_X12_lends_58 : decode cX12_lends 58 = .ok (.invokestatic 144, 3) := by decide +kernel
theorem d_X12_lends_61 : decode cX12_lends 61 = .ok (.iload_n 3, 1) := by decide +kernel
theorem d_X12_lends_62 : decode cX12_lends 62 = .ok (.if_icmp .eq 28, 3) := by decide +kernel
theorem d_X12_lends_65 : decode cX12_lends 65 = .ok (.aload_n 0, 1) := by decide +kernel
theorem d_X12_lends_66 : decode cX12_lends 66 = .ok (.iload 4, 2) := by decide +kernel
theorem d_X12_lends_68 : decode cX12_lends 68 = .ok (.invokevirtual 138, 3) := by decide +kernel
theorem d_X12_lends_71 : decode cX12_lends 71 = .ok (.ifCond .eq 19, 3) := by decide +kernel
theorem d_X12_lends_74 : decode cX12_lends 74 = .ok (.aload_n 0, 1) := by decide +kernel
theorem d_X12_lends_75 : decode cX12_lends 75 = .ok (.iload_n 3, 1) := by decide +kernel
theorem d_X12_lends_76 : decode cX12_lends 76 = .ok (.iconst 0, 1) := by decide +kernel
theorem d_X12_lends_77 : decode cX12_lends 77 = .ok (.invokevirtual 84, 3) := by decide +kernel
theorem d_X12_lends_80 : decode cX12_lends 80 = .ok (.iload_n 1, 1) := by decide +kernel
theorem d_X12_lends_81 : decode cX12_lends 81 = .ok (.if_icmp .lt 9, 3) := by decide +kernel
theorem d_X12_lends_84 : decode cX12_lends 84 = .ok (.iconst 1, 1) := by decide +kernel
theorem d_X12_lends_85 : decode cX12_lends 85 = .ok (.iload_n 3, 1) := by decide +kernel
theorem d_X12_lends_86 : decode cX12_lends 86 = .ok (.ishl, 1) := by decide +kernel
theorem d_X12_lends_87 : decode cX12_lends 87 = .ok (.goto 4, 3) := by decide +kernel
theorem d_X12_lends_90 : decode cX12_lends 90 = .ok (.iconst 0, 1) := by decide +kernel
theorem d_X12_lends_91 : decode cX12_lends 91 = .ok (.ior, 1) := by decide +kernel
theorem d_X12_lends_92 : decode cX12_lends 92 = .ok (.istore_n 2, 1) := by decide +kernel
theorem d_X12_lends_93 : decode cX12_lends 93 = .ok (.iinc 4 1, 3) := by decide +kernel
theorem d_X12_lends_96 : decode cX12_lends 96 = .ok (.goto (-50), 3) := by decide +kernel
theorem d_X12_lends_99 : decode cX12_lends 99 = .ok (.iinc 3 1, 3) := by decide +kernel
theorem d_X12_lends_102 : decode cX12_lends 102 = .ok (.goto (-67), 3) := by decide +kernel
theorem d_X12_lends_105 : decode cX12_lends 105 = .ok (.iload_n 2, 1) := by decide +kernel
theorem d_X12_lends_106 : decode cX12_lends 106 = .ok (.ireturn, 1) := by decide +kernel
theorem s_X12_lends_j91_46 {G : Gl} (hG : G.1.stackTraces = false) {C : Cx} {n : Nat} {μ : Mem} {l1 : Int32} {l3 : Int32} {l4 : Int32} {k0 : Int32} {k1 : Int32} {y : ((Int32 × Int32) ⊕ Int32)} (hf : f_X12_lends_j91_46 μ l1 l3 l4 k0 k1 = some y) (hK : (∀ z', y = .inl z' → ∀ n, V G C F_X12_lends 46 [some (.ref (G.2.1 + 264)), some (.int l1), some (.int z'.1), some (.int l3), some (.int z'.2)] [] (pic G μ) n 0 0) ∧ (∀ x', y = .inr x' → ∀ n, V G C F_X12_lends 99 [some (.ref (G.2.1 + 264)), some (.int l1), some (.int x'), some (.int l3), none] [] (pic G μ) n 0 0)) : V G C F_X12_lends 91 [some (.ref (G.2.1 + 264)), some (.int l1), none, some (.int l3), some (.int l4)] [.int k1, .int k0] (pic G μ) n 0 0 := by
  unfold f_X12_lends_j91_46 at hf
  refine V_ior d_X12_lends_91 ?_
  refine V_istore_n (ls' := [_, _, _, _, _]) d_X12_lends_92 rfl rfl rfl ?_
  refine V_iinc (v := (l4 + 1)) (ls' := [_, _, _, _, _]) d_X12_lends_93 rfl (by rw [ic_1]) rfl ?_
  refine V_goto (tgt := 46) d_X12_lends_96 (by decide) ?_
  refine V_less (ls' := [some _, some _, some _, some _, some _]) ⟨rfl, rfl, rfl, rfl, rfl, trivial⟩ ?_
  cases hf
  exact hK.1 _ rfl _
theorem s_X12_lends_j90_46 {G : Gl} (hG : G.1.stackTraces = false) {C : Cx} {n : Nat} {μ : Mem} {l1 : Int32} {l3 : Int32} {l4 : Int32} {k0 : Int32} {y : ((Int32 × Int32) ⊕ Int32)} (hf : f_X12_lends_j90_46 μ l1 l3 l4 k0 = some y) (hK : (∀ z', y = .inl z' → ∀ n, V G C F_X12_lends 46 [some (.ref (G.2.1 + 264)), some (.int l1), some (.int z'.1), some (.int l3), some (.int z'.2)] [] (pic G μ) n 0 0) ∧ (∀ x', y = .inr x' → ∀ n, V G C F_X12_lends 99 [some (.ref (G.2.1 + 264)), some (.int l1), some (.int x'), some (.int l3), none] [] (pic G μ) n 0 0)) : V G C F_X12_lends 90 [some (.ref (G.2.1 + 264)), some (.int l1), none, some (.int l3), some (.int l4)] [.int k0] (pic G μ) n 0 0 := by
  unfold f_X12_lends_j90_46 at hf
  refine V_iconst (v := 0) d_X12_lends_90 ic_0 ?_
  refine V_less (ls' := [some _, some _, none, some _, some _]) ⟨rfl, rfl, rfl, rfl, trivial⟩ ?_
  exact s_X12_lends_j91_46 hG hf hK
theorem s_X12_lends_b46 {G : Gl} (hG : G.1.stackTraces = false) {C : Cx} {n : Nat} {μ : Mem} {l1 : Int32} {l2 : Int32} {l3 : Int32} {l4 : Int32} {y : ((Int32 × Int32) ⊕ Int32)} (hf : f_X12_lends_b46 μ l1 l2 l3 l4 = some y) (hK : (∀ z', y = .inl z' → ∀ n, V G C F_X12_lends 46 [some (.ref (G.2.1 + 264)), some (.int l1), some (.int z'.1), some (.int l3), some (.int z'.2)] [] (pic G μ) n 0 0) ∧ (∀ x', y = .inr x' → ∀ n, V G C F_X12_lends 99 [some (.ref (G.2.1 + 264)), some (.int l1), some (.int x'), some (.int l3), none] [] (pic G μ) n 0 0)) : V G C F_X12_lends 46 [some (.ref (G.2.1 + 264)), some (.int l1), some (.int l2), some (.int l3), some (.int l4)] [] (pic G μ) n 0 0 := by
  unfold f_X12_lends_b46 at hf
  refine V_iload d_X12_lends_46 rfl ?_
  refine V_aload_n d_X12_lends_48 rfl rfl ?_
  obtain ⟨t1, ht1, hf⟩ := ob hf
  refine B_callV1 (s_X12_laces hG ht1) k_264 clX12 m_X12_laces kv_RX12_77 d_X12_lends_49 rfl (Nat.le_of_ble_eq_true rfl) ⟨rfl, rfl, Nat.le_of_ble_eq_true rfl, Nat.le_of_ble_eq_true rfl, Nat.le_of_ble_eq_true rfl⟩ (fun n => ?_)
  refine V_icmp_ge (tgt := 99) d_X12_lends_52 (by decide) (fun c52 => ?_) (fun c52 => ?_)
  · replace hf := iteT c52 hf
    refine V_less (ls' := [some _, some _, some _, some _, none]) ⟨rfl, rfl, rfl, rfl, trivial⟩ ?_
    cases hf
    exact hK.2 _ rfl _
  · replace hf := iteF c52 hf
    refine V_iload_n d_X12_lends_55 rfl rfl ?_
    refine V_iload d_X12_lends_56 rfl ?_
    obtain ⟨t2, ht2, hf⟩ := ob hf
    refine B_callS1 (s_X12_ownerOf hG ht2) m_X12_ownerOf ks_RX12_144 d_X12_lends_58 rfl (Nat.le_of_ble_eq_true rfl) ⟨rfl, rfl, Nat.le_of_ble_eq_true rfl, Nat.le_of_ble_eq_true rfl, Nat.le_of_ble_eq_true rfl⟩ (fun n => ?_)
    refine V_iload_n d_X12_lends_61 rfl rfl ?_
    refine V_icmp_eq (tgt := 90) d_X12_lends_62 (by decide) (fun c62 => ?_) (fun c62 => ?_)
    · replace hf := iteT c62 hf
      refine V_less (ls' := [some _, some _, none, some _, some _]) ⟨rfl, rfl, rfl, rfl, trivial⟩ ?_
      exact s_X12_lends_j90_46 hG hf hK
    · replace hf := iteF c62 hf
      refine V_aload_n d_X12_lends_65 rfl rfl ?_
      refine V_iload d_X12_lends_66 rfl ?_
      obtain ⟨t3, ht3, hf⟩ := ob hf
      refine B_callV1 (s_X12_isIn hG ht3) k_264 clX12 m_X12_isIn kv_RX12_138 d_X12_lends_68 rfl (Nat.le_of_ble_eq_true rfl) ⟨rfl, rfl, Nat.le_of_ble_eq_true rfl, Nat.le_of_ble_eq_true rfl, Nat.le_of_ble_eq_true rfl⟩ (fun n => ?_)
      refine V_if_eq (tgt := 90) d_X12_lends_71 (by decide) (fun c71 => ?_) (fun c71 => ?_)
      · replace hf := iteF (b2i_nt (b2i_eq0 c71)) hf
        refine V_less (ls' := [some _, some _, none, some _, some _]) ⟨rfl, rfl, rfl, rfl, trivial⟩ ?_
        exact s_X12_lends_j90_46 hG hf hK
      · replace hf := iteT (b2i_ne0 c71) hf
        refine V_aload_n d_X12_lends_74 rfl rfl ?_
        refine V_iload_n d_X12_lends_75 rfl rfl ?_
        refine V_iconst (v := 0) d_X12_lends_76 ic_0 ?_
        obtain ⟨t4, ht4, hf⟩ := ob hf
        refine B_callV1 (s_X12_of hG ht4) k_264 clX12 m_X12_of kv_RX12_84 d_X12_lends_77 rfl (Nat.le_of_ble_eq_true rfl) ⟨rfl, rfl, Nat.le_of_ble_eq_true rfl, Nat.le_of_ble_eq_true rfl, Nat.le_of_ble_eq_true rfl⟩ (fun n => ?_)
        refine V_iload_n d_X12_lends_80 rfl rfl ?_
        have hJj5 : ∀ j5 : Int32, j5 = (if t4 < l1 then (0 : Int32) else (1 <<< (l3 &&& 31))) → V G C F_X12_lends 91 [some (.ref (G.2.1 + 264)), some (.int l1), none, some (.int l3), some (.int l4)] [.int j5, .int l2] (pic G μ) n 0 0 := by
          intro j5 ej5
          subst ej5
          refine V_ior d_X12_lends_91 ?_
          refine V_istore_n (ls' := [_, _, _, _, _]) d_X12_lends_92 rfl rfl rfl ?_
          refine V_iinc (v := (l4 + 1)) (ls' := [_, _, _, _, _]) d_X12_lends_93 rfl (by rw [ic_1]) rfl ?_
          refine V_goto (tgt := 46) d_X12_lends_96 (by decide) ?_
          refine V_less (ls' := [some _, some _, some _, some _, some _]) ⟨rfl, rfl, rfl, rfl, rfl, trivial⟩ ?_
          cases hf
          exact hK.1 _ rfl _
        refine V_icmp_lt (tgt := 90) d_X12_lends_81 (by decide) (fun c81 => ?_) (fun c81 => ?_)
        · refine V_iconst (v := 0) d_X12_lends_90 ic_0 ?_
          refine V_less (ls' := [some _, some _, none, some _, some _]) ⟨rfl, rfl, rfl, rfl, trivial⟩ ?_
          exact hJj5 0 (by rw [if_pos c81])
        · refine V_iconst (v := 1) d_X12_lends_84 ic_1 ?_
          refine V_iload_n d_X12_lends_85 rfl rfl ?_
          refine V_ishl d_X12_lends_86 ?_
          refine V_goto (tgt := 91) d_X12_lends_87 (by decide) ?_
          refine V_less (ls' := [some _, some _, none, some _, some _]) ⟨rfl, rfl, rfl, rfl, trivial⟩ ?_
          exact hJj5 (1 <<< (l3 &&& 31)) (by rw [if_neg c81])
theorem s_X12_lends_j99_35 {G : Gl} (hG : G.1.stackTraces = false) {C : Cx} {n : Nat} {μ : Mem} {l1 : Int32} {l2 : Int32} {l3 : Int32} {y : ((Int32 × Int32) ⊕ Int32)} (hf : f_X12_lends_j99_35 μ l1 l2 l3 = some y) (hK : (∀ z', y = .inl z' → ∀ n, V G C F_X12_lends 35 [some (.ref (G.2.1 + 264)), some (.int l1), some (.int z'.1), some (.int z'.2), none] [] (pic G μ) n 0 0) ∧ (∀ x', y = .inr x' → ∀ n, V G C F_X12_lends 105 [none, none, some (.int x'), none, none] [] (pic G μ) n 0 0)) : V G C F_X12_lends 99 [some (.ref (G.2.1 + 264)), some (.int l1), some (.int l2), some (.int l3), none] [] (pic G μ) n 0 0 := by
  unfold f_X12_lends_j99_35 at hf
  refine V_iinc (v := (l3 + 1)) (ls' := [_, _, _, _, _]) d_X12_lends_99 rfl (by rw [ic_1]) rfl ?_
  refine V_goto (tgt := 35) d_X12_lends_102 (by decide) ?_
  refine V_less (ls' := [some _, some _, some _, some _, none]) ⟨rfl, rfl, rfl, rfl, trivial⟩ ?_
  cases hf
  exact hK.1 _ rfl _
theorem s_X12_lends_l46 {G : Gl} (hG : G.1.stackTraces = false) {C : Cx} {n : Nat} {μ : Mem} {l1 : Int32} {l2 : Int32} {l3 : Int32} {l4 : Int32} {y : ((Int32 × Int32) ⊕ Int32)} (hf : f_X12_lends_l46 μ l1 l2 l3 l4 = some y) (hK : (∀ z', y = .inl z' → ∀ n, V G C F_X12_lends 35 [some (.ref (G.2.1 + 264)), some (.int l1), some (.int z'.1), some (.int z'.2), none] [] (pic G μ) n 0 0) ∧ (∀ x', y = .inr x' → ∀ n, V G C F_X12_lends 105 [none, none, some (.int x'), none, none] [] (pic G μ) n 0 0)) : V G C F_X12_lends 46 [some (.ref (G.2.1 + 264)), some (.int l1), some (.int l2), some (.int l3), some (.int l4)] [] (pic G μ) n 0 0 := by
  unfold f_X12_lends_l46 at hf
  obtain ⟨t, hl, hf⟩ := ob hf
  refine loopV (P := fun z => ∀ n, V G C F_X12_lends 46 [some (.ref (G.2.1 + 264)), some (.int l1), some (.int z.1), some (.int l3), some (.int z.2)] [] (pic G μ) n 0 0) (t := t) ?_ _ _ hl n
  intro z y' hy hI hT n
  refine s_X12_lends_b46 hG hy ⟨hI, fun x9 ex => ?_⟩
  have ex2 := hT x9 ex
  subst ex2
  intro n
  exact s_X12_lends_j99_35 hG hf hK
theorem s_X12_lends_b35 {G : Gl} (hG : G.1.stackTraces = false) {C : Cx} {n : Nat} {μ : Mem} {l1 : Int32} {l2 : Int32} {l3 : Int32} {y : ((Int32 × Int32) ⊕ Int32)} (hf : f_X12_lends_b35 μ l1 l2 l3 = some y) (hK : (∀ z', y = .inl z' → ∀ n, V G C F_X12_lends 35 [some (.ref (G.2.1 + 264)), some (.int l1), some (.int z'.1), some (.int z'.2), none] [] (pic G μ) n 0 0) ∧ (∀ x', y = .inr x' → ∀ n, V G C F_X12_lends 105 [none, none, some (.int x'), none, none] [] (pic G μ) n 0 0)) : V G C F_X12_lends 35 [some (.ref (G.2.1 + 264)), some (.int l1), some (.int l2), some (.int l3), none] [] (pic G μ) n 0 0 := by
  unfold f_X12_lends_b35 at hf
  refine V_iload_n d_X12_lends_35 rfl rfl ?_
  refine V_aload_n d_X12_lends_36 rfl rfl ?_
  obtain ⟨t1, ht1, hf⟩ := ob hf
  refine B_callV1 (s_X12_people hG ht1) k_264 clX12 m_X12_people kv_RX12_59 d_X12_lends_37 rfl (Nat.le_of_ble_eq_true rfl) ⟨rfl, rfl, Nat.le_of_ble_eq_true rfl, Nat.le_of_ble_eq_true rfl, Nat.le_of_ble_eq_true rfl⟩ (fun n => ?_)
  refine V_icmp_ge (tgt := 105) d_X12_lends_40 (by decide) (fun c40 => ?_) (fun c40 => ?_)
  · replace hf := iteT c40 hf
    refine V_less (ls' := [none, none, some _, none, none]) ⟨rfl, trivial⟩ ?_
    cases hf
    exact hK.2 _ rfl _
  · replace hf := iteF c40 hf
    refine V_iconst (v := 0) d_X12_lends_43 ic_0 ?_
    refine V_istore (ls' := [_, _, _, _, _]) d_X12_lends_44 rfl rfl ?_
    refine V_less (ls' := [some _, some _, some _, some _, some _]) ⟨rfl, rfl, rfl, rfl, rfl, trivial⟩ ?_
    exact s_X12_lends_l46 hG hf hK
theorem s_X12_lends_j105 {G : Gl} (hG : G.1.stackTraces = false) {C : Cx} {n : Nat} {μ : Mem} {l2 : Int32} {r : (Int32 × Mem)} (hf : f_X12_lends_j105 μ l2 = some r) (hK : FinR G C F_X12_lends (some .int) (some (.int r.1)) r.2) : V G C F_X12_lends 105 [none, none, some (.int l2), none, none] [] (pic G μ) n 0 0 := by
  unfold f_X12_lends_j105 at hf
  refine V_iload_n d_X12_lends_105 rfl rfl ?_
  cases hf
  exact R_i hK d_X12_lends_106 (Nat.le_of_ble_eq_true rfl) (Nat.le_of_ble_eq_true rfl)
theorem s_X12_lends_l35 {G : Gl} (hG : G.1.stackTraces = false) {C : Cx} {n : Nat} {μ : Mem} {l1 : Int32} {l2 : Int32} {l3 : Int32} {r : (Int32 × Mem)} (hf : f_X12_lends_l35 μ l1 l2 l3 = some r) (hK : FinR G C F_X12_lends (some .int) (some (.int r.1)) r.2) : V G C F_X12_lends 35 [some (.ref (G.2.1 + 264)), some (.int l1), some (.int l2), some (.int l3), none] [] (pic G μ) n 0 0 := by
  unfold f_X12_lends_l35 at hf
  obtain ⟨t, hl, hf⟩ := ob hf
  refine loopV (P := fun z => ∀ n, V G C F_X12_lends 35 [some (.ref (G.2.1 + 264)), some (.int l1), some (.int z.1), some (.int z.2), none] [] (pic G μ) n 0 0) (t := t) ?_ _ _ hl n
  intro z y' hy hI hT n
  refine s_X12_lends_b35 hG hy ⟨hI, fun x9 ex => ?_⟩
  have ex2 := hT x9 ex
  subst ex2
  intro n
  exact s_X12_lends_j105 hG hf hK
theorem s_X12_lends_e {G : Gl} (hG : G.1.stackTraces = false) {C : Cx} {n : Nat} {μ : Mem} {p1 : Int32} {r : (Int32 × Mem)} (hf : f_X12_lends μ p1 = some r) (hK : FinR G C F_X12_lends (some .int) (some (.int r.1)) r.2) : V G C F_X12_lends 0 [some (.ref (G.2.1 + 264)), some (.int p1), none, none, none] [] (pic G μ) n 0 0 := by
  unfold f_X12_lends at hf
  refine V_aload_n d_X12_lends_0 rfl rfl ?_
  refine V_iconst (v := 0) d_X12_lends_1 ic_0 ?_
  refine B_putI k_264 fl_RX12_3 pt_12_0 (Nat.le_of_ble_eq_true rfl) p_12_0 d_X12_lends_2 ?_
  refine V_aload_n d_X12_lends_5 rfl rfl ?_
  refine V_iload_n d_X12_lends_6 rfl rfl ?_
  refine V_iconst (v := 1) d_X12_lends_7 ic_1 ?_
  refine V_sipush (v := 999) d_X12_lends_8 sp_999 ?_
  obtain ⟨t1, ht1, hf⟩ := ob hf
  refine B_callS1 (s_X12_in hG ht1) m_X12_in ks_RX12_73 d_X12_lends_11 rfl (Nat.le_of_ble_eq_true rfl) ⟨rfl, rfl, Nat.le_of_ble_eq_true rfl, Nat.le_of_ble_eq_true rfl, Nat.le_of_ble_eq_true rfl⟩ (fun n => ?_)
  have hJj2 : ∀ j2 : Bool, j2 = (if t1 = true then (false : Bool) else true) → V G C F_X12_lends 22 [some (.ref (G.2.1 + 264)), some (.int p1), none, none, none] [.int (b2i j2), .ref (G.2.1 + 264)] (pic G (mset μ 264 0 0)) n 0 0 := by
    intro j2 ej2
    subst ej2
    refine V_iconst (v := 1) d_X12_lends_22 ic_1 ?_
    obtain ⟨q3, hq3, hf⟩ := ob hf
    refine B_callV1 (s_X12_throwsIf hG hq3) k_264 clX12 m_X12_throwsIf kv_RX12_263 d_X12_lends_23 rfl (Nat.le_of_ble_eq_true rfl) ⟨rfl, rfl, Nat.le_of_ble_eq_true rfl, Nat.le_of_ble_eq_true rfl, Nat.le_of_ble_eq_true rfl⟩ (fun n => ?_)
    refine V_if_eq (tgt := 31) d_X12_lends_26 (by decide) (fun c26 => ?_) (fun c26 => ?_)
    · replace hf := iteF (b2i_nt (b2i_eq0 c26)) hf
      refine V_iconst (v := 0) d_X12_lends_31 ic_0 ?_
      refine V_istore_n (ls' := [_, _, _, _, _]) d_X12_lends_32 rfl rfl rfl ?_
      refine V_iconst (v := 0) d_X12_lends_33 ic_0 ?_
      refine V_istore_n (ls' := [_, _, _, _, _]) d_X12_lends_34 rfl rfl rfl ?_
      refine V_less (ls' := [some _, some _, some _, some _, none]) ⟨rfl, rfl, rfl, rfl, trivial⟩ ?_
      exact s_X12_lends_l35 hG hf hK
    · replace hf := iteT (b2i_ne0 c26) hf
      refine V_iconst (v := 0) d_X12_lends_29 ic_0 ?_
      cases hf
      exact R_i hK d_X12_lends_30 (Nat.le_of_ble_eq_true rfl) (Nat.le_of_ble_eq_true rfl)
  refine V_if_ne (tgt := 21) d_X12_lends_14 (by decide) (fun c14 => ?_) (fun c14 => ?_)
  · refine V_iconst (v := 0) d_X12_lends_21 ic_0 ?_
    refine V_less (ls' := [some _, some _, none, none, none]) ⟨rfl, rfl, trivial⟩ ?_
    exact hJj2 false (by rw [if_pos (b2i_ne0 c14)])
  · refine V_iconst (v := 1) d_X12_lends_17 ic_1 ?_
    refine V_goto (tgt := 22) d_X12_lends_18 (by decide) ?_
    refine V_less (ls' := [some _, some _, none, none, none]) ⟨rfl, rfl, trivial⟩ ?_
    exact hJj2 true (by rw [if_neg (b2i_nt (b2i_eq0 c14))])
theorem s_X12_lends {G : Gl} (hG : G.1.stackTraces = false) {μ : Mem} {p1 : Int32} {r : (Int32 × Mem)} (hf : f_X12_lends μ p1 = some r) : Rt G yX12_lends F_X12_lends (some .int) [.ref (G.2.1 + 264), .int p1] μ (some (.int r.1)) r.2 := fun n => Sd.of hG ⟨by decide +kernel, rfl, rfl⟩ rfl (Nat.le_of_ble_eq_true rfl) rfl (fun C hK => s_X12_lends_e hG hf hK)
theorem d_X12_loose_0 : decode cX12_loose 0 = .ok (.aload_n 0, 1) := by decide +kernel
theorem d_X12_loose_1 : decode cX12_loose 1 = .ok (.iconst 0, 1) := by decide +kernel
theorem d_X12_loose_2 : decode cX12_loose 2 = .ok (.putfield 3, 3) := by decide +kernel
theorem d_X12_loose_5 : decode cX12_loose 5 = .ok (.aload_n 0, 1) := by decide +kernel
theorem d_X12_loose_6 : decode cX12_loose 6 = .ok (.aload_n 0, 1) := by decide +kernel
theorem d_X12_loose_7 : decode cX12_loose 7 = .ok (.iload_n 1, 1) := by decide +kernel
theorem d_X12_loose_8 : decode cX12_loose 8 = .ok (.invokevirtual 305, 3) := by decide +kernel
theorem d_X12_loose_11 : decode cX12_loose 11 = .ok (.iconst 1, 1) := by decide +kernel
theorem d_X12_loose_12 : decode cX12_loose 12 = .ok (.invokevirtual 263, 3) := by decide +kernel
theorem d_X12_loose_15 : decode cX12_loose 15 = .ok (.ifCond .eq 5, 3) := by decide +kernel
theorem d_X12_loose_18 : decode cX12_loose 18 = .ok (.iconst 0, 1) := by decide +kernel
theorem d_X12_loose_19 : decode cX12_loose 19 = .ok (.ireturn, 1) := by decide +kernel
theorem d_X12_loose_20 : decode cX12_loose 20 = .ok (.ldc_w 373, 3) := by decide +kernel
theorem d_X12_loose_23 : decode cX12_loose 23 = .ok (.istore_n 2, 1) := by decide +kernel
theorem d_X12_loose_24 : decode cX12_loose 24 = .ok (.iconst 2, 1) := by decide +kernel
theorem d_X12_loose_25 : decode cX12_loose 25 = .ok (.iload_n 1, 1) := by decide +kernel
theorem d_X12_loose_26 : decode cX12_loose 26 = .ok (.imul, 1) := by decide +kernel
theorem d_X12_loose_27 : decode cX12_loose 27 = .ok (.istore_n 3, 1) := by decide +kernel
theorem d_X12_loose_28 : decode cX12_loose 28 = .ok (.iload_n 3, 1) := by decide +kernel
theorem d_X12_loose_29 : decode cX12_loose 29 = .ok (.iconst 2, 1) := by decide +kernel
theorem d_X12_loose_30 : decode cX12_loose 30 = .ok (.iload_n 1, 1) := by decide +kernel
theorem d_X12_loose_31 : decode cX12_loose 31 = .ok (.imul, 1) := by decide +kernel
theorem d_X12_loose_32 : decode cX12_loose 32 = .ok (.iconst 1, 1) := by decide +kernel
theorem d_X12_loose_33 : decode cX12_loose 33 = .ok (.iadd, 1) := by decide +kernel
theorem d_X12_loose_34 : decode cX12_loose 34 = .ok (.if_icmp .gt 32, 3) := by decide +kernel
theorem d_X12_loose_37 : decode cX12_loose 37 = .ok (.aload_n 0, 1) := by decide +kernel
theorem d_X12_loose_38 : decode cX12_loose 38 = .ok (.iload_n 3, 1) := by decide +kernel
theorem d_X12_loose_39 : decode cX12_loose 39 = .ok (.invokevirtual 296, 3) := by decide +kernel
theorem d_X12_loose_42 : decode cX12_loose 42 = .ok (.ifCond .eq 16, 3) := by decide +kernel
theorem d_X12_loose_45 : decode cX12_loose 45 = .ok (.iload_n 2, 1) := by decide +kernel
theorem d_X12_loose_46 : decode cX12_loose 46 = .ok (.aload_n 0, 1) := by decide +kernel
theorem d_X12_loose_47 : decode cX12_loose 47 = .ok (.iload_n 3, 1) := by decide +kernel
theorem d_X12_loose_48 : decode cX12_loose 48 = .ok (.iconst 2, 1) := by decide +kernel
theorem d_X12_loose_49 : decode cX12_loose 49 = .ok (.invokevirtual 70, 3) := by decide +kernel
theorem d_X12_loose_52 : decode cX12_loose 52 = .ok (.invokestatic 87, 3) := by decide +kernel
theorem d_X12_loose_55 : decode cX12_loose 55 = .ok (.goto 4, 3) := by decide +kernel
theorem d_X12_loose_58 : decode cX12_loose 58 = .ok (.iload_n 2, 1) := by decide +kernel
theorem d_X12_loose_59 : decode cX12_loose 59 = .ok (.istore_n 2, 1) := by decide +kernel
theorem d_X12_loose_60 : decode cX12_loose 60 = .ok (.iinc 3 1, 3) := by decide +kernel
theorem d_X12_loose_63 : decode cX12_loose 63 = .ok (.goto (-35), 3) := by decide +kernel
theorem d_X12_loose_66 : decode cX12_loose 66 = .ok (.iload_n 2, 1) := by decide +kernel
theorem d_X12_loose_67 : decode cX12_loose 67 = .ok (.ldc_w 373, 3) := by decide +kernel
theorem d_X12_loose_70 : decode cX12_loose 70 = .ok (.if_icmp .lt 7, 3) := by decide +kernel
theorem d_X12_loose_73 : decode cX12_loose 73 = .ok (.iconst (-1), 1) := by decide +kernel
theorem d_X12_loose_74 : decode cX12_loose 74 = .ok (.goto 4, 3) := by decide +kernel
theorem d_X12_loose_77 : decode cX12_loose 77 = .ok (.iload_n 2, 1) := by decide +kernel
theorem d_X12_loose_78 : decode cX12_loose 78 = .ok (.ireturn, 1) := by decide +kernel
theorem s_X12_loose_j59_28 {G : Gl} (hG : G.1.stackTraces = false) {C : Cx} {n : Nat} {μ : Mem} {l1 : Int32} {l3 : Int32} {k0 : Int32} {y : ((Int32 × Int32) ⊕ Int32)} (hf : f_X12_loose_j59_28 μ l1 l3 k0 = some y) (hK : (∀ z', y = .inl z' → ∀ n, V G C F_X12_loose 28 [some (.ref (G.2.1 + 264)), some (.int l1), some (.int z'.1), some (.int z'.2)] [] (pic G μ) n 0 0) ∧ (∀ x', y = .inr x' → ∀ n, V G C F_X12_loose 66 [none, none, some (.int x'), none] [] (pic G μ) n 0 0)) : V G C F_X12_loose 59 [some (.ref (G.2.1 + 264)), some (.int l1), none, some (.int l3)] [.int k0] (pic G μ) n 0 0 := by
  unfold f_X12_loose_j59_28 at hf
  refine V_istore_n (ls' := [_, _, _, _]) d_X12_loose_59 rfl rfl rfl ?_
  refine V_iinc (v := (l3 + 1)) (ls' := [_, _, _, _]) d_X12_loose_60 rfl (by rw [ic_1]) rfl ?_
  refine V_goto (tgt := 28) d_X12_loose_63 (by decide) ?_
  refine V_less (ls' := [some _, some _, some _, some _]) ⟨rfl, rfl, rfl, rfl, trivial⟩ ?_
  cases hf
  exact hK.1 _ rfl _
theorem s_X12_loose_b28 {G : Gl} (hG : G.1.stackTraces = false) {C : Cx} {n : Nat} {μ : Mem} {l1 : Int32} {l2 : Int32} {l3 : Int32} {y : ((Int32 × Int32) ⊕ Int32)} (hf : f_X12_loose_b28 μ l1 l2 l3 = some y) (hK : (∀ z', y = .inl z' → ∀ n, V G C F_X12_loose 28 [some (.ref (G.2.1 + 264)), some (.int l1), some (.int z'.1), some (.int z'.2)] [] (pic G μ) n 0 0) ∧ (∀ x', y = .inr x' → ∀ n, V G C F_X12_loose 66 [none, none, some (.int x'), none] [] (pic G μ) n 0 0)) : V G C F_X12_loose 28 [some (.ref (G.2.1 + 264)), some (.int l1), some (.int l2), some (.int l3)] [] (pic G μ) n 0 0 := by
  unfold f_X12_loose_b28 at hf
  refine V_iload_n d_X12_loose_28 rfl rfl ?_
  refine V_iconst (v := 2) d_X12_loose_29 ic_2 ?_
  refine V_iload_n d_X12_loose_30 rfl rfl ?_
  refine V_imul d_X12_loose_31 ?_
  refine V_iconst (v := 1) d_X12_loose_32 ic_1 ?_
  refine V_iadd d_X12_loose_33 ?_
  refine V_icmp_gt (tgt := 66) d_X12_loose_34 (by decide) (fun c34 => ?_) (fun c34 => ?_)
  · replace hf := iteT c34 hf
    refine V_less (ls' := [none, none, some _, none]) ⟨rfl, trivial⟩ ?_
    cases hf
    exact hK.2 _ rfl _
  · replace hf := iteF c34 hf
    refine V_aload_n d_X12_loose_37 rfl rfl ?_
    refine V_iload_n d_X12_loose_38 rfl rfl ?_
    obtain ⟨t1, ht1, hf⟩ := ob hf
    refine B_callV1 (s_X12_isPledged hG ht1) k_264 clX12 m_X12_isPledged kv_RX12_296 d_X12_loose_39 rfl (Nat.le_of_ble_eq_true rfl) ⟨rfl, rfl, Nat.le_of_ble_eq_true rfl, Nat.le_of_ble_eq_true rfl, Nat.le_of_ble_eq_true rfl⟩ (fun n => ?_)
    refine V_if_eq (tgt := 58) d_X12_loose_42 (by decide) (fun c42 => ?_) (fun c42 => ?_)
    · replace hf := iteF (b2i_nt (b2i_eq0 c42)) hf
      refine V_iload_n d_X12_loose_58 rfl rfl ?_
      refine V_less (ls' := [some _, some _, none, some _]) ⟨rfl, rfl, rfl, trivial⟩ ?_
      exact s_X12_loose_j59_28 hG hf hK
    · replace hf := iteT (b2i_ne0 c42) hf
      refine V_iload_n d_X12_loose_45 rfl rfl ?_
      refine V_aload_n d_X12_loose_46 rfl rfl ?_
      refine V_iload_n d_X12_loose_47 rfl rfl ?_
      refine V_iconst (v := 2) d_X12_loose_48 ic_2 ?_
      obtain ⟨t2, ht2, hf⟩ := ob hf
      refine B_callV1 (s_X12_ofLace hG ht2) k_264 clX12 m_X12_ofLace kv_RX12_70 d_X12_loose_49 rfl (Nat.le_of_ble_eq_true rfl) ⟨rfl, rfl, Nat.le_of_ble_eq_true rfl, Nat.le_of_ble_eq_true rfl, Nat.le_of_ble_eq_true rfl⟩ (fun n => ?_)
      obtain ⟨t3, ht3, hf⟩ := ob hf
      refine B_callS1 (s_J9_min_7cf53 hG ht3) m_J9_min_7cf53 ks_RX12_87 d_X12_loose_52 rfl (Nat.le_of_ble_eq_true rfl) ⟨rfl, rfl, Nat.le_of_ble_eq_true rfl, Nat.le_of_ble_eq_true rfl, Nat.le_of_ble_eq_true rfl⟩ (fun n => ?_)
      refine V_goto (tgt := 59) d_X12_loose_55 (by decide) ?_
      refine V_less (ls' := [some _, some _, none, some _]) ⟨rfl, rfl, rfl, trivial⟩ ?_
      exact s_X12_loose_j59_28 hG hf hK
theorem s_X12_loose_j66 {G : Gl} (hG : G.1.stackTraces = false) {C : Cx} {n : Nat} {μ : Mem} {l2 : Int32} {r : (Int32 × Mem)} (hf : f_X12_loose_j66 μ l2 = some r) (hK : FinR G C F_X12_loose (some .int) (some (.int r.1)) r.2) : V G C F_X12_loose 66 [none, none, some (.int l2), none] [] (pic G μ) n 0 0 := by
  unfold f_X12_loose_j66 at hf
  refine V_iload_n d_X12_loose_66 rfl rfl ?_
  refine V_ldcw (v := 1000000) d_X12_loose_67 w_1899 ?_
  have hJj1 : ∀ j1 : Int32, j1 = (if l2 < 1000000 then (l2 : Int32) else (-1)) → V G C F_X12_loose 78 [none, none, none, none] [.int j1] (pic G μ) n 0 0 := by
    intro j1 ej1
    subst ej1
    cases hf
    exact R_i hK d_X12_loose_78 (Nat.le_of_ble_eq_true rfl) (Nat.le_of_ble_eq_true rfl)
  refine V_icmp_lt (tgt := 77) d_X12_loose_70 (by decide) (fun c70 => ?_) (fun c70 => ?_)
  · refine V_iload_n d_X12_loose_77 rfl rfl ?_
    refine V_less (ls' := [none, none, none, none]) trivial ?_
    exact hJj1 l2 (by rw [if_pos c70])
  · refine V_iconst (v := (-1)) d_X12_loose_73 ic_m1 ?_
    refine V_goto (tgt := 78) d_X12_loose_74 (by decide) ?_
    refine V_less (ls' := [none, none, none, none]) trivial ?_
    exact hJj1 (-1) (by rw [if_neg c70])
theorem s_X12_loose_l28 {G : Gl} (hG : G.1.stackTraces = false) {C : Cx} {n : Nat} {μ : Mem} {l1 : Int32} {l2 : Int32} {l3 : Int32} {r : (Int32 × Mem)} (hf : f_X12_loose_l28 μ l1 l2 l3 = some r) (hK : FinR G C F_X12_loose (some .int) (some (.int r.1)) r.2) : V G C F_X12_loose 28 [some (.ref (G.2.1 + 264)), some (.int l1), some (.int l2), some (.int l3)] [] (pic G μ) n 0 0 := by
  unfold f_X12_loose_l28 at hf
  obtain ⟨t, hl, hf⟩ := ob hf
  refine loopV (P := fun z => ∀ n, V G C F_X12_loose 28 [some (.ref (G.2.1 + 264)), some (.int l1), some (.int z.1), some (.int z.2)] [] (pic G μ) n 0 0) (t := t) ?_ _ _ hl n
  intro z y' hy hI hT n
  refine s_X12_loose_b28 hG hy ⟨hI, fun x9 ex => ?_⟩
  have ex2 := hT x9 ex
  subst ex2
  intro n
  exact s_X12_loose_j66 hG hf hK
theorem s_X12_loose_e {G : Gl} (hG : G.1.stackTraces = false) {C : Cx} {n : Nat} {μ : Mem} {p1 : Int32} {r : (Int32 × Mem)} (hf : f_X12_loose μ p1 = some r) (hK : FinR G C F_X12_loose (some .int) (some (.int r.1)) r.2) : V G C F_X12_loose 0 [some (.ref (G.2.1 + 264)), some (.int p1), none, none] [] (pic G μ) n 0 0 := by
  unfold f_X12_loose at hf
  refine V_aload_n d_X12_loose_0 rfl rfl ?_
  refine V_iconst (v := 0) d_X12_loose_1 ic_0 ?_
  refine B_putI k_264 fl_RX12_3 pt_12_0 (Nat.le_of_ble_eq_true rfl) p_12_0 d_X12_loose_2 ?_
  refine V_aload_n d_X12_loose_5 rfl rfl ?_
  refine V_aload_n d_X12_loose_6 rfl rfl ?_
  refine V_iload_n d_X12_loose_7 rfl rfl ?_
  obtain ⟨t1, ht1, hf⟩ := ob hf
  refine B_callV1 (s_X12_noPerson hG ht1) k_264 clX12 m_X12_noPerson kv_RX12_305 d_X12_loose_8 rfl (Nat.le_of_ble_eq_true rfl) ⟨rfl, rfl, Nat.le_of_ble_eq_true rfl, Nat.le_of_ble_eq_true rfl, Nat.le_of_ble_eq_true rfl⟩ (fun n => ?_)
  refine V_iconst (v := 1) d_X12_loose_11 ic_1 ?_
  obtain ⟨q2, hq2, hf⟩ := ob hf
  refine B_callV1 (s_X12_throwsIf hG hq2) k_264 clX12 m_X12_throwsIf kv_RX12_263 d_X12_loose_12 rfl (Nat.le_of_ble_eq_true rfl) ⟨rfl, rfl, Nat.le_of_ble_eq_true rfl, Nat.le_of_ble_eq_true rfl, Nat.le_of_ble_eq_true rfl⟩ (fun n => ?_)
  refine V_if_eq (tgt := 20) d_X12_loose_15 (by decide) (fun c15 => ?_) (fun c15 => ?_)
  · replace hf := iteF (b2i_nt (b2i_eq0 c15)) hf
    refine V_ldcw (v := 1000000) d_X12_loose_20 w_1899 ?_
    refine V_istore_n (ls' := [_, _, _, _]) d_X12_loose_23 rfl rfl rfl ?_
    refine V_iconst (v := 2) d_X12_loose_24 ic_2 ?_
    refine V_iload_n d_X12_loose_25 rfl rfl ?_
    refine V_imul d_X12_loose_26 ?_
    refine V_istore_n (ls' := [_, _, _, _]) d_X12_loose_27 rfl rfl rfl ?_
    refine V_less (ls' := [some _, some _, some _, some _]) ⟨rfl, rfl, rfl, rfl, trivial⟩ ?_
    exact s_X12_loose_l28 hG hf hK
  · replace hf := iteT (b2i_ne0 c15) hf
    refine V_iconst (v := 0) d_X12_loose_18 ic_0 ?_
    cases hf
    exact R_i hK d_X12_loose_19 (Nat.le_of_ble_eq_true rfl) (Nat.le_of_ble_eq_true rfl)
theorem s_X12_loose {G : Gl} (hG : G.1.stackTraces = false) {μ : Mem} {p1 : Int32} {r : (Int32 × Mem)} (hf : f_X12_loose μ p1 = some r) : Rt G yX12_loose F_X12_loose (some .int) [.ref (G.2.1 + 264), .int p1] μ (some (.int r.1)) r.2 := fun n => Sd.of hG ⟨by decide +kernel, rfl, rfl⟩ rfl (Nat.le_of_ble_eq_true rfl) rfl (fun C hK => s_X12_loose_e hG hf hK)
theorem d_X12_rail_0 : decode cX12_rail 0 = .ok (.aload_n 0, 1) := by decide +kernel
theorem d_X12_rail_1 : decode cX12_rail 1 = .ok (.iconst 0, 1) := by decide +kernel
theorem d_X12_rail_2 : decode cX12_rail 2 = .ok (.putfield 3, 3) := by decide +kernel
theorem d_X12_rail_5 : decode cX12_rail 5 = .ok (.aload_n 0, 1) := by decide +kernel
theorem d_X12_rail_6 : decode cX12_rail 6 = .ok (.invokevirtual 302, 3) := by decide +kernel
theorem d_X12_rail_9 : decode cX12_rail 9 = .ok (.ireturn, 1) := by decide +kernel
theorem s_X12_rail_e {G : Gl} (hG : G.1.stackTraces = false) {C : Cx} {n : Nat} {μ : Mem}  {r : (Int32 × Mem)} (hf : f_X12_rail μ = some r) (hK : FinR G C F_X12_rail (some .int) (some (.int r.1)) r.2) : V G C F_X12_rail 0 [some (.ref (G.2.1 + 264))] [] (pic G μ) n 0 0 := by
  unfold f_X12_rail at hf
  refine V_aload_n d_X12_rail_0 rfl rfl ?_
  refine V_iconst (v := 0) d_X12_rail_1 ic_0 ?_
  refine B_putI k_264 fl_RX12_3 pt_12_0 (Nat.le_of_ble_eq_true rfl) p_12_0 d_X12_rail_2 ?_
  refine V_aload_n d_X12_rail_5 rfl rfl ?_
  obtain ⟨t1, ht1, hf⟩ := ob hf
  refine B_callV1 (s_X12_lostOnes hG ht1) k_264 clX12 m_X12_lostOnes kv_RX12_302 d_X12_rail_6 rfl (Nat.le_of_ble_eq_true rfl) ⟨rfl, rfl, Nat.le_of_ble_eq_true rfl, Nat.le_of_ble_eq_true rfl, Nat.le_of_ble_eq_true rfl⟩ (fun n => ?_)
  cases hf
  exact R_i hK d_X12_rail_9 (Nat.le_of_ble_eq_true rfl) (Nat.le_of_ble_eq_true rfl)
theorem s_X12_rail {G : Gl} (hG : G.1.stackTraces = false) {μ : Mem} {r : (Int32 × Mem)} (hf : f_X12_rail μ = some r) : Rt G yX12_rail F_X12_rail (some .int) [.ref (G.2.1 + 264)] μ (some (.int r.1)) r.2 := fun n => Sd.of hG ⟨by decide +kernel, rfl, rfl⟩ rfl (Nat.le_of_ble_eq_true rfl) rfl (fun C hK => s_X12_rail_e hG hf hK)
theorem d_X12_trial_0 : decode cX12_trial 0 = .ok (.aload_n 0, 1) := by decide +kernel
theorem d_X12_trial_1 : decode cX12_trial 1 = .ok (.iconst 0, 1) := by decide +kernel
theorem d_X12_trial_2 : decode cX12_trial 2 = .ok (.putfield 3, 3) := by decide +kernel
theorem d_X12_trial_5 : decode cX12_trial 5 = .ok (.aload_n 0, 1) := by decide +kernel
theorem d_X12_trial_6 : decode cX12_trial 6 = .ok (.iload_n 1, 1) := by decide +kernel
theorem d_X12_trial_7 : decode cX12_trial 7 = .ok (.iconst 0, 1) := by decide +kernel
theorem d_X12_trial_8 : decode cX12_trial 8 = .ok (.bipush 60, 2) := by decide +kernel
theorem d_X12_trial_10 : decode cX12_trial 10 = .ok (.invokestatic 73, 3) := by decide +kernel
theorem d_X12_trial_13 : decode cX12_trial 13 = .ok (.ifCond .ne 7, 3) := by decide +kernel
theorem d_X12_trial_16 : decode cX12_trial 16 = .ok (.iconst 1, 1) := by decide +kernel
theorem d_X12_trial_17 : decode cX12_trial 17 = .ok (.goto 4, 3) := by decide +kernel
theorem d_X12_trial_20 : decode cX12_trial 20 = .ok (.iconst 0, 1) := by decide +kernel
theorem d_X12_trial_21 : decode cX12_trial 21 = .ok (.iconst 1, 1) := by decide +kernel
theorem d_X12_trial_22 : decode cX12_trial 22 = .ok (.invokevirtual 263, 3) := by decide +kernel
theorem d_X12_trial_25 : decode cX12_trial 25 = .ok (.ifCond .eq 5, 3) := by decide +kernel
theorem d_X12_trial_28 : decode cX12_trial 28 = .ok (.iconst 0, 1) := by decide +kernel
theorem d_X12_trial_29 : decode cX12_trial 29 = .ok (.ireturn, 1) := by decide +kernel
theorem d_X12_trial_30 : decode cX12_trial 30 = .ok (.aload_n 0, 1) := by decide +kernel
theorem d_X12_trial_31 : decode cX12_trial 31 = .ok (.invokevirtual 367, 3) := by decide +kernel
theorem d_X12_trial_34 : decode cX12_trial 34 = .ok (.iconst 0, 1) := by decide +kernel
theorem d_X12_trial_35 : decode cX12_trial 35 = .ok (.istore_n 3, 1) := by decide +kernel
theorem d_X12_trial_36 : decode cX12_trial 36 = .ok (.iload_n 3, 1) := by decide +kernel
theorem d_X12_trial_37 : decode cX12_trial 37 = .ok (.iload_n 1, 1) := by decide +kernel
theorem d_X12_trial_38 : decode cX12_trial 38 = .ok (.if_icmp .ge 14, 3) := by decide +kernel
theorem d_X12_trial_41 : decode cX12_trial 41 = .ok (.aload_n 0, 1) := by decide +kernel
theorem d_X12_trial_42 : decode cX12_trial 42 = .ok (.iconst 0, 1) := by decide +kernel
theorem d_X12_trial_43 : decode cX12_trial 43 = .ok (.invokevirtual 363, 3) := by decide +kernel
theorem d_X12_trial_46 : decode cX12_trial 46 = .ok (.iinc 3 1, 3) := by decide +kernel
theorem d_X12_trial_49 : decode cX12_trial 49 = .ok (.goto (-13), 3) := by decide +kernel
theorem d_X12_trial_52 : decode cX12_trial 52 = .ok (.iload_n 2, 1) := by decide +kernel
theorem d_X12_trial_53 : decode cX12_trial 53 = .ok (.ifCond .eq 10, 3) := by decide +kernel
theorem d_X12_trial_56 : decode cX12_trial 56 = .ok (.aload_n 0, 1) := by decide +kernel
theorem d_X12_trial_57 : decode cX12_trial 57 = .ok (.invokevirtual 302, 3) := by decide +kernel
theorem d_X12_trial_60 : decode cX12_trial 60 = .ok (.goto 16, 3) := by decide +kernel
theorem d_X12_trial_63 : decode cX12_trial 63 = .ok (.aload_n 0, 1) := by decide +kernel
theorem d_X12_trial_64 : decode cX12_trial 64 = .ok (.getfield 13, 3) := by decide +kernel
theorem d_X12_trial_67 : decode cX12_trial 67 = .ok (.iconst 5, 1) := by decide +kernel
theorem d_X12_trial_68 : decode cX12_trial 68 = .ok (.iaload, 1) := by decide +kernel
theorem d_X12_trial_69 : decode cX12_trial 69 = .ok (.aload_n 0, 1) := by decide +kernel
theorem d_X12_trial_70 : decode cX12_trial 70 = .ok (.getfield 23, 3) := by decide +kernel
theorem d_X12_trial_73 : decode cX12_trial 73 = .ok (.iconst 5, 1) := by decide +kernel
theorem d_X12_trial_74 : decode cX12_trial 74 = .ok (.iaload, 1) := by decide +kernel
theorem d_X12_trial_75 : decode cX12_trial 75 = .ok (.isub, 1) := by decide +kernel
theorem d_X12_trial_76 : decode cX12_trial 76 = .ok (.istore_n 3, 1) := by decide +kernel
theorem d_X12_trial_77 : decode cX12_trial 77 = .ok (.aload_n 0, 1) := by decide +kernel
theorem d_X12_trial_78 : decode cX12_trial 78 = .ok (.invokevirtual 370, 3) := by decide +kernel
theorem d_X12_trial_81 : decode cX12_trial 81 = .ok (.iload_n 3, 1) := by decide +kernel
theorem d_X12_trial_82 : decode cX12_trial 82 = .ok (.ireturn, 1) := by decide +kernel
theorem s_X12_trial_b36 {G : Gl} (hG : G.1.stackTraces = false) {C : Cx} {n : Nat} {μ : Mem} {l1 : Int32} {l2 : Bool} {l3 : Int32} {y : ((Int32 × Mem) ⊕ Mem)} (hf : f_X12_trial_b36 μ l1 l2 l3 = some y) (hK : (∀ z', y = .inl z' → ∀ n, V G C F_X12_trial 36 [some (.ref (G.2.1 + 264)), some (.int l1), some (.int (b2i l2)), some (.int z'.1)] [] (pic G z'.2) n 0 0) ∧ (∀ x', y = .inr x' → ∀ n, V G C F_X12_trial 52 [some (.ref (G.2.1 + 264)), none, some (.int (b2i l2)), none] [] (pic G x') n 0 0)) : V G C F_X12_trial 36 [some (.ref (G.2.1 + 264)), some (.int l1), some (.int (b2i l2)), some (.int l3)] [] (pic G μ) n 0 0 := by
  unfold f_X12_trial_b36 at hf
  refine V_iload_n d_X12_trial_36 rfl rfl ?_
  refine V_iload_n d_X12_trial_37 rfl rfl ?_
  refine V_icmp_ge (tgt := 52) d_X12_trial_38 (by decide) (fun c38 => ?_) (fun c38 => ?_)
  · replace hf := iteT c38 hf
    refine V_less (ls' := [some _, none, some _, none]) ⟨rfl, rfl, trivial⟩ ?_
    cases hf
    exact hK.2 _ rfl _
  · replace hf := iteF c38 hf
    refine V_aload_n d_X12_trial_41 rfl rfl ?_
    refine V_iconst (v := 0) d_X12_trial_42 ic_0 ?_
    obtain ⟨q1, hq1, hf⟩ := ob hf
    refine B_callV0 (s_X12_oneDay hG hq1) k_264 clX12 m_X12_oneDay kv_RX12_363 d_X12_trial_43 rfl (Nat.le_of_ble_eq_true rfl) ⟨rfl, rfl, Nat.le_of_ble_eq_true rfl, Nat.le_of_ble_eq_true rfl, Nat.le_of_ble_eq_true rfl⟩ (fun n => ?_)
    refine V_iinc (v := (l3 + 1)) (ls' := [_, _, _, _]) d_X12_trial_46 rfl (by rw [ic_1]) rfl ?_
    refine V_goto (tgt := 36) d_X12_trial_49 (by decide) ?_
    refine V_less (ls' := [some _, some _, some _, some _]) ⟨rfl, rfl, rfl, rfl, trivial⟩ ?_
    cases hf
    exact hK.1 _ rfl _
theorem s_X12_trial_j76 {G : Gl} (hG : G.1.stackTraces = false) {C : Cx} {n : Nat} {μ : Mem} {k0 : Int32} {r : (Int32 × Mem)} (hf : f_X12_trial_j76 μ k0 = some r) (hK : FinR G C F_X12_trial (some .int) (some (.int r.1)) r.2) : V G C F_X12_trial 76 [some (.ref (G.2.1 + 264)), none, none, none] [.int k0] (pic G μ) n 0 0 := by
  unfold f_X12_trial_j76 at hf
  refine V_istore_n (ls' := [_, _, _, _]) d_X12_trial_76 rfl rfl rfl ?_
  refine V_aload_n d_X12_trial_77 rfl rfl ?_
  obtain ⟨q1, hq1, hf⟩ := ob hf
  refine B_callV0 (s_X12_bringsBack hG hq1) k_264 clX12 m_X12_bringsBack kv_RX12_370 d_X12_trial_78 rfl (Nat.le_of_ble_eq_true rfl) ⟨rfl, rfl, Nat.le_of_ble_eq_true rfl, Nat.le_of_ble_eq_true rfl, Nat.le_of_ble_eq_true rfl⟩ (fun n => ?_)
  refine V_iload_n d_X12_trial_81 rfl rfl ?_
  cases hf
  exact R_i hK d_X12_trial_82 (Nat.le_of_ble_eq_true rfl) (Nat.le_of_ble_eq_true rfl)
theorem s_X12_trial_j52 {G : Gl} (hG : G.1.stackTraces = false) {C : Cx} {n : Nat} {μ : Mem} {l2 : Bool} {r : (Int32 × Mem)} (hf : f_X12_trial_j52 μ l2 = some r) (hK : FinR G C F_X12_trial (some .int) (some (.int r.1)) r.2) : V G C F_X12_trial 52 [some (.ref (G.2.1 + 264)), none, some (.int (b2i l2)), none] [] (pic G μ) n 0 0 := by
  unfold f_X12_trial_j52 at hf
  refine V_iload_n d_X12_trial_52 rfl rfl ?_
  refine V_if_eq (tgt := 63) d_X12_trial_53 (by decide) (fun c53 => ?_) (fun c53 => ?_)
  · replace hf := iteF (b2i_nt (b2i_eq0 c53)) hf
    refine V_aload_n d_X12_trial_63 rfl rfl ?_
    refine B_get k_264 fl_RX12_13 d_X12_trial_64 g_12_1 ?_
    refine V_iconst (v := 5) d_X12_trial_67 ic_5 ?_
    obtain ⟨t1, ht1, hf⟩ := ob hf
    refine B_iald k_265 ht1 d_X12_trial_68 ?_
    refine V_aload_n d_X12_trial_69 rfl rfl ?_
    refine B_get k_264 fl_RX12_23 d_X12_trial_70 g_12_4 ?_
    refine V_iconst (v := 5) d_X12_trial_73 ic_5 ?_
    obtain ⟨t2, ht2, hf⟩ := ob hf
    refine B_iald k_268 ht2 d_X12_trial_74 ?_
    refine V_isub d_X12_trial_75 ?_
    refine V_less (ls' := [some _, none, none, none]) ⟨rfl, trivial⟩ ?_
    exact s_X12_trial_j76 hG hf hK
  · replace hf := iteT (b2i_ne0 c53) hf
    refine V_aload_n d_X12_trial_56 rfl rfl ?_
    obtain ⟨t3, ht3, hf⟩ := ob hf
    refine B_callV1 (s_X12_lostOnes hG ht3) k_264 clX12 m_X12_lostOnes kv_RX12_302 d_X12_trial_57 rfl (Nat.le_of_ble_eq_true rfl) ⟨rfl, rfl, Nat.le_of_ble_eq_true rfl, Nat.le_of_ble_eq_true rfl, Nat.le_of_ble_eq_true rfl⟩ (fun n => ?_)
    refine V_goto (tgt := 76) d_X12_trial_60 (by decide) ?_
    refine V_less (ls' := [some _, none, none, none]) ⟨rfl, trivial⟩ ?_
    exact s_X12_trial_j76 hG hf hK
theorem s_X12_trial_l36 {G : Gl} (hG : G.1.stackTraces = false) {C : Cx} {n : Nat} {μ : Mem} {l1 : Int32} {l2 : Bool} {l3 : Int32} {r : (Int32 × Mem)} (hf : f_X12_trial_l36 μ l1 l2 l3 = some r) (hK : FinR G C F_X12_trial (some .int) (some (.int r.1)) r.2) : V G C F_X12_trial 36 [some (.ref (G.2.1 + 264)), some (.int l1), some (.int (b2i l2)), some (.int l3)] [] (pic G μ) n 0 0 := by
  unfold f_X12_trial_l36 at hf
  obtain ⟨t, hl, hf⟩ := ob hf
  refine loopV (P := fun z => ∀ n, V G C F_X12_trial 36 [some (.ref (G.2.1 + 264)), some (.int l1), some (.int (b2i l2)), some (.int z.1)] [] (pic G z.2) n 0 0) (t := t) ?_ _ _ hl n
  intro z y' hy hI hT n
  refine s_X12_trial_b36 hG hy ⟨hI, fun x9 ex => ?_⟩
  have ex2 := hT x9 ex
  subst ex2
  intro n
  exact s_X12_trial_j52 hG hf hK
theorem s_X12_trial_e {G : Gl} (hG : G.1.stackTraces = false) {C : Cx} {n : Nat} {μ : Mem} {p1 : Int32} {p2 : Bool} {r : (Int32 × Mem)} (hf : f_X12_trial μ p1 p2 = some r) (hK : FinR G C F_X12_trial (some .int) (some (.int r.1)) r.2) : V G C F_X12_trial 0 [some (.ref (G.2.1 + 264)), some (.int p1), some (.int (b2i p2)), none] [] (pic G μ) n 0 0 := by
  unfold f_X12_trial at hf
  refine V_aload_n d_X12_trial_0 rfl rfl ?_
  refine V_iconst (v := 0) d_X12_trial_1 ic_0 ?_
  refine B_putI k_264 fl_RX12_3 pt_12_0 (Nat.le_of_ble_eq_true rfl) p_12_0 d_X12_trial_2 ?_
  refine V_aload_n d_X12_trial_5 rfl rfl ?_
  refine V_iload_n d_X12_trial_6 rfl rfl ?_
  refine V_iconst (v := 0) d_X12_trial_7 ic_0 ?_
  refine V_bipush (v := 60) d_X12_trial_8 bp_60 ?_
  obtain ⟨t1, ht1, hf⟩ := ob hf
  refine B_callS1 (s_X12_in hG ht1) m_X12_in ks_RX12_73 d_X12_trial_10 rfl (Nat.le_of_ble_eq_true rfl) ⟨rfl, rfl, Nat.le_of_ble_eq_true rfl, Nat.le_of_ble_eq_true rfl, Nat.le_of_ble_eq_true rfl⟩ (fun n => ?_)
  have hJj2 : ∀ j2 : Bool, j2 = (if t1 = true then (false : Bool) else true) → V G C F_X12_trial 21 [some (.ref (G.2.1 + 264)), some (.int p1), some (.int (b2i p2)), none] [.int (b2i j2), .ref (G.2.1 + 264)] (pic G (mset μ 264 0 0)) n 0 0 := by
    intro j2 ej2
    subst ej2
    refine V_iconst (v := 1) d_X12_trial_21 ic_1 ?_
    obtain ⟨q3, hq3, hf⟩ := ob hf
    refine B_callV1 (s_X12_throwsIf hG hq3) k_264 clX12 m_X12_throwsIf kv_RX12_263 d_X12_trial_22 rfl (Nat.le_of_ble_eq_true rfl) ⟨rfl, rfl, Nat.le_of_ble_eq_true rfl, Nat.le_of_ble_eq_true rfl, Nat.le_of_ble_eq_true rfl⟩ (fun n => ?_)
    refine V_if_eq (tgt := 30) d_X12_trial_25 (by decide) (fun c25 => ?_) (fun c25 => ?_)
    · replace hf := iteF (b2i_nt (b2i_eq0 c25)) hf
      refine V_aload_n d_X12_trial_30 rfl rfl ?_
      obtain ⟨q4, hq4, hf⟩ := ob hf
      refine B_callV0 (s_X12_keepsAll hG hq4) k_264 clX12 m_X12_keepsAll kv_RX12_367 d_X12_trial_31 rfl (Nat.le_of_ble_eq_true rfl) ⟨rfl, rfl, Nat.le_of_ble_eq_true rfl, Nat.le_of_ble_eq_true rfl, Nat.le_of_ble_eq_true rfl⟩ (fun n => ?_)
      refine V_iconst (v := 0) d_X12_trial_34 ic_0 ?_
      refine V_istore_n (ls' := [_, _, _, _]) d_X12_trial_35 rfl rfl rfl ?_
      refine V_less (ls' := [some _, some _, some _, some _]) ⟨rfl, rfl, rfl, rfl, trivial⟩ ?_
      exact s_X12_trial_l36 hG hf hK
    · replace hf := iteT (b2i_ne0 c25) hf
      refine V_iconst (v := 0) d_X12_trial_28 ic_0 ?_
      cases hf
      exact R_i hK d_X12_trial_29 (Nat.le_of_ble_eq_true rfl) (Nat.le_of_ble_eq_true rfl)
  refine V_if_ne (tgt := 20) d_X12_trial_13 (by decide) (fun c13 => ?_) (fun c13 => ?_)
  · refine V_iconst (v := 0) d_X12_trial_20 ic_0 ?_
    refine V_less (ls' := [some _, some _, some _, none]) ⟨rfl, rfl, rfl, trivial⟩ ?_
    exact hJj2 false (by rw [if_pos (b2i_ne0 c13)])
  · refine V_iconst (v := 1) d_X12_trial_16 ic_1 ?_
    refine V_goto (tgt := 21) d_X12_trial_17 (by decide) ?_
    refine V_less (ls' := [some _, some _, some _, none]) ⟨rfl, rfl, rfl, trivial⟩ ?_
    exact hJj2 true (by rw [if_neg (b2i_nt (b2i_eq0 c13))])
theorem s_X12_trial {G : Gl} (hG : G.1.stackTraces = false) {μ : Mem} {p1 : Int32} {p2 : Bool} {r : (Int32 × Mem)} (hf : f_X12_trial μ p1 p2 = some r) : Rt G yX12_trial F_X12_trial (some .int) [.ref (G.2.1 + 264), .int p1, .int (b2i p2)] μ (some (.int r.1)) r.2 := fun n => Sd.of hG ⟨by decide +kernel, rfl, rfl⟩ rfl (Nat.le_of_ble_eq_true rfl) rfl (fun C hK => s_X12_trial_e hG hf hK)
