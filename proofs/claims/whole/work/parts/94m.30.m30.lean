theorem d_X12_span_0 : decode cX12_span 0 = .ok (.aload_n 0, 1) := by decide +kernel
theorem d_X12_span_1 : decode cX12_span 1 = .ok (.iconst 0, 1) := by decide +kernel
theorem d_X12_span_2 : decode cX12_span 2 = .ok (.putfield 3, 3) := by decide +kernel
theorem d_X12_span_5 : decode cX12_span 5 = .ok (.aload_n 0, 1) := by decide +kernel
theorem d_X12_span_6 : decode cX12_span 6 = .ok (.iload_n 1, 1) := by decide +kernel
theorem d_X12_span_7 : decode cX12_span 7 = .ok (.iconst 0, 1) := by decide +kernel
theorem d_X12_span_8 : decode cX12_span 8 = .ok (.bipush 60, 2) := by decide +kernel
theorem d_X12_span_10 : decode cX12_span 10 = .ok (.invokestatic 73, 3) := by decide +kernel
theorem d_X12_span_13 : decode cX12_span 13 = .ok (.ifCond .ne 7, 3) := by decide +kernel
theorem d_X12_span_16 : decode cX12_span 16 = .ok (.iconst 1, 1) := by decide +kernel
theorem d_X12_span_17 : decode cX12_span 17 = .ok (.goto 4, 3) := by decide +kernel
theorem d_X12_span_20 : decode cX12_span 20 = .ok (.iconst 0, 1) := by decide +kernel
theorem d_X12_span_21 : decode cX12_span 21 = .ok (.iconst 1, 1) := by decide +kernel
theorem d_X12_span_22 : decode cX12_span 22 = .ok (.invokevirtual 263, 3) := by decide +kernel
theorem d_X12_span_25 : decode cX12_span 25 = .ok (.ifCond .eq 5, 3) := by decide +kernel
theorem d_X12_span_28 : decode cX12_span 28 = .ok (.iconst 0, 1) := by decide +kernel
theorem d_X12_span_29 : decode cX12_span 29 = .ok (.ireturn, 1) := by decide +kernel
theorem d_X12_span_30 : decode cX12_span 30 = .ok (.aload_n 0, 1) := by decide +kernel
theorem d_X12_span_31 : decode cX12_span 31 = .ok (.invokevirtual 367, 3) := by decide +kernel
theorem d_X12_span_34 : decode cX12_span 34 = .ok (.iconst (-1), 1) := by decide +kernel
theorem d_X12_span_35 : decode cX12_span 35 = .ok (.istore_n 3, 1) := by decide +kernel
theorem d_X12_span_36 : decode cX12_span 36 = .ok (.iconst 1, 1) := by decide +kernel
theorem d_X12_span_37 : decode cX12_span 37 = .ok (.istore 4, 2) := by decide +kernel
theorem d_X12_span_39 : decode cX12_span 39 = .ok (.iload 4, 2) := by decide +kernel
theorem d_X12_span_41 : decode cX12_span 41 = .ok (.bipush 6, 2) := by decide +kernel
theorem d_X12_span_43 : decode cX12_span 43 = .ok (.if_icmp .gt 86, 3) := by decide +kernel
theorem d_X12_span_46 : decode cX12_span 46 = .ok (.aload_n 0, 1) := by decide +kernel
theorem d_X12_span_47 : decode cX12_span 47 = .ok (.getfield 13, 3) := by decide +kernel
theorem d_X12_span_50 : decode cX12_span 50 = .ok (.bipush 7, 2) := by decide +kernel
theorem d_X12_span_52 : decode cX12_span 52 = .ok (.iload 4, 2) := by decide +kernel
theorem d_X12_span_54 : decode cX12_span 54 = .ok (.iastore, 1) := by decide +kernel
theorem d_X12_span_55 : decode cX12_span 55 = .ok (.iconst 0, 1) := by decide +kernel
theorem d_X12_span_56 : decode cX12_span 56 = .ok (.istore 5, 2) := by decide +kernel
theorem d_X12_span_58 : decode cX12_span 58 = .ok (.iload 5, 2) := by decide +kernel
theorem d_X12_span_60 : decode cX12_span 60 = .ok (.iload_n 1, 1) := by decide +kernel
theorem d_X12_span_61 : decode cX12_span 61 = .ok (.if_icmp .ge 14, 3) := by decide +kernel
theorem d_X12_span_64 : decode cX12_span 64 = .ok (.aload_n 0, 1) := by decide +kernel
theorem d_X12_span_65 : decode cX12_span 65 = .ok (.iconst 0, 1) := by decide +kernel
theorem d_X12_span_66 : decode cX12_span 66 = .ok (.invokevirtual 363, 3) := by decide +kernel
theorem d_X12_span_69 : decode cX12_span 69 = .ok (.iinc 5 1, 3) := by decide +kernel
theorem d_X12_span_72 : decode cX12_span 72 = .ok (.goto (-14), 3) := by decide +kernel
theorem d_X12_span_75 : decode cX12_span 75 = .ok (.aload_n 0, 1) := by decide +kernel
theorem d_X12_span_76 : decode cX12_span 76 = .ok (.getfield 13, 3) := by decide +kernel
theorem d_X12_span_79 : decode cX12_span 79 = .ok (.iconst 5, 1) := by decide +kernel
theorem d_X12_span_80 : decode cX12_span 80 = .ok (.iaload, 1) := by decide +kernel
theorem d_X12_span_81 : decode cX12_span 81 = .ok (.aload_n 0, 1) := by decide +kernel
theorem d_X12_span_82 : decode cX12_span 82 = .ok (.getfield 23, 3) := by decide +kernel
theorem d_X12_span_85 : decode cX12_span 85 = .ok (.iconst 5, 1) := by decide +kernel
theorem d_X12_span_86 : decode cX12_span 86 = .ok (.iaload, 1) := by decide +kernel
theorem d_X12_span_87 : decode cX12_span 87 = .ok (.isub, 1) := by decide +kernel
theorem d_X12_span_88 : decode cX12_span 88 = .ok (.istore 5, 2) := by decide +kernel
theorem d_X12_span_90 : decode cX12_span 90 = .ok (.aload_n 0, 1) := by decide +kernel
theorem d_X12_span_91 : decode cX12_span 91 = .ok (.invokevirtual 370, 3) := by decide +kernel
theorem d_X12_span_94 : decode cX12_span 94 = .ok (.iload_n 3, 1) := by decide +kernel
theorem d_X12_span_95 : decode cX12_span 95 = .ok (.ifCond .ge 8, 3) := by decide +kernel
theorem d_X12_span_98 : decode cX12_span 98 = .ok (.iload 5, 2) := by decide +kernel
theorem d_X12_span_100 : decode cX12_span 100 = .ok (.goto 22, 3) := by decide +kernel
theorem d_X12_span_103 : decode cX12_span 103 = .ok (.iload_n 2, 1) := by decide +kernel
theorem d_X12_span_104 : decode cX12_span 104 = .ok (.ifCond .eq 12, 3) := by decide +kernel
theorem d_X12_span_107 : decode cX12_span 107 = .ok (.iload_n 3, 1) := by decide +kernel
theorem d_X12_span_108 : decode cX12_span 108 = .ok (.iload 5, 2) := by decide +kernel
theorem d_X12_span_110 : decode cX12_span 110 = .ok (.invokestatic 293, 3) := by decide +kernel
theorem d_X12_span_113 : decode cX12_span 113 = .ok (.goto 9, 3) := by decide +kernel
theorem d_X12_span_116 : decode cX12_span 116 = .ok (.iload_n 3, 1) := by decide +kernel
theorem d_X12_span_117 : decode cX12_span 117 = .ok (.iload 5, 2) := by decide +kernel
theorem d_X12_span_119 : decode cX12_span 119 = .ok (.invokestatic 87, 3) := by decide +kernel
theorem d_X12_span_122 : decode cX12_span 122 = .ok (.istore_n 3, 1) := by decide +kernel
theorem d_X12_span_123 : decode cX12_span 123 = .ok (.iinc 4 1, 3) := by decide +kernel
theorem d_X12_span_126 : decode cX12_span 126 = .ok (.goto (-87), 3) := by decide +kernel
theorem d_X12_span_129 : decode cX12_span 129 = .ok (.iload_n 3, 1) := by decide +kernel
theorem d_X12_span_130 : decode cX12_span 130 = .ok (.ireturn, 1) := by decide +kernel
theorem s_X12_span_b58 {G : Gl} (hG : G.1.stackTraces = false) {C : Cx} {n : Nat} {μ : Mem} {l1 : Int32} {l2 : Bool} {l3 : Int32} {l4 : Int32} {l5 : Int32} {y : ((Int32 × Mem) ⊕ Mem)} (hf : f_X12_span_b58 μ l1 l2 l3 l4 l5 = some y) (hK : (∀ z', y = .inl z' → ∀ n, V G C F_X12_span 58 [some (.ref (G.2.1 + 264)), some (.int l1), some (.int (b2i l2)), some (.int l3), some (.int l4), some (.int z'.1)] [] (pic G z'.2) n 0 0) ∧ (∀ x', y = .inr x' → ∀ n, V G C F_X12_span 75 [some (.ref (G.2.1 + 264)), some (.int l1), some (.int (b2i l2)), some (.int l3), some (.int l4), none] [] (pic G x') n 0 0)) : V G C F_X12_span 58 [some (.ref (G.2.1 + 264)), some (.int l1), some (.int (b2i l2)), some (.int l3), some (.int l4), some (.int l5)] [] (pic G μ) n 0 0 := by
  unfold f_X12_span_b58 at hf
  refine V_iload d_X12_span_58 rfl ?_
  refine V_iload_n d_X12_span_60 rfl rfl ?_
  refine V_icmp_ge (tgt := 75) d_X12_span_61 (by decide) (fun c61 => ?_) (fun c61 => ?_)
  · replace hf := iteT c61 hf
    refine V_less (ls' := [some _, some _, some _, some _, some _, none]) ⟨rfl, rfl, rfl, rfl, rfl, trivial⟩ ?_
    cases hf
    exact hK.2 _ rfl _
  · replace hf := iteF c61 hf
    refine V_aload_n d_X12_span_64 rfl rfl ?_
    refine V_iconst (v := 0) d_X12_span_65 ic_0 ?_
    obtain ⟨q1, hq1, hf⟩ := ob hf
    refine B_callV0 (s_X12_oneDay hG hq1) k_264 clX12 m_X12_oneDay kv_RX12_363 d_X12_span_66 rfl (Nat.le_of_ble_eq_true rfl) ⟨rfl, rfl, Nat.le_of_ble_eq_true rfl, Nat.le_of_ble_eq_true rfl, Nat.le_of_ble_eq_true rfl⟩ (fun n => ?_)
    refine V_iinc (v := (l5 + 1)) (ls' := [_, _, _, _, _, _]) d_X12_span_69 rfl (by rw [ic_1]) rfl ?_
    refine V_goto (tgt := 58) d_X12_span_72 (by decide) ?_
    refine V_less (ls' := [some _, some _, some _, some _, some _, some _]) ⟨rfl, rfl, rfl, rfl, rfl, rfl, trivial⟩ ?_
    cases hf
    exact hK.1 _ rfl _
theorem s_X12_span_j122_39 {G : Gl} (hG : G.1.stackTraces = false) {C : Cx} {n : Nat} {μ : Mem} {l1 : Int32} {l2 : Bool} {l4 : Int32} {k0 : Int32} {y : ((Int32 × Int32 × Mem) ⊕ (Int32 × Mem))} (hf : f_X12_span_j122_39 μ l1 l2 l4 k0 = some y) (hK : (∀ z', y = .inl z' → ∀ n, V G C F_X12_span 39 [some (.ref (G.2.1 + 264)), some (.int l1), some (.int (b2i l2)), some (.int z'.1), some (.int z'.2.1), none] [] (pic G z'.2.2) n 0 0) ∧ (∀ x', y = .inr x' → ∀ n, V G C F_X12_span 129 [none, none, none, some (.int x'.1), none, none] [] (pic G x'.2) n 0 0)) : V G C F_X12_span 122 [some (.ref (G.2.1 + 264)), some (.int l1), some (.int (b2i l2)), none, some (.int l4), none] [.int k0] (pic G μ) n 0 0 := by
  unfold f_X12_span_j122_39 at hf
  refine V_istore_n (ls' := [_, _, _, _, _, _]) d_X12_span_122 rfl rfl rfl ?_
  refine V_iinc (v := (l4 + 1)) (ls' := [_, _, _, _, _, _]) d_X12_span_123 rfl (by rw [ic_1]) rfl ?_
  refine V_goto (tgt := 39) d_X12_span_126 (by decide) ?_
  refine V_less (ls' := [some _, some _, some _, some _, some _, none]) ⟨rfl, rfl, rfl, rfl, rfl, trivial⟩ ?_
  cases hf
  exact hK.1 _ rfl _
theorem s_X12_span_j75_39 {G : Gl} (hG : G.1.stackTraces = false) {C : Cx} {n : Nat} {μ : Mem} {l1 : Int32} {l2 : Bool} {l3 : Int32} {l4 : Int32} {y : ((Int32 × Int32 × Mem) ⊕ (Int32 × Mem))} (hf : f_X12_span_j75_39 μ l1 l2 l3 l4 = some y) (hK : (∀ z', y = .inl z' → ∀ n, V G C F_X12_span 39 [some (.ref (G.2.1 + 264)), some (.int l1), some (.int (b2i l2)), some (.int z'.1), some (.int z'.2.1), none] [] (pic G z'.2.2) n 0 0) ∧ (∀ x', y = .inr x' → ∀ n, V G C F_X12_span 129 [none, none, none, some (.int x'.1), none, none] [] (pic G x'.2) n 0 0)) : V G C F_X12_span 75 [some (.ref (G.2.1 + 264)), some (.int l1), some (.int (b2i l2)), some (.int l3), some (.int l4), none] [] (pic G μ) n 0 0 := by
  unfold f_X12_span_j75_39 at hf
  refine V_aload_n d_X12_span_75 rfl rfl ?_
  refine B_get k_264 fl_RX12_13 d_X12_span_76 g_12_1 ?_
  refine V_iconst (v := 5) d_X12_span_79 ic_5 ?_
  obtain ⟨t1, ht1, hf⟩ := ob hf
  refine B_iald k_265 ht1 d_X12_span_80 ?_
  refine V_aload_n d_X12_span_81 rfl rfl ?_
  refine B_get k_264 fl_RX12_23 d_X12_span_82 g_12_4 ?_
  refine V_iconst (v := 5) d_X12_span_85 ic_5 ?_
  obtain ⟨t2, ht2, hf⟩ := ob hf
  refine B_iald k_268 ht2 d_X12_span_86 ?_
  refine V_isub d_X12_span_87 ?_
  refine V_istore (ls' := [_, _, _, _, _, _]) d_X12_span_88 rfl rfl ?_
  refine V_aload_n d_X12_span_90 rfl rfl ?_
  obtain ⟨q3, hq3, hf⟩ := ob hf
  refine B_callV0 (s_X12_bringsBack hG hq3) k_264 clX12 m_X12_bringsBack kv_RX12_370 d_X12_span_91 rfl (Nat.le_of_ble_eq_true rfl) ⟨rfl, rfl, Nat.le_of_ble_eq_true rfl, Nat.le_of_ble_eq_true rfl, Nat.le_of_ble_eq_true rfl⟩ (fun n => ?_)
  refine V_iload_n d_X12_span_94 rfl rfl ?_
  refine V_if_ge (tgt := 103) d_X12_span_95 (by decide) (fun c95 => ?_) (fun c95 => ?_)
  · replace hf := iteT c95 hf
    refine V_iload_n d_X12_span_103 rfl rfl ?_
    refine V_if_eq (tgt := 116) d_X12_span_104 (by decide) (fun c104 => ?_) (fun c104 => ?_)
    · replace hf := iteF (b2i_nt (b2i_eq0 c104)) hf
      refine V_iload_n d_X12_span_116 rfl rfl ?_
      refine V_iload d_X12_span_117 rfl ?_
      obtain ⟨t4, ht4, hf⟩ := ob hf
      refine B_callS1 (s_J9_min_7cf53 hG ht4) m_J9_min_7cf53 ks_RX12_87 d_X12_span_119 rfl (Nat.le_of_ble_eq_true rfl) ⟨rfl, rfl, Nat.le_of_ble_eq_true rfl, Nat.le_of_ble_eq_true rfl, Nat.le_of_ble_eq_true rfl⟩ (fun n => ?_)
      refine V_less (ls' := [some _, some _, some _, none, some _, none]) ⟨rfl, rfl, rfl, rfl, trivial⟩ ?_
      exact s_X12_span_j122_39 hG hf hK
    · replace hf := iteT (b2i_ne0 c104) hf
      refine V_iload_n d_X12_span_107 rfl rfl ?_
      refine V_iload d_X12_span_108 rfl ?_
      obtain ⟨t5, ht5, hf⟩ := ob hf
      refine B_callS1 (s_J9_max_7cf53 hG ht5) m_J9_max_7cf53 ks_RX12_293 d_X12_span_110 rfl (Nat.le_of_ble_eq_true rfl) ⟨rfl, rfl, Nat.le_of_ble_eq_true rfl, Nat.le_of_ble_eq_true rfl, Nat.le_of_ble_eq_true rfl⟩ (fun n => ?_)
      refine V_goto (tgt := 122) d_X12_span_113 (by decide) ?_
      refine V_less (ls' := [some _, some _, some _, none, some _, none]) ⟨rfl, rfl, rfl, rfl, trivial⟩ ?_
      exact s_X12_span_j122_39 hG hf hK
  · replace hf := iteF c95 hf
    refine V_iload d_X12_span_98 rfl ?_
    refine V_goto (tgt := 122) d_X12_span_100 (by decide) ?_
    refine V_less (ls' := [some _, some _, some _, none, some _, none]) ⟨rfl, rfl, rfl, rfl, trivial⟩ ?_
    exact s_X12_span_j122_39 hG hf hK
theorem s_X12_span_l58 {G : Gl} (hG : G.1.stackTraces = false) {C : Cx} {n : Nat} {μ : Mem} {l1 : Int32} {l2 : Bool} {l3 : Int32} {l4 : Int32} {l5 : Int32} {y : ((Int32 × Int32 × Mem) ⊕ (Int32 × Mem))} (hf : f_X12_span_l58 μ l1 l2 l3 l4 l5 = some y) (hK : (∀ z', y = .inl z' → ∀ n, V G C F_X12_span 39 [some (.ref (G.2.1 + 264)), some (.int l1), some (.int (b2i l2)), some (.int z'.1), some (.int z'.2.1), none] [] (pic G z'.2.2) n 0 0) ∧ (∀ x', y = .inr x' → ∀ n, V G C F_X12_span 129 [none, none, none, some (.int x'.1), none, none] [] (pic G x'.2) n 0 0)) : V G C F_X12_span 58 [some (.ref (G.2.1 + 264)), some (.int l1), some (.int (b2i l2)), some (.int l3), some (.int l4), some (.int l5)] [] (pic G μ) n 0 0 := by
  unfold f_X12_span_l58 at hf
  obtain ⟨t, hl, hf⟩ := ob hf
  refine loopV (P := fun z => ∀ n, V G C F_X12_span 58 [some (.ref (G.2.1 + 264)), some (.int l1), some (.int (b2i l2)), some (.int l3), some (.int l4), some (.int z.1)] [] (pic G z.2) n 0 0) (t := t) ?_ _ _ hl n
  intro z y' hy hI hT n
  refine s_X12_span_b58 hG hy ⟨hI, fun x9 ex => ?_⟩
  have ex2 := hT x9 ex
  subst ex2
  intro n
  exact s_X12_span_j75_39 hG hf hK
theorem s_X12_span_b39 {G : Gl} (hG : G.1.stackTraces = false) {C : Cx} {n : Nat} {μ : Mem} {l1 : Int32} {l2 : Bool} {l3 : Int32} {l4 : Int32} {y : ((Int32 × Int32 × Mem) ⊕ (Int32 × Mem))} (hf : f_X12_span_b39 μ l1 l2 l3 l4 = some y) (hK : (∀ z', y = .inl z' → ∀ n, V G C F_X12_span 39 [some (.ref (G.2.1 + 264)), some (.int l1), some (.int (b2i l2)), some (.int z'.1), some (.int z'.2.1), none] [] (pic G z'.2.2) n 0 0) ∧ (∀ x', y = .inr x' → ∀ n, V G C F_X12_span 129 [none, none, none, some (.int x'.1), none, none] [] (pic G x'.2) n 0 0)) : V G C F_X12_span 39 [some (.ref (G.2.1 + 264)), some (.int l1), some (.int (b2i l2)), some (.int l3), some (.int l4), none] [] (pic G μ) n 0 0 := by
  unfold f_X12_span_b39 at hf
  refine V_iload d_X12_span_39 rfl ?_
  refine V_bipush (v := 6) d_X12_span_41 bp_6 ?_
  refine V_icmp_gt (tgt := 129) d_X12_span_43 (by decide) (fun c43 => ?_) (fun c43 => ?_)
  · replace hf := iteT c43 hf
    refine V_less (ls' := [none, none, none, some _, none, none]) ⟨rfl, trivial⟩ ?_
    cases hf
    exact hK.2 _ rfl _
  · replace hf := iteF c43 hf
    refine V_aload_n d_X12_span_46 rfl rfl ?_
    refine B_get k_264 fl_RX12_13 d_X12_span_47 g_12_1 ?_
    refine V_bipush (v := 7) d_X12_span_50 bp_7 ?_
    refine V_iload d_X12_span_52 rfl ?_
    obtain ⟨μ1, hμ1, hf⟩ := ob hf
    refine B_iast k_265 hμ1 d_X12_span_54 ?_
    refine V_iconst (v := 0) d_X12_span_55 ic_0 ?_
    refine V_istore (ls' := [_, _, _, _, _, _]) d_X12_span_56 rfl rfl ?_
    refine V_less (ls' := [some _, some _, some _, some _, some _, some _]) ⟨rfl, rfl, rfl, rfl, rfl, rfl, trivial⟩ ?_
    exact s_X12_span_l58 hG hf hK
theorem s_X12_span_j129 {G : Gl} (hG : G.1.stackTraces = false) {C : Cx} {n : Nat} {μ : Mem} {l3 : Int32} {r : (Int32 × Mem)} (hf : f_X12_span_j129 μ l3 = some r) (hK : FinR G C F_X12_span (some .int) (some (.int r.1)) r.2) : V G C F_X12_span 129 [none, none, none, some (.int l3), none, none] [] (pic G μ) n 0 0 := by
  unfold f_X12_span_j129 at hf
  refine V_iload_n d_X12_span_129 rfl rfl ?_
  cases hf
  exact R_i hK d_X12_span_130 (Nat.le_of_ble_eq_true rfl) (Nat.le_of_ble_eq_true rfl)
theorem s_X12_span_l39 {G : Gl} (hG : G.1.stackTraces = false) {C : Cx} {n : Nat} {μ : Mem} {l1 : Int32} {l2 : Bool} {l3 : Int32} {l4 : Int32} {r : (Int32 × Mem)} (hf : f_X12_span_l39 μ l1 l2 l3 l4 = some r) (hK : FinR G C F_X12_span (some .int) (some (.int r.1)) r.2) : V G C F_X12_span 39 [some (.ref (G.2.1 + 264)), some (.int l1), some (.int (b2i l2)), some (.int l3), some (.int l4), none] [] (pic G μ) n 0 0 := by
  unfold f_X12_span_l39 at hf
  obtain ⟨t, hl, hf⟩ := ob hf
  refine loopV (P := fun z => ∀ n, V G C F_X12_span 39 [some (.ref (G.2.1 + 264)), some (.int l1), some (.int (b2i l2)), some (.int z.1), some (.int z.2.1), none] [] (pic G z.2.2) n 0 0) (t := t) ?_ _ _ hl n
  intro z y' hy hI hT n
  refine s_X12_span_b39 hG hy ⟨hI, fun x9 ex => ?_⟩
  have ex2 := hT x9 ex
  subst ex2
  intro n
  exact s_X12_span_j129 hG hf hK
theorem s_X12_span_e {G : Gl} (hG : G.1.stackTraces = false) {C : Cx} {n : Nat} {μ : Mem} {p1 : Int32} {p2 : Bool} {r : (Int32 × Mem)} (hf : f_X12_span μ p1 p2 = some r) (hK : FinR G C F_X12_span (some .int) (some (.int r.1)) r.2) : V G C F_X12_span 0 [some (.ref (G.2.1 + 264)), some (.int p1), some (.int (b2i p2)), none, none, none] [] (pic G μ) n 0 0 := by
  unfold f_X12_span at hf
  refine V_aload_n d_X12_span_0 rfl rfl ?_
  refine V_iconst (v := 0) d_X12_span_1 ic_0 ?_
  refine B_putI k_264 fl_RX12_3 pt_12_0 (Nat.le_of_ble_eq_true rfl) p_12_0 d_X12_span_2 ?_
  refine V_aload_n d_X12_span_5 rfl rfl ?_
  refine V_iload_n d_X12_span_6 rfl rfl ?_
  refine V_iconst (v := 0) d_X12_span_7 ic_0 ?_
  refine V_bipush (v := 60) d_X12_span_8 bp_60 ?_
  obtain ⟨t1, ht1, hf⟩ := ob hf
  refine B_callS1 (s_X12_in hG ht1) m_X12_in ks_RX12_73 d_X12_span_10 rfl (Nat.le_of_ble_eq_true rfl) ⟨rfl, rfl, Nat.le_of_ble_eq_true rfl, Nat.le_of_ble_eq_true rfl, Nat.le_of_ble_eq_true rfl⟩ (fun n => ?_)
  have hJj2 : ∀ j2 : Bool, j2 = (if t1 = true then (false : Bool) else true) → V G C F_X12_span 21 [some (.ref (G.2.1 + 264)), some (.int p1), some (.int (b2i p2)), none, none, none] [.int (b2i j2), .ref (G.2.1 + 264)] (pic G (mset μ 264 0 0)) n 0 0 := by
    intro j2 ej2
    subst ej2
    refine V_iconst (v := 1) d_X12_span_21 ic_1 ?_
    obtain ⟨q3, hq3, hf⟩ := ob hf
    refine B_callV1 (s_X12_throwsIf hG hq3) k_264 clX12 m_X12_throwsIf kv_RX12_263 d_X12_span_22 rfl (Nat.le_of_ble_eq_true rfl) ⟨rfl, rfl, Nat.le_of_ble_eq_true rfl, Nat.le_of_ble_eq_true rfl, Nat.le_of_ble_eq_true rfl⟩ (fun n => ?_)
    refine V_if_eq (tgt := 30) d_X12_span_25 (by decide) (fun c25 => ?_) (fun c25 => ?_)
    · replace hf := iteF (b2i_nt (b2i_eq0 c25)) hf
      refine V_aload_n d_X12_span_30 rfl rfl ?_
      obtain ⟨q4, hq4, hf⟩ := ob hf
      refine B_callV0 (s_X12_keepsAll hG hq4) k_264 clX12 m_X12_keepsAll kv_RX12_367 d_X12_span_31 rfl (Nat.le_of_ble_eq_true rfl) ⟨rfl, rfl, Nat.le_of_ble_eq_true rfl, Nat.le_of_ble_eq_true rfl, Nat.le_of_ble_eq_true rfl⟩ (fun n => ?_)
      refine V_iconst (v := (-1)) d_X12_span_34 ic_m1 ?_
      refine V_istore_n (ls' := [_, _, _, _, _, _]) d_X12_span_35 rfl rfl rfl ?_
      refine V_iconst (v := 1) d_X12_span_36 ic_1 ?_
      refine V_istore (ls' := [_, _, _, _, _, _]) d_X12_span_37 rfl rfl ?_
      refine V_less (ls' := [some _, some _, some _, some _, some _, none]) ⟨rfl, rfl, rfl, rfl, rfl, trivial⟩ ?_
      exact s_X12_span_l39 hG hf hK
    · replace hf := iteT (b2i_ne0 c25) hf
      refine V_iconst (v := 0) d_X12_span_28 ic_0 ?_
      cases hf
      exact R_i hK d_X12_span_29 (Nat.le_of_ble_eq_true rfl) (Nat.le_of_ble_eq_true rfl)
  refine V_if_ne (tgt := 20) d_X12_span_13 (by decide) (fun c13 => ?_) (fun c13 => ?_)
  · refine V_iconst (v := 0) d_X12_span_20 ic_0 ?_
    refine V_less (ls' := [some _, some _, some _, none, none, none]) ⟨rfl, rfl, rfl, trivial⟩ ?_
    exact hJj2 false (by rw [if_pos (b2i_ne0 c13)])
  · refine V_iconst (v := 1) d_X12_span_16 ic_1 ?_
    refine V_goto (tgt := 21) d_X12_span_17 (by decide) ?_
    refine V_less (ls' := [some _, some _, some _, none, none, none]) ⟨rfl, rfl, rfl, trivial⟩ ?_
    exact hJj2 true (by rw [if_neg (b2i_nt (b2i_eq0 c13))])
theorem s_X12_span {G : Gl} (hG : G.1.stackTraces = false) {μ : Mem} {p1 : Int32} {p2 : Bool} {r : (Int32 × Mem)} (hf : f_X12_span μ p1 p2 = some r) : Rt G yX12_span F_X12_span (some .int) [.ref (G.2.1 + 264), .int p1, .int (b2i p2)] μ (some (.int r.1)) r.2 := fun n => Sd.of hG ⟨by decide +kernel, rfl, rfl⟩ rfl (Nat.le_of_ble_eq_true rfl) rfl (fun C hK => s_X12_span_e hG hf hK)
theorem d_X12_ofLog_0 : decode cX12_ofLog 0 = .ok (.aload_n 0, 1) := by decide +kernel
theorem d_X12_ofLog_1 : decode cX12_ofLog 1 = .ok (.getfield 13, 3) := by decide +kernel
theorem d_X12_ofLog_4 : decode cX12_ofLog 4 = .ok (.sipush 130, 3) := by decide +kernel
theorem d_X12_ofLog_7 : decode cX12_ofLog 7 = .ok (.iconst 4, 1) := by decide +kernel
theorem d_X12_ofLog_8 : decode cX12_ofLog 8 = .ok (.iload_n 1, 1) := by decide +kernel
theorem d_X12_ofLog_9 : decode cX12_ofLog 9 = .ok (.imul, 1) := by decide +kernel
theorem d_X12_ofLog_10 : decode cX12_ofLog 10 = .ok (.iadd, 1) := by decide +kernel
theorem d_X12_ofLog_11 : decode cX12_ofLog 11 = .ok (.iload_n 2, 1) := by decide +kernel
theorem d_X12_ofLog_12 : decode cX12_ofLog 12 = .ok (.iadd, 1) := by decide +kernel
theorem d_X12_ofLog_13 : decode cX12_ofLog 13 = .ok (.iaload, 1) := by decide +kernel
theorem d_X12_ofLog_14 : decode cX12_ofLog 14 = .ok (.ireturn, 1) := by decide +kernel
theorem s_X12_ofLog_e {G : Gl} (hG : G.1.stackTraces = false) {C : Cx} {n : Nat} {μ : Mem} {p1 : Int32} {p2 : Int32} {r : Int32} (hf : f_X12_ofLog μ p1 p2 = some r) (hK : FinR G C F_X12_ofLog (some .int) (some (.int r)) μ) : V G C F_X12_ofLog 0 [some (.ref (G.2.1 + 264)), some (.int p1), some (.int p2)] [] (pic G μ) n 0 0 := by
  unfold f_X12_ofLog at hf
  refine V_aload_n d_X12_ofLog_0 rfl rfl ?_
  refine B_get k_264 fl_RX12_13 d_X12_ofLog_1 g_12_1 ?_
  refine V_sipush (v := 130) d_X12_ofLog_4 sp_130 ?_
  refine V_iconst (v := 4) d_X12_ofLog_7 ic_4 ?_
  refine V_iload_n d_X12_ofLog_8 rfl rfl ?_
  refine V_imul d_X12_ofLog_9 ?_
  refine V_iadd d_X12_ofLog_10 ?_
  refine V_iload_n d_X12_ofLog_11 rfl rfl ?_
  refine V_iadd d_X12_ofLog_12 ?_
  obtain ⟨t1, ht1, hf⟩ := ob hf
  refine B_iald k_265 ht1 d_X12_ofLog_13 ?_
  cases hf
  exact R_i hK d_X12_ofLog_14 (Nat.le_of_ble_eq_true rfl) (Nat.le_of_ble_eq_true rfl)
theorem s_X12_ofLog {G : Gl} (hG : G.1.stackTraces = false) {μ : Mem} {p1 : Int32} {p2 : Int32} {r : Int32} (hf : f_X12_ofLog μ p1 p2 = some r) : Rt G yX12_ofLog F_X12_ofLog (some .int) [.ref (G.2.1 + 264), .int p1, .int p2] μ (some (.int r)) μ := fun n => Sd.of hG ⟨by decide +kernel, rfl, rfl⟩ rfl (Nat.le_of_ble_eq_true rfl) rfl (fun C hK => s_X12_ofLog_e hG hf hK)
theorem d_X12_led_0 : decode cX12_led 0 = .ok (.aload_n 0, 1) := by decide +kernel
theorem d_X12_led_1 : decode cX12_led 1 = .ok (.iconst 0, 1) := by decide +kernel
theorem d_X12_led_2 : decode cX12_led 2 = .ok (.putfield 3, 3) := by decide +kernel
theorem d_X12_led_5 : decode cX12_led 5 = .ok (.aload_n 0, 1) := by decide +kernel
theorem d_X12_led_6 : decode cX12_led 6 = .ok (.aload_n 0, 1) := by decide +kernel
theorem d_X12_led_7 : decode cX12_led 7 = .ok (.iload_n 1, 1) := by decide +kernel
theorem d_X12_led_8 : decode cX12_led 8 = .ok (.invokevirtual 317, 3) := by decide +kernel
theorem d_X12_led_11 : decode cX12_led 11 = .ok (.iconst 1, 1) := by decide +kernel
theorem d_X12_led_12 : decode cX12_led 12 = .ok (.invokevirtual 263, 3) := by decide +kernel
theorem d_X12_led_15 : decode cX12_led 15 = .ok (.ifCond .eq 5, 3) := by decide +kernel
theorem d_X12_led_18 : decode cX12_led 18 = .ok (.iconst 0, 1) := by decide +kernel
theorem d_X12_led_19 : decode cX12_led 19 = .ok (.ireturn, 1) := by decide +kernel
theorem d_X12_led_20 : decode cX12_led 20 = .ok (.iconst 0, 1) := by decide +kernel
theorem d_X12_led_21 : decode cX12_led 21 = .ok (.istore_n 3, 1) := by decide +kernel
theorem d_X12_led_22 : decode cX12_led 22 = .ok (.iconst (-1), 1) := by decide +kernel
theorem d_X12_led_23 : decode cX12_led 23 = .ok (.istore 4, 2) := by decide +kernel
theorem d_X12_led_25 : decode cX12_led 25 = .ok (.aload_n 0, 1) := by decide +kernel
theorem d_X12_led_26 : decode cX12_led 26 = .ok (.getfield 13, 3) := by decide +kernel
theorem d_X12_led_29 : decode cX12_led 29 = .ok (.bipush 6, 2) := by decide +kernel
theorem d_X12_led_31 : decode cX12_led 31 = .ok (.iaload, 1) := by decide +kernel
theorem d_X12_led_32 : decode cX12_led 32 = .ok (.iconst 1, 1) := by decide +kernel
theorem d_X12_led_33 : decode cX12_led 33 = .ok (.isub, 1) := by decide +kernel
theorem d_X12_led_34 : decode cX12_led 34 = .ok (.istore 5, 2) := by decide +kernel
theorem d_X12_led_36 : decode cX12_led 36 = .ok (.iload 5, 2) := by decide +kernel
theorem d_X12_led_38 : decode cX12_led 38 = .ok (.ifCond .lt 35, 3) := by decide +kernel
theorem d_X12_led_41 : decode cX12_led 41 = .ok (.aload_n 0, 1) := by decide +kernel
theorem d_X12_led_42 : decode cX12_led 42 = .ok (.iload 5, 2) := by decide +kernel
theorem d_X12_led_44 : decode cX12_led 44 = .ok (.iconst 1, 1) := by decide +kernel
theorem d_X12_led_45 : decode cX12_led 45 = .ok (.invokevirtual 428, 3) := by decide +kernel
theorem d_X12_led_48 : decode cX12_led 48 = .ok (.iload_n 1, 1) := by decide +kernel
theorem d_X12_led_49 : decode cX12_led 49 = .ok (.if_icmp .eq 6, 3) := by decide +kernel
theorem d_X12_led_52 : decode cX12_led 52 = .ok (.goto 15, 3) := by decide +kernel
theorem d_X12_led_55 : decode cX12_led 55 = .ok (.iinc 3 1, 3) := by decide +kernel
theorem d_X12_led_58 : decode cX12_led 58 = .ok (.aload_n 0, 1) := by decide +kernel
theorem d_X12_led_59 : decode cX12_led 59 = .ok (.iload 5, 2) := by decide +kernel
theorem d_X12_led_61 : decode cX12_led 61 = .ok (.iconst 0, 1) := by decide +kernel
theorem d_X12_led_62 : decode cX12_led 62 = .ok (.invokevirtual 428, 3) := by decide +kernel
theorem d_X12_led_65 : decode cX12_led 65 = .ok (.istore 4, 2) := by decide +kernel
theorem d_X12_led_67 : decode cX12_led 67 = .ok (.iinc 5 (-1), 3) := by decide +kernel
theorem d_X12_led_70 : decode cX12_led 70 = .ok (.goto (-34), 3) := by decide +kernel
theorem d_X12_led_73 : decode cX12_led 73 = .ok (.iload_n 2, 1) := by decide +kernel
theorem d_X12_led_74 : decode cX12_led 74 = .ok (.ifCond .eq 8, 3) := by decide +kernel
theorem d_X12_led_77 : decode cX12_led 77 = .ok (.iload 4, 2) := by decide +kernel
theorem d_X12_led_79 : decode cX12_led 79 = .ok (.goto 4, 3) := by decide +kernel
theorem d_X12_led_82 : decode cX12_led 82 = .ok (.iload_n 3, 1) := by decide +kernel
theorem d_X12_led_83 : decode cX12_led 83 = .ok (.ireturn, 1) := by decide +kernel
theorem s_X12_led_j67_36 {G : Gl} (hG : G.1.stackTraces = false) {C : Cx} {n : Nat} {μ : Mem} {l1 : Int32} {l2 : Bool} {l3 : Int32} {l4 : Int32} {l5 : Int32} {y : ((Int32 × Int32 × Int32) ⊕ (Int32 × Int32))} (hf : f_X12_led_j67_36 μ l1 l2 l3 l4 l5 = some y) (hK : (∀ z', y = .inl z' → ∀ n, V G C F_X12_led 36 [some (.ref (G.2.1 + 264)), some (.int l1), some (.int (b2i l2)), some (.int z'.1), some (.int z'.2.1), some (.int z'.2.2)] [] (pic G μ) n 0 0) ∧ (∀ x', y = .inr x' → ∀ n, V G C F_X12_led 73 [none, none, some (.int (b2i l2)), some (.int x'.1), some (.int x'.2), none] [] (pic G μ) n 0 0)) : V G C F_X12_led 67 [some (.ref (G.2.1 + 264)), some (.int l1), some (.int (b2i l2)), some (.int l3), some (.int l4), some (.int l5)] [] (pic G μ) n 0 0 := by
  unfold f_X12_led_j67_36 at hf
  refine V_iinc (v := (l5 + (-1))) (ls' := [_, _, _, _, _, _]) d_X12_led_67 rfl (by rw [ic_m1]) rfl ?_
  refine V_goto (tgt := 36) d_X12_led_70 (by decide) ?_
  refine V_less (ls' := [some _, some _, some _, some _, some _, some _]) ⟨rfl, rfl, rfl, rfl, rfl, rfl, trivial⟩ ?_
  cases hf
  exact hK.1 _ rfl _
theorem s_X12_led_b36 {G : Gl} (hG : G.1.stackTraces = false) {C : Cx} {n : Nat} {μ : Mem} {l1 : Int32} {l2 : Bool} {l3 : Int32} {l4 : Int32} {l5 : Int32} {y : ((Int32 × Int32 × Int32) ⊕ (Int32 × Int32))} (hf : f_X12_led_b36 μ l1 l2 l3 l4 l5 = some y) (hK : (∀ z', y = .inl z' → ∀ n, V G C F_X12_led 36 [some (.ref (G.2.1 + 264)), some (.int l1), some (.int (b2i l2)), some (.int z'.1), some (.int z'.2.1), some (.int z'.2.2)] [] (pic G μ) n 0 0) ∧ (∀ x', y = .inr x' → ∀ n, V G C F_X12_led 73 [none, none, some (.int (b2i l2)), some (.int x'.1), some (.int x'.2), none] [] (pic G μ) n 0 0)) : V G C F_X12_led 36 [some (.ref (G.2.1 + 264)), some (.int l1), some (.int (b2i l2)), some (.int l3), some (.int l4), some (.int l5)] [] (pic G μ) n 0 0 := by
  unfold f_X12_led_b36 at hf
  refine V_iload d_X12_led_36 rfl ?_
  refine V_if_lt (tgt := 73) d_X12_led_38 (by decide) (fun c38 => ?_) (fun c38 => ?_)
  · replace hf := iteT c38 hf
    refine V_less (ls' := [none, none, some _, some _, some _, none]) ⟨rfl, rfl, rfl, trivial⟩ ?_
    cases hf
    exact hK.2 _ rfl _
  · replace hf := iteF c38 hf
    refine V_aload_n d_X12_led_41 rfl rfl ?_
    refine V_iload d_X12_led_42 rfl ?_
    refine V_iconst (v := 1) d_X12_led_44 ic_1 ?_
    obtain ⟨t1, ht1, hf⟩ := ob hf
    refine B_callV1 (s_X12_ofLog hG ht1) k_264 clX12 m_X12_ofLog kv_RX12_428 d_X12_led_45 rfl (Nat.le_of_ble_eq_true rfl) ⟨rfl, rfl, Nat.le_of_ble_eq_true rfl, Nat.le_of_ble_eq_true rfl, Nat.le_of_ble_eq_true rfl⟩ (fun n => ?_)
    refine V_iload_n d_X12_led_48 rfl rfl ?_
    refine V_icmp_eq (tgt := 55) d_X12_led_49 (by decide) (fun c49 => ?_) (fun c49 => ?_)
    · replace hf := iteT c49 hf
      refine V_iinc (v := (l3 + 1)) (ls' := [_, _, _, _, _, _]) d_X12_led_55 rfl (by rw [ic_1]) rfl ?_
      refine V_aload_n d_X12_led_58 rfl rfl ?_
      refine V_iload d_X12_led_59 rfl ?_
      refine V_iconst (v := 0) d_X12_led_61 ic_0 ?_
      obtain ⟨t2, ht2, hf⟩ := ob hf
      refine B_callV1 (s_X12_ofLog hG ht2) k_264 clX12 m_X12_ofLog kv_RX12_428 d_X12_led_62 rfl (Nat.le_of_ble_eq_true rfl) ⟨rfl, rfl, Nat.le_of_ble_eq_true rfl, Nat.le_of_ble_eq_true rfl, Nat.le_of_ble_eq_true rfl⟩ (fun n => ?_)
      refine V_istore (ls' := [_, _, _, _, _, _]) d_X12_led_65 rfl rfl ?_
      refine V_less (ls' := [some _, some _, some _, some _, some _, some _]) ⟨rfl, rfl, rfl, rfl, rfl, rfl, trivial⟩ ?_
      exact s_X12_led_j67_36 hG hf hK
    · replace hf := iteF c49 hf
      refine V_goto (tgt := 67) d_X12_led_52 (by decide) ?_
      refine V_less (ls' := [some _, some _, some _, some _, some _, some _]) ⟨rfl, rfl, rfl, rfl, rfl, rfl, trivial⟩ ?_
      exact s_X12_led_j67_36 hG hf hK
theorem s_X12_led_j73 {G : Gl} (hG : G.1.stackTraces = false) {C : Cx} {n : Nat} {μ : Mem} {l2 : Bool} {l3 : Int32} {l4 : Int32} {r : (Int32 × Mem)} (hf : f_X12_led_j73 μ l2 l3 l4 = some r) (hK : FinR G C F_X12_led (some .int) (some (.int r.1)) r.2) : V G C F_X12_led 73 [none, none, some (.int (b2i l2)), some (.int l3), some (.int l4), none] [] (pic G μ) n 0 0 := by
  unfold f_X12_led_j73 at hf
  refine V_iload_n d_X12_led_73 rfl rfl ?_
  have hJj1 : ∀ j1 : Int32, j1 = (if l2 = true then (l4 : Int32) else l3) → V G C F_X12_led 83 [none, none, none, none, none, none] [.int j1] (pic G μ) n 0 0 := by
    intro j1 ej1
    subst ej1
    cases hf
    exact R_i hK d_X12_led_83 (Nat.le_of_ble_eq_true rfl) (Nat.le_of_ble_eq_true rfl)
  refine V_if_eq (tgt := 82) d_X12_led_74 (by decide) (fun c74 => ?_) (fun c74 => ?_)
  · refine V_iload_n d_X12_led_82 rfl rfl ?_
    refine V_less (ls' := [none, none, none, none, none, none]) trivial ?_
    exact hJj1 l3 (by rw [if_neg (b2i_nt (b2i_eq0 c74))])
  · refine V_iload d_X12_led_77 rfl ?_
    refine V_goto (tgt := 83) d_X12_led_79 (by decide) ?_
    refine V_less (ls' := [none, none, none, none, none, none]) trivial ?_
    exact hJj1 l4 (by rw [if_pos (b2i_ne0 c74)])
theorem s_X12_led_l36 {G : Gl} (hG : G.1.stackTraces = false) {C : Cx} {n : Nat} {μ : Mem} {l1 : Int32} {l2 : Bool} {l3 : Int32} {l4 : Int32} {l5 : Int32} {r : (Int32 × Mem)} (hf : f_X12_led_l36 μ l1 l2 l3 l4 l5 = some r) (hK : FinR G C F_X12_led (some .int) (some (.int r.1)) r.2) : V G C F_X12_led 36 [some (.ref (G.2.1 + 264)), some (.int l1), some (.int (b2i l2)), some (.int l3), some (.int l4), some (.int l5)] [] (pic G μ) n 0 0 := by
  unfold f_X12_led_l36 at hf
  obtain ⟨t, hl, hf⟩ := ob hf
  refine loopV (P := fun z => ∀ n, V G C F_X12_led 36 [some (.ref (G.2.1 + 264)), some (.int l1), some (.int (b2i l2)), some (.int z.1), some (.int z.2.1), some (.int z.2.2)] [] (pic G μ) n 0 0) (t := t) ?_ _ _ hl n
  intro z y' hy hI hT n
  refine s_X12_led_b36 hG hy ⟨hI, fun x9 ex => ?_⟩
  have ex2 := hT x9 ex
  subst ex2
  intro n
  exact s_X12_led_j73 hG hf hK
theorem s_X12_led_e {G : Gl} (hG : G.1.stackTraces = false) {C : Cx} {n : Nat} {μ : Mem} {p1 : Int32} {p2 : Bool} {r : (Int32 × Mem)} (hf : f_X12_led μ p1 p2 = some r) (hK : FinR G C F_X12_led (some .int) (some (.int r.1)) r.2) : V G C F_X12_led 0 [some (.ref (G.2.1 + 264)), some (.int p1), some (.int (b2i p2)), none, none, none] [] (pic G μ) n 0 0 := by
  unfold f_X12_led at hf
  refine V_aload_n d_X12_led_0 rfl rfl ?_
  refine V_iconst (v := 0) d_X12_led_1 ic_0 ?_
  refine B_putI k_264 fl_RX12_3 pt_12_0 (Nat.le_of_ble_eq_true rfl) p_12_0 d_X12_led_2 ?_
  refine V_aload_n d_X12_led_5 rfl rfl ?_
  refine V_aload_n d_X12_led_6 rfl rfl ?_
  refine V_iload_n d_X12_led_7 rfl rfl ?_
  obtain ⟨t1, ht1, hf⟩ := ob hf
  refine B_callV1 (s_X12_noLace hG ht1) k_264 clX12 m_X12_noLace kv_RX12_317 d_X12_led_8 rfl (Nat.le_of_ble_eq_true rfl) ⟨rfl, rfl, Nat.le_of_ble_eq_true rfl, Nat.le_of_ble_eq_true rfl, Nat.le_of_ble_eq_true rfl⟩ (fun n => ?_)
  refine V_iconst (v := 1) d_X12_led_11 ic_1 ?_
  obtain ⟨q2, hq2, hf⟩ := ob hf
  refine B_callV1 (s_X12_throwsIf hG hq2) k_264 clX12 m_X12_throwsIf kv_RX12_263 d_X12_led_12 rfl (Nat.le_of_ble_eq_true rfl) ⟨rfl, rfl, Nat.le_of_ble_eq_true rfl, Nat.le_of_ble_eq_true rfl, Nat.le_of_ble_eq_true rfl⟩ (fun n => ?_)
  refine V_if_eq (tgt := 20) d_X12_led_15 (by decide) (fun c15 => ?_) (fun c15 => ?_)
  · replace hf := iteF (b2i_nt (b2i_eq0 c15)) hf
    refine V_iconst (v := 0) d_X12_led_20 ic_0 ?_
    refine V_istore_n (ls' := [_, _, _, _, _, _]) d_X12_led_21 rfl rfl rfl ?_
    refine V_iconst (v := (-1)) d_X12_led_22 ic_m1 ?_
    refine V_istore (ls' := [_, _, _, _, _, _]) d_X12_led_23 rfl rfl ?_
    refine V_aload_n d_X12_led_25 rfl rfl ?_
    refine B_get k_264 fl_RX12_13 d_X12_led_26 g_12_1 ?_
    refine V_bipush (v := 6) d_X12_led_29 bp_6 ?_
    obtain ⟨t3, ht3, hf⟩ := ob hf
    refine B_iald k_265 ht3 d_X12_led_31 ?_
    refine V_iconst (v := 1) d_X12_led_32 ic_1 ?_
    refine V_isub d_X12_led_33 ?_
    refine V_istore (ls' := [_, _, _, _, _, _]) d_X12_led_34 rfl rfl ?_
    refine V_less (ls' := [some _, some _, some _, some _, some _, some _]) ⟨rfl, rfl, rfl, rfl, rfl, rfl, trivial⟩ ?_
    exact s_X12_led_l36 hG hf hK
  · replace hf := iteT (b2i_ne0 c15) hf
    refine V_iconst (v := 0) d_X12_led_18 ic_0 ?_
    cases hf
    exact R_i hK d_X12_led_19 (Nat.le_of_ble_eq_true rfl) (Nat.le_of_ble_eq_true rfl)
theorem s_X12_led {G : Gl} (hG : G.1.stackTraces = false) {μ : Mem} {p1 : Int32} {p2 : Bool} {r : (Int32 × Mem)} (hf : f_X12_led μ p1 p2 = some r) : Rt G yX12_led F_X12_led (some .int) [.ref (G.2.1 + 264), .int p1, .int (b2i p2)] μ (some (.int r.1)) r.2 := fun n => Sd.of hG ⟨by decide +kernel, rfl, rfl⟩ rfl (Nat.le_of_ble_eq_true rfl) rfl (fun C hK => s_X12_led_e hG hf hK)
theorem d_X12_log_0 : decode cX12_log 0 = .ok (.aload_n 0, 1) := by decide +kernel
theorem d_X12_log_1 : decode cX12_log 1 = .ok (.iconst 0, 1) := by decide +kernel
theorem d_X12_log_2 : decode cX12_log 2 = .ok (.putfield 3, 3) := by decide +kernel
theorem d_X12_log_5 : decode cX12_log 5 = .ok (.aload_n 0, 1) := by decide +kernel
theorem d_X12_log_6 : decode cX12_log 6 = .ok (.iload_n 2, 1) := by decide +kernel
theorem d_X12_log_7 : decode cX12_log 7 = .ok (.iconst 0, 1) := by decide +kernel
theorem d_X12_log_8 : decode cX12_log 8 = .ok (.iconst 3, 1) := by decide +kernel
theorem d_X12_log_9 : decode cX12_log 9 = .ok (.invokestatic 73, 3) := by decide +kernel
theorem d_X12_log_12 : decode cX12_log 12 = .ok (.ifCond .ne 7, 3) := by decide +kernel
theorem d_X12_log_15 : decode cX12_log 15 = .ok (.iconst 1, 1) := by decide +kernel
theorem d_X12_log_16 : decode cX12_log 16 = .ok (.goto 4, 3) := by decide +kernel
theorem d_X12_log_19 : decode cX12_log 19 = .ok (.iconst 0, 1) := by decide +kernel
theorem d_X12_log_20 : decode cX12_log 20 = .ok (.iconst 1, 1) := by decide +kernel
theorem d_X12_log_21 : decode cX12_log 21 = .ok (.invokevirtual 263, 3) := by decide +kernel
theorem d_X12_log_24 : decode cX12_log 24 = .ok (.ifCond .eq 5, 3) := by decide +kernel
theorem d_X12_log_27 : decode cX12_log 27 = .ok (.iconst 0, 1) := by decide +kernel
theorem d_X12_log_28 : decode cX12_log 28 = .ok (.ireturn, 1) := by decide +kernel
theorem d_X12_log_29 : decode cX12_log 29 = .ok (.iload_n 1, 1) := by decide +kernel
theorem d_X12_log_30 : decode cX12_log 30 = .ok (.iconst 0, 1) := by decide +kernel
theorem d_X12_log_31 : decode cX12_log 31 = .ok (.aload_n 0, 1) := by decide +kernel
theorem d_X12_log_32 : decode cX12_log 32 = .ok (.getfield 13, 3) := by decide +kernel
theorem d_X12_log_35 : decode cX12_log 35 = .ok (.bipush 6, 2) := by decide +kernel
theorem d_X12_log_37 : decode cX12_log 37 = .ok (.iaload, 1) := by decide +kernel
theorem d_X12_log_38 : decode cX12_log 38 = .ok (.iconst 1, 1) := by decide +kernel
theorem d_X12_log_39 : decode cX12_log 39 = .ok (.isub, 1) := by decide +kernel
theorem d_X12_log_40 : decode cX12_log 40 = .ok (.invokestatic 73, 3) := by decide +kernel
theorem d_X12_log_43 : decode cX12_log 43 = .ok (.ifCond .eq 12, 3) := by decide +kernel
theorem d_X12_log_46 : decode cX12_log 46 = .ok (.aload_n 0, 1) := by decide +kernel
theorem d_X12_log_47 : decode cX12_log 47 = .ok (.iload_n 1, 1) := by decide +kernel
theorem d_X12_log_48 : decode cX12_log 48 = .ok (.iload_n 2, 1) := by decide +kernel
theorem d_X12_log_49 : decode cX12_log 49 = .ok (.invokevirtual 428, 3) := by decide +kernel
theorem d_X12_log_52 : decode cX12_log 52 = .ok (.goto 4, 3) := by decide +kernel
theorem d_X12_log_55 : decode cX12_log 55 = .ok (.iconst (-1), 1) := by decide +kernel
theorem d_X12_log_56 : decode cX12_log 56 = .ok (.ireturn, 1) := by decide +kernel
theorem s_X12_log_j56 {G : Gl} (hG : G.1.stackTraces = false) {C : Cx} {n : Nat} {μ : Mem} {k0 : Int32} {r : (Int32 × Mem)} (hf : f_X12_log_j56 μ k0 = some r) (hK : FinR G C F_X12_log (some .int) (some (.int r.1)) r.2) : V G C F_X12_log 56 [none, none, none] [.int k0] (pic G μ) n 0 0 := by
  unfold f_X12_log_j56 at hf
  cases hf
  exact R_i hK d_X12_log_56 (Nat.le_of_ble_eq_true rfl) (Nat.le_of_ble_eq_true rfl)
theorem s_X12_log_e {G : Gl} (hG : G.1.stackTraces = false) {C : Cx} {n : Nat} {μ : Mem} {p1 : Int32} {p2 : Int32} {r : (Int32 × Mem)} (hf : f_X12_log μ p1 p2 = some r) (hK : FinR G C F_X12_log (some .int) (some (.int r.1)) r.2) : V G C F_X12_log 0 [some (.ref (G.2.1 + 264)), some (.int p1), some (.int p2)] [] (pic G μ) n 0 0 := by
  unfold f_X12_log at hf
  refine V_aload_n d_X12_log_0 rfl rfl ?_
  refine V_iconst (v := 0) d_X12_log_1 ic_0 ?_
  refine B_putI k_264 fl_RX12_3 pt_12_0 (Nat.le_of_ble_eq_true rfl) p_12_0 d_X12_log_2 ?_
  refine V_aload_n d_X12_log_5 rfl rfl ?_
  refine V_iload_n d_X12_log_6 rfl rfl ?_
  refine V_iconst (v := 0) d_X12_log_7 ic_0 ?_
  refine V_iconst (v := 3) d_X12_log_8 ic_3 ?_
  obtain ⟨t1, ht1, hf⟩ := ob hf
  refine B_callS1 (s_X12_in hG ht1) m_X12_in ks_RX12_73 d_X12_log_9 rfl (Nat.le_of_ble_eq_true rfl) ⟨rfl, rfl, Nat.le_of_ble_eq_true rfl, Nat.le_of_ble_eq_true rfl, Nat.le_of_ble_eq_true rfl⟩ (fun n => ?_)
  have hJj2 : ∀ j2 : Bool, j2 = (if t1 = true then (false : Bool) else true) → V G C F_X12_log 20 [some (.ref (G.2.1 + 264)), some (.int p1), some (.int p2)] [.int (b2i j2), .ref (G.2.1 + 264)] (pic G (mset μ 264 0 0)) n 0 0 := by
    intro j2 ej2
    subst ej2
    refine V_iconst (v := 1) d_X12_log_20 ic_1 ?_
    obtain ⟨q3, hq3, hf⟩ := ob hf
    refine B_callV1 (s_X12_throwsIf hG hq3) k_264 clX12 m_X12_throwsIf kv_RX12_263 d_X12_log_21 rfl (Nat.le_of_ble_eq_true rfl) ⟨rfl, rfl, Nat.le_of_ble_eq_true rfl, Nat.le_of_ble_eq_true rfl, Nat.le_of_ble_eq_true rfl⟩ (fun n => ?_)
    refine V_if_eq (tgt := 29) d_X12_log_24 (by decide) (fun c24 => ?_) (fun c24 => ?_)
    · replace hf := iteF (b2i_nt (b2i_eq0 c24)) hf
      refine V_iload_n d_X12_log_29 rfl rfl ?_
      refine V_iconst (v := 0) d_X12_log_30 ic_0 ?_
      refine V_aload_n d_X12_log_31 rfl rfl ?_
      refine B_get k_264 fl_RX12_13 d_X12_log_32 g_12_1 ?_
      refine V_bipush (v := 6) d_X12_log_35 bp_6 ?_
      obtain ⟨t4, ht4, hf⟩ := ob hf
      refine B_iald k_265 ht4 d_X12_log_37 ?_
      refine V_iconst (v := 1) d_X12_log_38 ic_1 ?_
      refine V_isub d_X12_log_39 ?_
      obtain ⟨t5, ht5, hf⟩ := ob hf
      refine B_callS1 (s_X12_in hG ht5) m_X12_in ks_RX12_73 d_X12_log_40 rfl (Nat.le_of_ble_eq_true rfl) ⟨rfl, rfl, Nat.le_of_ble_eq_true rfl, Nat.le_of_ble_eq_true rfl, Nat.le_of_ble_eq_true rfl⟩ (fun n => ?_)
      refine V_if_eq (tgt := 55) d_X12_log_43 (by decide) (fun c43 => ?_) (fun c43 => ?_)
      · replace hf := iteF (b2i_nt (b2i_eq0 c43)) hf
        refine V_iconst (v := (-1)) d_X12_log_55 ic_m1 ?_
        refine V_less (ls' := [none, none, none]) trivial ?_
        exact s_X12_log_j56 hG hf hK
      · replace hf := iteT (b2i_ne0 c43) hf
        refine V_aload_n d_X12_log_46 rfl rfl ?_
        refine V_iload_n d_X12_log_47 rfl rfl ?_
        refine V_iload_n d_X12_log_48 rfl rfl ?_
        obtain ⟨t6, ht6, hf⟩ := ob hf
        refine B_callV1 (s_X12_ofLog hG ht6) k_264 clX12 m_X12_ofLog kv_RX12_428 d_X12_log_49 rfl (Nat.le_of_ble_eq_true rfl) ⟨rfl, rfl, Nat.le_of_ble_eq_true rfl, Nat.le_of_ble_eq_true rfl, Nat.le_of_ble_eq_true rfl⟩ (fun n => ?_)
        refine V_goto (tgt := 56) d_X12_log_52 (by decide) ?_
        refine V_less (ls' := [none, none, none]) trivial ?_
        exact s_X12_log_j56 hG hf hK
    · replace hf := iteT (b2i_ne0 c24) hf
      refine V_iconst (v := 0) d_X12_log_27 ic_0 ?_
      cases hf
      exact R_i hK d_X12_log_28 (Nat.le_of_ble_eq_true rfl) (Nat.le_of_ble_eq_true rfl)
  refine V_if_ne (tgt := 19) d_X12_log_12 (by decide) (fun c12 => ?_) (fun c12 => ?_)
  · refine V_iconst (v := 0) d_X12_log_19 ic_0 ?_
    refine V_less (ls' := [some _, some _, some _]) ⟨rfl, rfl, rfl, trivial⟩ ?_
    exact hJj2 false (by rw [if_pos (b2i_ne0 c12)])
  · refine V_iconst (v := 1) d_X12_log_15 ic_1 ?_
    refine V_goto (tgt := 20) d_X12_log_16 (by decide) ?_
    refine V_less (ls' := [some _, some _, some _]) ⟨rfl, rfl, rfl, trivial⟩ ?_
    exact hJj2 true (by rw [if_neg (b2i_nt (b2i_eq0 c12))])
theorem s_X12_log {G : Gl} (hG : G.1.stackTraces = false) {μ : Mem} {p1 : Int32} {p2 : Int32} {r : (Int32 × Mem)} (hf : f_X12_log μ p1 p2 = some r) : Rt G yX12_log F_X12_log (some .int) [.ref (G.2.1 + 264), .int p1, .int p2] μ (some (.int r.1)) r.2 := fun n => Sd.of hG ⟨by decide +kernel, rfl, rfl⟩ rfl (Nat.le_of_ble_eq_true rfl) rfl (fun C hK => s_X12_log_e hG hf hK)
theorem d_X12_seed_0 : decode cX12_seed 0 = .ok (.aload_n 0, 1) := by decide +kernel
theorem d_X12_seed_1 : decode cX12_seed 1 = .ok (.iconst 0, 1) := by decide +kernel
theorem d_X12_seed_2 : decode cX12_seed 2 = .ok (.putfield 3, 3) := by decide +kernel
theorem d_X12_seed_5 : decode cX12_seed 5 = .ok (.aload_n 0, 1) := by decide +kernel
theorem d_X12_seed_6 : decode cX12_seed 6 = .ok (.getfield 13, 3) := by decide +kernel
theorem d_X12_seed_9 : decode cX12_seed 9 = .ok (.bipush 7, 2) := by decide +kernel
theorem d_X12_seed_11 : decode cX12_seed 11 = .ok (.iaload, 1) := by decide +kernel
theorem d_X12_seed_12 : decode cX12_seed 12 = .ok (.istore_n 2, 1) := by decide +kernel
theorem d_X12_seed_13 : decode cX12_seed 13 = .ok (.aload_n 0, 1) := by decide +kernel
theorem d_X12_seed_14 : decode cX12_seed 14 = .ok (.getfield 13, 3) := by decide +kernel
theorem d_X12_seed_17 : decode cX12_seed 17 = .ok (.bipush 7, 2) := by decide +kernel
theorem d_X12_seed_19 : decode cX12_seed 19 = .ok (.iload_n 1, 1) := by decide +kernel
theorem d_X12_seed_20 : decode cX12_seed 20 = .ok (.iastore, 1) := by decide +kernel
theorem d_X12_seed_21 : decode cX12_seed 21 = .ok (.iload_n 2, 1) := by decide +kernel
theorem d_X12_seed_22 : decode cX12_seed 22 = .ok (.ireturn, 1) := by decide +kernel
theorem s_X12_seed_e {G : Gl} (hG : G.1.stackTraces = false) {C : Cx} {n : Nat} {μ : Mem} {p1 : Int32} {r : (Int32 × Mem)} (hf : f_X12_seed μ p1 = some r) (hK : FinR G C F_X12_seed (some .int) (some (.int r.1)) r.2) : V G C F_X12_seed 0 [some (.ref (G.2.1 + 264)), some (.int p1), none] [] (pic G μ) n 0 0 := by
  unfold f_X12_seed at hf
  refine V_aload_n d_X12_seed_0 rfl rfl ?_
  refine V_iconst (v := 0) d_X12_seed_1 ic_0 ?_
  refine B_putI k_264 fl_RX12_3 pt_12_0 (Nat.le_of_ble_eq_true rfl) p_12_0 d_X12_seed_2 ?_
  refine V_aload_n d_X12_seed_5 rfl rfl ?_
  refine B_get k_264 fl_RX12_13 d_X12_seed_6 g_12_1 ?_
  refine V_bipush (v := 7) d_X12_seed_9 bp_7 ?_
  obtain ⟨t1, ht1, hf⟩ := ob hf
  refine B_iald k_265 ht1 d_X12_seed_11 ?_
  refine V_istore_n (ls' := [_, _, _]) d_X12_seed_12 rfl rfl rfl ?_
  refine V_aload_n d_X12_seed_13 rfl rfl ?_
  refine B_get k_264 fl_RX12_13 d_X12_seed_14 g_12_1 ?_
  refine V_bipush (v := 7) d_X12_seed_17 bp_7 ?_
  refine V_iload_n d_X12_seed_19 rfl rfl ?_
  obtain ⟨μ2, hμ2, hf⟩ := ob hf
  refine B_iast k_265 hμ2 d_X12_seed_20 ?_
  refine V_iload_n d_X12_seed_21 rfl rfl ?_
  cases hf
  exact R_i hK d_X12_seed_22 (Nat.le_of_ble_eq_true rfl) (Nat.le_of_ble_eq_true rfl)
theorem s_X12_seed {G : Gl} (hG : G.1.stackTraces = false) {μ : Mem} {p1 : Int32} {r : (Int32 × Mem)} (hf : f_X12_seed μ p1 = some r) : Rt G yX12_seed F_X12_seed (some .int) [.ref (G.2.1 + 264), .int p1] μ (some (.int r.1)) r.2 := fun n => Sd.of hG ⟨by decide +kernel, rfl, rfl⟩ rfl (Nat.le_of_ble_eq_true rfl) rfl (fun C hK => s_X12_seed_e hG hf hK)
theorem d_X12_pursesOfAll_0 : decode cX12_pursesOfAll 0 = .ok (.iconst 0, 1) := by decide +kernel
theorem d_X12_pursesOfAll_1 : decode cX12_pursesOfAll 1 = .ok (.istore_n 1, 1) := by decide +kernel
theorem d_X12_pursesOfAll_2 : decode cX12_pursesOfAll 2 = .ok (.iconst 0, 1) := by decide +kernel
theorem d_X12_pursesOfAll_3 : decode cX12_pursesOfAll 3 = .ok (.istore_n 2, 1) := by decide +kernel
theorem d_X12_pursesOfAll_4 : decode cX12_pursesOfAll 4 = .ok (.iload_n 2, 1) := by decide +kernel
theorem d_X12_pursesOfAll_5 : decode cX12_pursesOfAll 5 = .ok (.aload_n 0, 1) := by decide +kernel
theorem d_X12_pursesOfAll_6 : decode cX12_pursesOfAll 6 = .ok (.invokevirtual 59, 3) := by decide +kernel
theorem d_X12_pursesOfAll_9 : decode cX12_pursesOfAll 9 = .ok (.if_icmp .ge 18, 3) := by decide +kernel
theorem d_X12_pursesOfAll_12 : decode cX12_pursesOfAll 12 = .ok (.iload_n 1, 1) := by decide +kernel
theorem d_X12_pursesOfAll_13 : decode cX12_pursesOfAll 13 = .ok (.aload_n 0, 1) := by decide +kernel
theorem d_X12_pursesOfAll_14 : decode cX12_pursesOfAll 14 = .ok (.iload_n 2, 1) := by decide +kernel
theorem d_X12_pursesOfAll_15 : decode cX12_pursesOfAll 15 = .ok (.iconst 0, 1) := by decide +kernel
theorem d_X12_pursesOfAll_16 : decode cX12_pursesOfAll 16 = .ok (.invokevirtual 84, 3) := by decide +kernel
theorem d_X12_pursesOfAll_19 : decode cX12_pursesOfAll 19 = .ok (.iadd, 1) := by decide +kernel
theorem d_X12_pursesOfAll_20 : decode cX12_pursesOfAll 20 = .ok (.istore_n 1, 1) := by decide +kernel
theorem d_X12_pursesOfAll_21 : decode cX12_pursesOfAll 21 = .ok (.iinc 2 1, 3) := by decide +kernel
theorem d_X12_pursesOfAll_24 : decode cX12_pursesOfAll 24 = .ok (.goto (-20), 3) := by decide +kernel
theorem d_X12_pursesOfAll_27 : decode cX12_pursesOfAll 27 = .ok (.iload_n 1, 1) := by decide +kernel
theorem d_X12_pursesOfAll_28 : decode cX12_pursesOfAll 28 = .ok (.ireturn, 1) := by decide +kernel
theorem s_X12_pursesOfAll_b4 {G : Gl} (hG : G.1.stackTraces = false) {C : Cx} {n : Nat} {μ : Mem} {l1 : Int32} {l2 : Int32} {y : ((Int32 × Int32) ⊕ Int32)} (hf : f_X12_pursesOfAll_b4 μ l1 l2 = some y) (hK : (∀ z', y = .inl z' → ∀ n, V G C F_X12_pursesOfAll 4 [some (.ref (G.2.1 + 264)), some (.int z'.1), some (.int z'.2)] [] (pic G μ) n 0 0) ∧ (∀ x', y = .inr x' → ∀ n, V G C F_X12_pursesOfAll 27 [none, some (.int x'), none] [] (pic G μ) n 0 0)) : V G C F_X12_pursesOfAll 4 [some (.ref (G.2.1 + 264)), some (.int l1), some (.int l2)] [] (pic G μ) n 0 0 := by
  unfold f_X12_pursesOfAll_b4 at hf
  refine V_iload_n d_X12_pursesOfAll_4 rfl rfl ?_
  refine V_aload_n d_X12_pursesOfAll_5 rfl rfl ?_
  obtain ⟨t1, ht1, hf⟩ := ob hf
  refine B_callV1 (s_X12_people hG ht1) k_264 clX12 m_X12_people kv_RX12_59 d_X12_pursesOfAll_6 rfl (Nat.le_of_ble_eq_true rfl) ⟨rfl, rfl, Nat.le_of_ble_eq_true rfl, Nat.le_of_ble_eq_true rfl, Nat.le_of_ble_eq_true rfl⟩ (fun n => ?_)
  refine V_icmp_ge (tgt := 27) d_X12_pursesOfAll_9 (by decide) (fun c9 => ?_) (fun c9 => ?_)
  · replace hf := iteT c9 hf
    refine V_less (ls' := [none, some _, none]) ⟨rfl, trivial⟩ ?_
    cases hf
    exact hK.2 _ rfl _
  · replace hf := iteF c9 hf
    refine V_iload_n d_X12_pursesOfAll_12 rfl rfl ?_
    refine V_aload_n d_X12_pursesOfAll_13 rfl rfl ?_
    refine V_iload_n d_X12_pursesOfAll_14 rfl rfl ?_
    refine V_iconst (v := 0) d_X12_pursesOfAll_15 ic_0 ?_
    obtain ⟨t2, ht2, hf⟩ := ob hf
    refine B_callV1 (s_X12_of hG ht2) k_264 clX12 m_X12_of kv_RX12_84 d_X12_pursesOfAll_16 rfl (Nat.le_of_ble_eq_true rfl) ⟨rfl, rfl, Nat.le_of_ble_eq_true rfl, Nat.le_of_ble_eq_true rfl, Nat.le_of_ble_eq_true rfl⟩ (fun n => ?_)
    refine V_iadd d_X12_pursesOfAll_19 ?_
    refine V_istore_n (ls' := [_, _, _]) d_X12_pursesOfAll_20 rfl rfl rfl ?_
    refine V_iinc (v := (l2 + 1)) (ls' := [_, _, _]) d_X12_pursesOfAll_21 rfl (by rw [ic_1]) rfl ?_
    refine V_goto (tgt := 4) d_X12_pursesOfAll_24 (by decide) ?_
    refine V_less (ls' := [some _, some _, some _]) ⟨rfl, rfl, rfl, trivial⟩ ?_
    cases hf
    exact hK.1 _ rfl _
theorem s_X12_pursesOfAll_j27 {G : Gl} (hG : G.1.stackTraces = false) {C : Cx} {n : Nat} {μ : Mem} {l1 : Int32} {r : Int32} (hf : f_X12_pursesOfAll_j27 μ l1 = some r) (hK : FinR G C F_X12_pursesOfAll (some .int) (some (.int r)) μ) : V G C F_X12_pursesOfAll 27 [none, some (.int l1), none] [] (pic G μ) n 0 0 := by
  unfold f_X12_pursesOfAll_j27 at hf
  refine V_iload_n d_X12_pursesOfAll_27 rfl rfl ?_
  cases hf
  exact R_i hK d_X12_pursesOfAll_28 (Nat.le_of_ble_eq_true rfl) (Nat.le_of_ble_eq_true rfl)
theorem s_X12_pursesOfAll_l4 {G : Gl} (hG : G.1.stackTraces = false) {C : Cx} {n : Nat} {μ : Mem} {l1 : Int32} {l2 : Int32} {r : Int32} (hf : f_X12_pursesOfAll_l4 μ l1 l2 = some r) (hK : FinR G C F_X12_pursesOfAll (some .int) (some (.int r)) μ) : V G C F_X12_pursesOfAll 4 [some (.ref (G.2.1 + 264)), some (.int l1), some (.int l2)] [] (pic G μ) n 0 0 := by
  unfold f_X12_pursesOfAll_l4 at hf
  obtain ⟨t, hl, hf⟩ := ob hf
  refine loopV (P := fun z => ∀ n, V G C F_X12_pursesOfAll 4 [some (.ref (G.2.1 + 264)), some (.int z.1), some (.int z.2)] [] (pic G μ) n 0 0) (t := t) ?_ _ _ hl n
  intro z y' hy hI hT n
  refine s_X12_pursesOfAll_b4 hG hy ⟨hI, fun x9 ex => ?_⟩
  have ex2 := hT x9 ex
  subst ex2
  intro n
  exact s_X12_pursesOfAll_j27 hG hf hK
theorem s_X12_pursesOfAll_e {G : Gl} (hG : G.1.stackTraces = false) {C : Cx} {n : Nat} {μ : Mem}  {r : Int32} (hf : f_X12_pursesOfAll μ = some r) (hK : FinR G C F_X12_pursesOfAll (some .int) (some (.int r)) μ) : V G C F_X12_pursesOfAll 0 [some (.ref (G.2.1 + 264)), none, none] [] (pic G μ) n 0 0 := by
  unfold f_X12_pursesOfAll at hf
  refine V_iconst (v := 0) d_X12_pursesOfAll_0 ic_0 ?_
  refine V_istore_n (ls' := [_, _, _]) d_X12_pursesOfAll_1 rfl rfl rfl ?_
  refine V_iconst (v := 0) d_X12_pursesOfAll_2 ic_0 ?_
  refine V_istore_n (ls' := [_, _, _]) d_X12_pursesOfAll_3 rfl rfl rfl ?_
  refine V_less (ls' := [some _, some _, some _]) ⟨rfl, rfl, rfl, trivial⟩ ?_
  exact s_X12_pursesOfAll_l4 hG hf hK
theorem s_X12_pursesOfAll {G : Gl} (hG : G.1.stackTraces = false) {μ : Mem} {r : Int32} (hf : f_X12_pursesOfAll μ = some r) : Rt G yX12_pursesOfAll F_X12_pursesOfAll (some .int) [.ref (G.2.1 + 264)] μ (some (.int r)) μ := fun n => Sd.of hG ⟨by decide +kernel, rfl, rfl⟩ rfl (Nat.le_of_ble_eq_true rfl) rfl (fun C hK => s_X12_pursesOfAll_e hG hf hK)
theorem d_X12_count_0 : decode cX12_count 0 = .ok (.aload_n 0, 1) := by decide +kernel
theorem d_X12_count_1 : decode cX12_count 1 = .ok (.iconst 0, 1) := by decide +kernel
theorem d_X12_count_2 : decode cX12_count 2 = .ok (.putfield 3, 3) := by decide +kernel
theorem d_X12_count_5 : decode cX12_count 5 = .ok (.iload_n 1, 1) := by decide +kernel
theorem d_X12_count_6 : decode cX12_count 6 = .ok (.tableswitch 109 2 10 #[50, 109, 109, 70, 75, 84, 89, 96, 104], 50) := by decide +kernel
theorem d_X12_count_56 : decode cX12_count 56 = .ok (.aload_n 0, 1) := by decide +kernel
theorem d_X12_count_57 : decode cX12_count 57 = .ok (.invokevirtual 287, 3) := by decide +kernel
theorem d_X12_count_60 : decode cX12_count 60 = .ok (.ifCond .eq 14, 3) := by decide +kernel
theorem d_X12_count_63 : decode cX12_count 63 = .ok (.aload_n 0, 1) := by decide +kernel
theorem d_X12_count_64 : decode cX12_count 64 = .ok (.getfield 13, 3) := by decide +kernel
theorem d_X12_count_67 : decode cX12_count 67 = .ok (.sipush 370, 3) := by decide +kernel
theorem d_X12_count_70 : decode cX12_count 70 = .ok (.iaload, 1) := by decide +kernel
theorem d_X12_count_71 : decode cX12_count 71 = .ok (.goto 4, 3) := by decide +kernel
theorem d_X12_count_74 : decode cX12_count 74 = .ok (.iconst (-1), 1) := by decide +kernel
theorem d_X12_count_75 : decode cX12_count 75 = .ok (.ireturn, 1) := by decide +kernel
theorem d_X12_count_76 : decode cX12_count 76 = .ok (.aload_n 0, 1) := by decide +kernel
theorem d_X12_count_77 : decode cX12_count 77 = .ok (.invokevirtual 389, 3) := by decide +kernel
theorem d_X12_count_80 : decode cX12_count 80 = .ok (.ireturn, 1) := by decide +kernel
theorem d_X12_count_81 : decode cX12_count 81 = .ok (.aload_n 0, 1) := by decide +kernel
theorem d_X12_count_82 : decode cX12_count 82 = .ok (.aload_n 0, 1) := by decide +kernel
theorem d_X12_count_83 : decode cX12_count 83 = .ok (.invokevirtual 389, 3) := by decide +kernel
theorem d_X12_count_86 : decode cX12_count 86 = .ok (.invokevirtual 401, 3) := by decide +kernel
theorem d_X12_count_89 : decode cX12_count 89 = .ok (.ireturn, 1) := by decide +kernel
theorem d_X12_count_90 : decode cX12_count 90 = .ok (.aload_n 0, 1) := by decide +kernel
theorem d_X12_count_91 : decode cX12_count 91 = .ok (.invokevirtual 431, 3) := by decide +kernel
theorem d_X12_count_94 : decode cX12_count 94 = .ok (.ireturn, 1) := by decide +kernel
theorem d_X12_count_95 : decode cX12_count 95 = .ok (.aload_n 0, 1) := by decide +kernel
theorem d_X12_count_96 : decode cX12_count 96 = .ok (.getfield 13, 3) := by decide +kernel
theorem d_X12_count_99 : decode cX12_count 99 = .ok (.iconst 5, 1) := by decide +kernel
theorem d_X12_count_100 : decode cX12_count 100 = .ok (.iaload, 1) := by decide +kernel
theorem d_X12_count_101 : decode cX12_count 101 = .ok (.ireturn, 1) := by decide +kernel
theorem d_X12_count_102 : decode cX12_count 102 = .ok (.aload_n 0, 1) := by decide +kernel
theorem d_X12_count_103 : decode cX12_count 103 = .ok (.getfield 13, 3) := by decide +kernel
theorem d_X12_count_106 : decode cX12_count 106 = .ok (.bipush 6, 2) := by decide +kernel
theorem d_X12_count_108 : decode cX12_count 108 = .ok (.iaload, 1) := by decide +kernel
theorem d_X12_count_109 : decode cX12_count 109 = .ok (.ireturn, 1) := by decide +kernel
theorem d_X12_count_110 : decode cX12_count 110 = .ok (.aload_n 0, 1) := by decide +kernel
theorem d_X12_count_111 : decode cX12_count 111 = .ok (.getfield 56, 3) := by decide +kernel
theorem d_X12_count_114 : decode cX12_count 114 = .ok (.ireturn, 1) := by decide +kernel
theorem d_X12_count_115 : decode cX12_count 115 = .ok (.iload_n 1, 1) := by decide +kernel
theorem d_X12_count_116 : decode cX12_count 116 = .ok (.iconst 0, 1) := by decide +kernel
theorem d_X12_count_117 : decode cX12_count 117 = .ok (.iconst 4, 1) := by decide +kernel
theorem d_X12_count_118 : decode cX12_count 118 = .ok (.invokestatic 73, 3) := by decide +kernel
theorem d_X12_count_121 : decode cX12_count 121 = .ok (.ifCond .eq 12, 3) := by decide +kernel
theorem d_X12_count_124 : decode cX12_count 124 = .ok (.aload_n 0, 1) := by decide +kernel
theorem d_X12_count_125 : decode cX12_count 125 = .ok (.getfield 13, 3) := by decide +kernel
theorem d_X12_count_128 : decode cX12_count 128 = .ok (.iload_n 1, 1) := by decide +kernel
theorem d_X12_count_129 : decode cX12_count 129 = .ok (.iaload, 1) := by decide +kernel
theorem d_X12_count_130 : decode cX12_count 130 = .ok (.goto 4, 3) := by decide +kernel
theorem d_X12_count_133 : decode cX12_count 133 = .ok (.iconst (-1), 1) := by decide +kernel
theorem d_X12_count_134 : decode cX12_count 134 = .ok (.ireturn, 1) := by decide +kernel
theorem s_X12_count_j75 {G : Gl} (hG : G.1.stackTraces = false) {C : Cx} {n : Nat} {μ : Mem} {k0 : Int32} {r : (Int32 × Mem)} (hf : f_X12_count_j75 μ k0 = some r) (hK : FinR G C F_X12_count (some .int) (some (.int r.1)) r.2) : V G C F_X12_count 75 [none, none] [.int k0] (pic G μ) n 0 0 := by
  unfold f_X12_count_j75 at hf
  cases hf
  exact R_i hK d_X12_count_75 (Nat.le_of_ble_eq_true rfl) (Nat.le_of_ble_eq_true rfl)
theorem s_X12_count_j134 {G : Gl} (hG : G.1.stackTraces = false) {C : Cx} {n : Nat} {μ : Mem} {k0 : Int32} {r : (Int32 × Mem)} (hf : f_X12_count_j134 μ k0 = some r) (hK : FinR G C F_X12_count (some .int) (some (.int r.1)) r.2) : V G C F_X12_count 134 [none, none] [.int k0] (pic G μ) n 0 0 := by
  unfold f_X12_count_j134 at hf
  cases hf
  exact R_i hK d_X12_count_134 (Nat.le_of_ble_eq_true rfl) (Nat.le_of_ble_eq_true rfl)
theorem s_X12_count_j115 {G : Gl} (hG : G.1.stackTraces = false) {C : Cx} {n : Nat} {μ : Mem} {l1 : Int32} {r : (Int32 × Mem)} (hf : f_X12_count_j115 μ l1 = some r) (hK : FinR G C F_X12_count (some .int) (some (.int r.1)) r.2) : V G C F_X12_count 115 [some (.ref (G.2.1 + 264)), some (.int l1)] [] (pic G μ) n 0 0 := by
  unfold f_X12_count_j115 at hf
  refine V_iload_n d_X12_count_115 rfl rfl ?_
  refine V_iconst (v := 0) d_X12_count_116 ic_0 ?_
  refine V_iconst (v := 4) d_X12_count_117 ic_4 ?_
  obtain ⟨t1, ht1, hf⟩ := ob hf
  refine B_callS1 (s_X12_in hG ht1) m_X12_in ks_RX12_73 d_X12_count_118 rfl (Nat.le_of_ble_eq_true rfl) ⟨rfl, rfl, Nat.le_of_ble_eq_true rfl, Nat.le_of_ble_eq_true rfl, Nat.le_of_ble_eq_true rfl⟩ (fun n => ?_)
  refine V_if_eq (tgt := 133) d_X12_count_121 (by decide) (fun c121 => ?_) (fun c121 => ?_)
  · replace hf := iteF (b2i_nt (b2i_eq0 c121)) hf
    refine V_iconst (v := (-1)) d_X12_count_133 ic_m1 ?_
    refine V_less (ls' := [none, none]) trivial ?_
    exact s_X12_count_j134 hG hf hK
  · replace hf := iteT (b2i_ne0 c121) hf
    refine V_aload_n d_X12_count_124 rfl rfl ?_
    refine B_get k_264 fl_RX12_13 d_X12_count_125 g_12_1 ?_
    refine V_iload_n d_X12_count_128 rfl rfl ?_
    obtain ⟨t2, ht2, hf⟩ := ob hf
    refine B_iald k_265 ht2 d_X12_count_129 ?_
    refine V_goto (tgt := 134) d_X12_count_130 (by decide) ?_
    refine V_less (ls' := [none, none]) trivial ?_
    exact s_X12_count_j134 hG hf hK
theorem s_X12_count_e {G : Gl} (hG : G.1.stackTraces = false) {C : Cx} {n : Nat} {μ : Mem} {p1 : Int32} {r : (Int32 × Mem)} (hf : f_X12_count μ p1 = some r) (hK : FinR G C F_X12_count (some .int) (some (.int r.1)) r.2) : V G C F_X12_count 0 [some (.ref (G.2.1 + 264)), some (.int p1)] [] (pic G μ) n 0 0 := by
  unfold f_X12_count at hf
  refine V_aload_n d_X12_count_0 rfl rfl ?_
  refine V_iconst (v := 0) d_X12_count_1 ic_0 ?_
  refine B_putI k_264 fl_RX12_3 pt_12_0 (Nat.le_of_ble_eq_true rfl) p_12_0 d_X12_count_2 ?_
  refine V_iload_n d_X12_count_5 rfl rfl ?_
  by_cases c6_0 : p1 = 2
  · replace hf := iteT c6_0 hf
    refine V_tabC (q := 2) (off := 50) (tgt := 56) d_X12_count_6 c6_0 (by decide) (by decide) ?_
    refine V_aload_n d_X12_count_56 rfl rfl ?_
    obtain ⟨t1, ht1, hf⟩ := ob hf
    refine B_callV1 (s_X12_hasLaw hG ht1) k_264 clX12 m_X12_hasLaw kv_RX12_287 d_X12_count_57 rfl (Nat.le_of_ble_eq_true rfl) ⟨rfl, rfl, Nat.le_of_ble_eq_true rfl, Nat.le_of_ble_eq_true rfl, Nat.le_of_ble_eq_true rfl⟩ (fun n => ?_)
    refine V_if_eq (tgt := 74) d_X12_count_60 (by decide) (fun c60 => ?_) (fun c60 => ?_)
    · replace hf := iteF (b2i_nt (b2i_eq0 c60)) hf
      refine V_iconst (v := (-1)) d_X12_count_74 ic_m1 ?_
      refine V_less (ls' := [none, none]) trivial ?_
      exact s_X12_count_j75 hG hf hK
    · replace hf := iteT (b2i_ne0 c60) hf
      refine V_aload_n d_X12_count_63 rfl rfl ?_
      refine B_get k_264 fl_RX12_13 d_X12_count_64 g_12_1 ?_
      refine V_sipush (v := 370) d_X12_count_67 sp_370 ?_
      obtain ⟨t2, ht2, hf⟩ := ob hf
      refine B_iald k_265 ht2 d_X12_count_70 ?_
      refine V_goto (tgt := 75) d_X12_count_71 (by decide) ?_
      refine V_less (ls' := [none, none]) trivial ?_
      exact s_X12_count_j75 hG hf hK
  replace hf := iteF c6_0 hf
  by_cases c6_1 : p1 = 3
  · replace hf := iteT c6_1 hf
    refine V_tabC (q := 3) (off := 109) (tgt := 115) d_X12_count_6 c6_1 (by decide) (by decide) ?_
    refine V_less (ls' := [some _, some _]) ⟨rfl, rfl, trivial⟩ ?_
    exact s_X12_count_j115 hG hf hK
  replace hf := iteF c6_1 hf
  by_cases c6_2 : p1 = 4
  · replace hf := iteT c6_2 hf
    refine V_tabC (q := 4) (off := 109) (tgt := 115) d_X12_count_6 c6_2 (by decide) (by decide) ?_
    refine V_less (ls' := [some _, some _]) ⟨rfl, rfl, trivial⟩ ?_
    exact s_X12_count_j115 hG hf hK
  replace hf := iteF c6_2 hf
  by_cases c6_3 : p1 = 5
  · replace hf := iteT c6_3 hf
    refine V_tabC (q := 5) (off := 70) (tgt := 76) d_X12_count_6 c6_3 (by decide) (by decide) ?_
    refine V_aload_n d_X12_count_76 rfl rfl ?_
    obtain ⟨t3, ht3, hf⟩ := ob hf
    refine B_callV1 (s_X12_pledgedOnes hG ht3) k_264 clX12 m_X12_pledgedOnes kv_RX12_389 d_X12_count_77 rfl (Nat.le_of_ble_eq_true rfl) ⟨rfl, rfl, Nat.le_of_ble_eq_true rfl, Nat.le_of_ble_eq_true rfl, Nat.le_of_ble_eq_true rfl⟩ (fun n => ?_)
    cases hf
    exact R_i hK d_X12_count_80 (Nat.le_of_ble_eq_true rfl) (Nat.le_of_ble_eq_true rfl)
  replace hf := iteF c6_3 hf
  by_cases c6_4 : p1 = 6
  · replace hf := iteT c6_4 hf
    refine V_tabC (q := 6) (off := 75) (tgt := 81) d_X12_count_6 c6_4 (by decide) (by decide) ?_
    refine V_aload_n d_X12_count_81 rfl rfl ?_
    refine V_aload_n d_X12_count_82 rfl rfl ?_
    obtain ⟨t4, ht4, hf⟩ := ob hf
    refine B_callV1 (s_X12_pledgedOnes hG ht4) k_264 clX12 m_X12_pledgedOnes kv_RX12_389 d_X12_count_83 rfl (Nat.le_of_ble_eq_true rfl) ⟨rfl, rfl, Nat.le_of_ble_eq_true rfl, Nat.le_of_ble_eq_true rfl, Nat.le_of_ble_eq_true rfl⟩ (fun n => ?_)
    obtain ⟨t5, ht5, hf⟩ := ob hf
    refine B_callV1 (s_X12_amountOf hG ht5) k_264 clX12 m_X12_amountOf kv_RX12_401 d_X12_count_86 rfl (Nat.le_of_ble_eq_true rfl) ⟨rfl, rfl, Nat.le_of_ble_eq_true rfl, Nat.le_of_ble_eq_true rfl, Nat.le_of_ble_eq_true rfl⟩ (fun n => ?_)
    cases hf
    exact R_i hK d_X12_count_89 (Nat.le_of_ble_eq_true rfl) (Nat.le_of_ble_eq_true rfl)
  replace hf := iteF c6_4 hf
  by_cases c6_5 : p1 = 7
  · replace hf := iteT c6_5 hf
    refine V_tabC (q := 7) (off := 84) (tgt := 90) d_X12_count_6 c6_5 (by decide) (by decide) ?_
    refine V_aload_n d_X12_count_90 rfl rfl ?_
    obtain ⟨t6, ht6, hf⟩ := ob hf
    refine B_callV1 (s_X12_pursesOfAll hG ht6) k_264 clX12 m_X12_pursesOfAll kv_RX12_431 d_X12_count_91 rfl (Nat.le_of_ble_eq_true rfl) ⟨rfl, rfl, Nat.le_of_ble_eq_true rfl, Nat.le_of_ble_eq_true rfl, Nat.le_of_ble_eq_true rfl⟩ (fun n => ?_)
    cases hf
    exact R_i hK d_X12_count_94 (Nat.le_of_ble_eq_true rfl) (Nat.le_of_ble_eq_true rfl)
  replace hf := iteF c6_5 hf
  by_cases c6_6 : p1 = 8
  · replace hf := iteT c6_6 hf
    refine V_tabC (q := 8) (off := 89) (tgt := 95) d_X12_count_6 c6_6 (by decide) (by decide) ?_
    refine V_aload_n d_X12_count_95 rfl rfl ?_
    refine B_get k_264 fl_RX12_13 d_X12_count_96 g_12_1 ?_
    refine V_iconst (v := 5) d_X12_count_99 ic_5 ?_
    obtain ⟨t7, ht7, hf⟩ := ob hf
    refine B_iald k_265 ht7 d_X12_count_100 ?_
    cases hf
    exact R_i hK d_X12_count_101 (Nat.le_of_ble_eq_true rfl) (Nat.le_of_ble_eq_true rfl)
  replace hf := iteF c6_6 hf
  by_cases c6_7 : p1 = 9
  · replace hf := iteT c6_7 hf
    refine V_tabC (q := 9) (off := 96) (tgt := 102) d_X12_count_6 c6_7 (by decide) (by decide) ?_
    refine V_aload_n d_X12_count_102 rfl rfl ?_
    refine B_get k_264 fl_RX12_13 d_X12_count_103 g_12_1 ?_
    refine V_bipush (v := 6) d_X12_count_106 bp_6 ?_
    obtain ⟨t8, ht8, hf⟩ := ob hf
    refine B_iald k_265 ht8 d_X12_count_108 ?_
    cases hf
    exact R_i hK d_X12_count_109 (Nat.le_of_ble_eq_true rfl) (Nat.le_of_ble_eq_true rfl)
  replace hf := iteF c6_7 hf
  by_cases c6_8 : p1 = 10
  · replace hf := iteT c6_8 hf
    refine V_tabC (q := 10) (off := 104) (tgt := 110) d_X12_count_6 c6_8 (by decide) (by decide) ?_
    refine V_aload_n d_X12_count_110 rfl rfl ?_
    refine B_get k_264 fl_RX12_56 d_X12_count_111 g_12_7 ?_
    cases hf
    exact R_i hK d_X12_count_114 (Nat.le_of_ble_eq_true rfl) (Nat.le_of_ble_eq_true rfl)
  replace hf := iteF c6_8 hf
  refine V_tabD (ks9 := [2, 3, 4, 5, 6, 7, 8, 9, 10]) (tgt := 115) d_X12_count_6 ⟨c6_0, c6_1, c6_2, c6_3, c6_4, c6_5, c6_6, c6_7, c6_8, trivial⟩ (by decide) (by decide) ?_
  refine V_less (ls' := [some _, some _]) ⟨rfl, rfl, trivial⟩ ?_
  exact s_X12_count_j115 hG hf hK
theorem s_X12_count {G : Gl} (hG : G.1.stackTraces = false) {μ : Mem} {p1 : Int32} {r : (Int32 × Mem)} (hf : f_X12_count μ p1 = some r) : Rt G yX12_count F_X12_count (some .int) [.ref (G.2.1 + 264), .int p1] μ (some (.int r.1)) r.2 := fun n => Sd.of hG ⟨by decide +kernel, rfl, rfl⟩ rfl (Nat.le_of_ble_eq_true rfl) rfl (fun C hK => s_X12_count_e hG hf hK)
theorem d_L_land_0 : decode cL_land 0 = .ok (.aload_n 1, 1) := by decide +kernel
theorem d_L_land_1 : decode cL_land 1 = .ok (.iconst 0, 1) := by decide +kernel
theorem d_L_land_2 : decode cL_land 2 = .ok (.aload_n 0, 1) := by decide +kernel
theorem d_L_land_3 : decode cL_land 3 = .ok (.invokevirtual 7, 3) := by decide +kernel
theorem d_L_land_6 : decode cL_land 6 = .ok (.i2l, 1) := by decide +kernel
theorem d_L_land_7 : decode cL_land 7 = .ok (.lastore, 1) := by decide +kernel
theorem d_L_land_8 : decode cL_land 8 = .ok (.goto 9, 3) := by decide +kernel
theorem d_L_land_11 : decode cL_land 11 = .ok (.astore_n 2, 1) := by decide +kernel
theorem d_L_land_12 : decode cL_land 12 = .ok (.iconst 1, 1) := by decide +kernel
theorem d_L_land_13 : decode cL_land 13 = .ok (.ireturn, 1) := by decide +kernel
theorem d_L_land_14 : decode cL_land 14 = .ok (.astore_n 2, 1) := by decide +kernel
theorem d_L_land_15 : decode cL_land 15 = .ok (.iconst 2, 1) := by decide +kernel
theorem d_L_land_16 : decode cL_land 16 = .ok (.ireturn, 1) := by decide +kernel
theorem d_L_land_17 : decode cL_land 17 = .ok (.iconst 0, 1) := by decide +kernel
theorem d_L_land_18 : decode cL_land 18 = .ok (.ireturn, 1) := by decide +kernel
theorem s_L_land_e {G : Gl} (hG : G.1.stackTraces = false) {C : Cx} {n : Nat} {μ : Mem}  {r : (Int32 × Mem)} (hf : f_L_land μ = some r) (hK : FinR G C F_L_land (some .int) (some (.int r.1)) r.2) : V G C F_L_land 0 [some (.ref (G.2.1 + 0)), some (.ref (G.2.1 + 275)), none] [] (pic G μ) n 0 0 := by
  unfold f_L_land at hf
  refine V_aload_n d_L_land_0 rfl rfl ?_
  refine V_iconst (v := 0) d_L_land_1 ic_0 ?_
  refine V_aload_n d_L_land_2 rfl rfl ?_
  obtain ⟨q1, hq1, hf⟩ := ob hf
  cases q1 with
  | inl e9 =>
    obtain ⟨k9, μ9⟩ := e9
    replace hf := elimL hf
    by_cases cx3_0 : k9 = 1
    · subst cx3_0
      replace hf := iteT rfl hf
      refine B_callVXt (kc' := 2) (ks' := 12) (s_X11_land hG hq1) k_0 clX11 m_X11_land kv_RL_7 d_L_land_3 rfl (Nat.le_of_ble_eq_true rfl) ⟨rfl, rfl, Nat.le_of_ble_eq_true rfl, Nat.le_of_ble_eq_true rfl, Nat.le_of_ble_eq_true rfl⟩ (fun n => ?_)
      refine VX_catch [] (0, 8, 11, 13) [(0, 8, 14, 15)] rfl (fun z hz => absurd hz List.not_mem_nil) (by decide) (by decide) w_582 (List.mem_of_getElem? (i := 1) rfl) (fun q9 => ?_)
      refine V_astore_n (ls' := [_, _, _]) d_L_land_11 rfl rfl rfl ?_
      refine V_iconst (v := 1) d_L_land_12 ic_1 ?_
      cases hf
      exact R_i hK d_L_land_13 (Nat.le_of_ble_eq_true rfl) (Nat.le_of_ble_eq_true rfl)
    replace hf := iteF cx3_0 hf
    by_cases cx3_1 : k9 = 5
    · subst cx3_1
      replace hf := iteT rfl hf
      refine B_callVXt (kc' := 2) (ks' := 12) (s_X11_land hG hq1) k_0 clX11 m_X11_land kv_RL_7 d_L_land_3 rfl (Nat.le_of_ble_eq_true rfl) ⟨rfl, rfl, Nat.le_of_ble_eq_true rfl, Nat.le_of_ble_eq_true rfl, Nat.le_of_ble_eq_true rfl⟩ (fun n => ?_)
      refine VX_catch [(0, 8, 11, 13)] (0, 8, 14, 15) [] rfl (all9_mem (l := [(0, 8, 11, 13)]) ⟨⟨by decide, "java/lang/IllegalArgumentException", w_582, List.mem_of_getElem? (i := 0) rfl⟩, trivial⟩) (by decide) (by decide) w_583 (List.mem_of_getElem? (i := 0) rfl) (fun q9 => ?_)
      refine V_astore_n (ls' := [_, _, _]) d_L_land_14 rfl rfl rfl ?_
      refine V_iconst (v := 2) d_L_land_15 ic_2 ?_
      cases hf
      exact R_i hK d_L_land_16 (Nat.le_of_ble_eq_true rfl) (Nat.le_of_ble_eq_true rfl)
    replace hf := iteF cx3_1 hf
    cases hf
  | inr v2 =>
    replace hf := elimR hf
    refine B_callVX1 (kc' := 2) (ks' := 12) (s_X11_land hG hq1) k_0 clX11 m_X11_land kv_RL_7 d_L_land_3 rfl (Nat.le_of_ble_eq_true rfl) ⟨rfl, rfl, Nat.le_of_ble_eq_true rfl, Nat.le_of_ble_eq_true rfl, Nat.le_of_ble_eq_true rfl⟩ (fun n => ?_)
    refine V_i2l d_L_land_6 ?_
    obtain ⟨μ3, hμ3, hf⟩ := ob hf
    refine B_last k_275 hμ3 d_L_land_7 ?_
    refine V_goto (tgt := 17) d_L_land_8 (by decide) ?_
    refine V_iconst (v := 0) d_L_land_17 ic_0 ?_
    cases hf
    exact R_i hK d_L_land_18 (Nat.le_of_ble_eq_true rfl) (Nat.le_of_ble_eq_true rfl)
theorem s_L_land {G : Gl} (hG : G.1.stackTraces = false) {μ : Mem} {r : (Int32 × Mem)} (hf : f_L_land μ = some r) : RtH G yL_land F_L_land (some .int) [.ref (G.2.1 + 0), .ref (G.2.1 + 275)] μ (some (.int r.1)) r.2 := fun n => Sd.ofH hG ⟨by decide +kernel, rfl⟩ rfl (Nat.le_of_ble_eq_true rfl) rfl (fun C hK => s_L_land_e hG hf hK)
theorem d_L_law_0 : decode cL_law 0 = .ok (.aload_n 1, 1) := by decide +kernel
theorem d_L_law_1 : decode cL_law 1 = .ok (.iconst 0, 1) := by decide +kernel
theorem d_L_law_2 : decode cL_law 2 = .ok (.aload_n 0, 1) := by decide +kernel
theorem d_L_law_3 : decode cL_law 3 = .ok (.invokevirtual 17, 3) := by decide +kernel
theorem d_L_law_6 : decode cL_law 6 = .ok (.i2l, 1) := by decide +kernel
theorem d_L_law_7 : decode cL_law 7 = .ok (.lastore, 1) := by decide +kernel
theorem d_L_law_8 : decode cL_law 8 = .ok (.goto 6, 3) := by decide +kernel
theorem d_L_law_11 : decode cL_law 11 = .ok (.astore_n 2, 1) := by decide +kernel
theorem d_L_law_12 : decode cL_law 12 = .ok (.iconst 1, 1) := by decide +kernel
theorem d_L_law_13 : decode cL_law 13 = .ok (.ireturn, 1) := by decide +kernel
theorem d_L_law_14 : decode cL_law 14 = .ok (.iconst 0, 1) := by decide +kernel
theorem d_L_law_15 : decode cL_law 15 = .ok (.ireturn, 1) := by decide +kernel
theorem s_L_law_e {G : Gl} (hG : G.1.stackTraces = false) {C : Cx} {n : Nat} {μ : Mem}  {r : (Int32 × Mem)} (hf : f_L_law μ = some r) (hK : FinR G C F_L_law (some .int) (some (.int r.1)) r.2) : V G C F_L_law 0 [some (.ref (G.2.1 + 0)), some (.ref (G.2.1 + 275)), none] [] (pic G μ) n 0 0 := by
  unfold f_L_law at hf
  refine V_aload_n d_L_law_0 rfl rfl ?_
  refine V_iconst (v := 0) d_L_law_1 ic_0 ?_
  refine V_aload_n d_L_law_2 rfl rfl ?_
  obtain ⟨q1, hq1, hf⟩ := ob hf
  cases q1 with
  | inl e9 =>
    obtain ⟨k9, μ9⟩ := e9
    replace hf := elimL hf
    by_cases cx3_0 : k9 = 1
    · subst cx3_0
      replace hf := iteT rfl hf
      refine B_callVXt (kc' := 1) (ks' := 6) (s_X11_law hG hq1) k_0 clX11 m_X11_law kv_RL_17 d_L_law_3 rfl (Nat.le_of_ble_eq_true rfl) ⟨rfl, rfl, Nat.le_of_ble_eq_true rfl, Nat.le_of_ble_eq_true rfl, Nat.le_of_ble_eq_true rfl⟩ (fun n => ?_)
      refine VX_catch [] (0, 8, 11, 13) [] rfl (fun z hz => absurd hz List.not_mem_nil) (by decide) (by decide) w_582 (List.mem_of_getElem? (i := 1) rfl) (fun q9 => ?_)
      refine V_astore_n (ls' := [_, _, _]) d_L_law_11 rfl rfl rfl ?_
      refine V_iconst (v := 1) d_L_law_12 ic_1 ?_
      cases hf
      exact R_i hK d_L_law_13 (Nat.le_of_ble_eq_true rfl) (Nat.le_of_ble_eq_true rfl)
    replace hf := iteF cx3_0 hf
    cases hf
  | inr v2 =>
    replace hf := elimR hf
    refine B_callVX1 (kc' := 1) (ks' := 6) (s_X11_law hG hq1) k_0 clX11 m_X11_law kv_RL_17 d_L_law_3 rfl (Nat.le_of_ble_eq_true rfl) ⟨rfl, rfl, Nat.le_of_ble_eq_true rfl, Nat.le_of_ble_eq_true rfl, Nat.le_of_ble_eq_true rfl⟩ (fun n => ?_)
    refine V_i2l d_L_law_6 ?_
    obtain ⟨μ3, hμ3, hf⟩ := ob hf
    refine B_last k_275 hμ3 d_L_law_7 ?_
    refine V_goto (tgt := 14) d_L_law_8 (by decide) ?_
    refine V_iconst (v := 0) d_L_law_14 ic_0 ?_
    cases hf
    exact R_i hK d_L_law_15 (Nat.le_of_ble_eq_true rfl) (Nat.le_of_ble_eq_true rfl)
theorem s_L_law {G : Gl} (hG : G.1.stackTraces = false) {μ : Mem} {r : (Int32 × Mem)} (hf : f_L_law μ = some r) : RtH G yL_law F_L_law (some .int) [.ref (G.2.1 + 0), .ref (G.2.1 + 275)] μ (some (.int r.1)) r.2 := fun n => Sd.ofH hG ⟨by decide +kernel, rfl⟩ rfl (Nat.le_of_ble_eq_true rfl) rfl (fun C hK => s_L_law_e hG hf hK)
theorem d_L_person_0 : decode cL_person 0 = .ok (.aload_n 3, 1) := by decide +kernel
theorem d_L_person_1 : decode cL_person 1 = .ok (.iconst 0, 1) := by decide +kernel
theorem d_L_person_2 : decode cL_person 2 = .ok (.aload_n 0, 1) := by decide +kernel
theorem d_L_person_3 : decode cL_person 3 = .ok (.iload_n 1, 1) := by decide +kernel
theorem d_L_person_4 : decode cL_person 4 = .ok (.iload_n 2, 1) := by decide +kernel
theorem d_L_person_5 : decode cL_person 5 = .ok (.invokevirtual 20, 3) := by decide +kernel
theorem d_L_person_8 : decode cL_person 8 = .ok (.i2l, 1) := by decide +kernel
theorem d_L_person_9 : decode cL_person 9 = .ok (.lastore, 1) := by decide +kernel
theorem d_L_person_10 : decode cL_person 10 = .ok (.goto 11, 3) := by decide +kernel
theorem d_L_person_13 : decode cL_person 13 = .ok (.astore 4, 2) := by decide +kernel
theorem d_L_person_15 : decode cL_person 15 = .ok (.iconst 1, 1) := by decide +kernel
theorem d_L_person_16 : decode cL_person 16 = .ok (.ireturn, 1) := by decide +kernel
theorem d_L_person_17 : decode cL_person 17 = .ok (.astore 4, 2) := by decide +kernel
theorem d_L_person_19 : decode cL_person 19 = .ok (.iconst 2, 1) := by decide +kernel
theorem d_L_person_20 : decode cL_person 20 = .ok (.ireturn, 1) := by decide +kernel
theorem d_L_person_21 : decode cL_person 21 = .ok (.iconst 0, 1) := by decide +kernel
theorem d_L_person_22 : decode cL_person 22 = .ok (.ireturn, 1) := by decide +kernel
theorem s_L_person_e {G : Gl} (hG : G.1.stackTraces = false) {C : Cx} {n : Nat} {μ : Mem} {p1 : Int32} {p2 : Int32} {r : (Int32 × Mem)} (hf : f_L_person μ p1 p2 = some r) (hK : FinR G C F_L_person (some .int) (some (.int r.1)) r.2) : V G C F_L_person 0 [some (.ref (G.2.1 + 0)), some (.int p1), some (.int p2), some (.ref (G.2.1 + 275)), none] [] (pic G μ) n 0 0 := by
  unfold f_L_person at hf
  refine V_aload_n d_L_person_0 rfl rfl ?_
  refine V_iconst (v := 0) d_L_person_1 ic_0 ?_
  refine V_aload_n d_L_person_2 rfl rfl ?_
  refine V_iload_n d_L_person_3 rfl rfl ?_
  refine V_iload_n d_L_person_4 rfl rfl ?_
  obtain ⟨q1, hq1, hf⟩ := ob hf
  cases q1 with
  | inl e9 =>
    obtain ⟨k9, μ9⟩ := e9
    replace hf := elimL hf
    by_cases cx5_0 : k9 = 2
    · subst cx5_0
      replace hf := iteT rfl hf
      refine B_callVXt (kc' := 2) (ks' := 12) (s_X11_person hG hq1) k_0 clX11 m_X11_person kv_RL_20 d_L_person_5 rfl (Nat.le_of_ble_eq_true rfl) ⟨rfl, rfl, Nat.le_of_ble_eq_true rfl, Nat.le_of_ble_eq_true rfl, Nat.le_of_ble_eq_true rfl⟩ (fun n => ?_)
      refine VX_catch [] (0, 10, 13, 24) [(0, 10, 17, 26)] rfl (fun z hz => absurd hz List.not_mem_nil) (by decide) (by decide) w_926 (List.mem_of_getElem? (i := 2) rfl) (fun q9 => ?_)
      refine V_astore (ls' := [_, _, _, _, _]) d_L_person_13 rfl rfl ?_
      refine V_iconst (v := 1) d_L_person_15 ic_1 ?_
      cases hf
      exact R_i hK d_L_person_16 (Nat.le_of_ble_eq_true rfl) (Nat.le_of_ble_eq_true rfl)
    replace hf := iteF cx5_0 hf
    by_cases cx5_1 : k9 = 4
    · subst cx5_1
      replace hf := iteT rfl hf
      refine B_callVXt (kc' := 2) (ks' := 12) (s_X11_person hG hq1) k_0 clX11 m_X11_person kv_RL_20 d_L_person_5 rfl (Nat.le_of_ble_eq_true rfl) ⟨rfl, rfl, Nat.le_of_ble_eq_true rfl, Nat.le_of_ble_eq_true rfl, Nat.le_of_ble_eq_true rfl⟩ (fun n => ?_)
      refine VX_catch [(0, 10, 13, 24)] (0, 10, 17, 26) [] rfl (all9_mem (l := [(0, 10, 13, 24)]) ⟨⟨by decide, "java/lang/IndexOutOfBoundsException", w_926, List.mem_of_getElem? (i := 1) rfl⟩, trivial⟩) (by decide) (by decide) w_927 (List.mem_of_getElem? (i := 3) rfl) (fun q9 => ?_)
      refine V_astore (ls' := [_, _, _, _, _]) d_L_person_17 rfl rfl ?_
      refine V_iconst (v := 2) d_L_person_19 ic_2 ?_
      cases hf
      exact R_i hK d_L_person_20 (Nat.le_of_ble_eq_true rfl) (Nat.le_of_ble_eq_true rfl)
    replace hf := iteF cx5_1 hf
    cases hf
  | inr v2 =>
    replace hf := elimR hf
    refine B_callVX1 (kc' := 2) (ks' := 12) (s_X11_person hG hq1) k_0 clX11 m_X11_person kv_RL_20 d_L_person_5 rfl (Nat.le_of_ble_eq_true rfl) ⟨rfl, rfl, Nat.le_of_ble_eq_true rfl, Nat.le_of_ble_eq_true rfl, Nat.le_of_ble_eq_true rfl⟩ (fun n => ?_)
    refine V_i2l d_L_person_8 ?_
    obtain ⟨μ3, hμ3, hf⟩ := ob hf
    refine B_last k_275 hμ3 d_L_person_9 ?_
    refine V_goto (tgt := 21) d_L_person_10 (by decide) ?_
    refine V_iconst (v := 0) d_L_person_21 ic_0 ?_
    cases hf
    exact R_i hK d_L_person_22 (Nat.le_of_ble_eq_true rfl) (Nat.le_of_ble_eq_true rfl)
theorem s_L_person {G : Gl} (hG : G.1.stackTraces = false) {μ : Mem} {p1 : Int32} {p2 : Int32} {r : (Int32 × Mem)} (hf : f_L_person μ p1 p2 = some r) : RtH G yL_person F_L_person (some .int) [.ref (G.2.1 + 0), .int p1, .int p2, .ref (G.2.1 + 275)] μ (some (.int r.1)) r.2 := fun n => Sd.ofH hG ⟨by decide +kernel, rfl⟩ rfl (Nat.le_of_ble_eq_true rfl) rfl (fun C hK => s_L_person_e hG hf hK)
theorem d_L_lace_0 : decode cL_lace 0 = .ok (.aload_n 3, 1) := by decide +kernel
theorem d_L_lace_1 : decode cL_lace 1 = .ok (.iconst 0, 1) := by decide +kernel
theorem d_L_lace_2 : decode cL_lace 2 = .ok (.aload_n 0, 1) := by decide +kernel
theorem d_L_lace_3 : decode cL_lace 3 = .ok (.iload_n 1, 1) := by decide +kernel
theorem d_L_lace_4 : decode cL_lace 4 = .ok (.iload_n 2, 1) := by decide +kernel
theorem d_L_lace_5 : decode cL_lace 5 = .ok (.invokevirtual 28, 3) := by decide +kernel
theorem d_L_lace_8 : decode cL_lace 8 = .ok (.i2l, 1) := by decide +kernel
theorem d_L_lace_9 : decode cL_lace 9 = .ok (.lastore, 1) := by decide +kernel
theorem d_L_lace_10 : decode cL_lace 10 = .ok (.goto 11, 3) := by decide +kernel
theorem d_L_lace_13 : decode cL_lace 13 = .ok (.astore 4, 2) := by decide +kernel
theorem d_L_lace_15 : decode cL_lace 15 = .ok (.iconst 1, 1) := by decide +kernel
theorem d_L_lace_16 : decode cL_lace 16 = .ok (.ireturn, 1) := by decide +kernel
theorem d_L_lace_17 : decode cL_lace 17 = .ok (.astore 4, 2) := by decide +kernel
theorem d_L_lace_19 : decode cL_lace 19 = .ok (.iconst 2, 1) := by decide +kernel
theorem d_L_lace_20 : decode cL_lace 20 = .ok (.ireturn, 1) := by decide +kernel
theorem d_L_lace_21 : decode cL_lace 21 = .ok (.iconst 0, 1) := by decide +kernel
theorem d_L_lace_22 : decode cL_lace 22 = .ok (.ireturn, 1) := by decide +kernel
theorem s_L_lace_e {G : Gl} (hG : G.1.stackTraces = false) {C : Cx} {n : Nat} {μ : Mem} {p1 : Int32} {p2 : Int32} {r : (Int32 × Mem)} (hf : f_L_lace μ p1 p2 = some r) (hK : FinR G C F_L_lace (some .int) (some (.int r.1)) r.2) : V G C F_L_lace 0 [some (.ref (G.2.1 + 0)), some (.int p1), some (.int p2), some (.ref (G.2.1 + 275)), none] [] (pic G μ) n 0 0 := by
  unfold f_L_lace at hf
  refine V_aload_n d_L_lace_0 rfl rfl ?_
  refine V_iconst (v := 0) d_L_lace_1 ic_0 ?_
  refine V_aload_n d_L_lace_2 rfl rfl ?_
  refine V_iload_n d_L_lace_3 rfl rfl ?_
  refine V_iload_n d_L_lace_4 rfl rfl ?_
  obtain ⟨q1, hq1, hf⟩ := ob hf
  cases q1 with
  | inl e9 =>
    obtain ⟨k9, μ9⟩ := e9
    replace hf := elimL hf
    by_cases cx5_0 : k9 = 2
    · subst cx5_0
      replace hf := iteT rfl hf
      refine B_callVXt (kc' := 2) (ks' := 12) (s_X11_lace hG hq1) k_0 clX11 m_X11_lace kv_RL_28 d_L_lace_5 rfl (Nat.le_of_ble_eq_true rfl) ⟨rfl, rfl, Nat.le_of_ble_eq_true rfl, Nat.le_of_ble_eq_true rfl, Nat.le_of_ble_eq_true rfl⟩ (fun n => ?_)
      refine VX_catch [] (0, 10, 13, 24) [(0, 10, 17, 26)] rfl (fun z hz => absurd hz List.not_mem_nil) (by decide) (by decide) w_926 (List.mem_of_getElem? (i := 2) rfl) (fun q9 => ?_)
      refine V_astore (ls' := [_, _, _, _, _]) d_L_lace_13 rfl rfl ?_
      refine V_iconst (v := 1) d_L_lace_15 ic_1 ?_
      cases hf
      exact R_i hK d_L_lace_16 (Nat.le_of_ble_eq_true rfl) (Nat.le_of_ble_eq_true rfl)
    replace hf := iteF cx5_0 hf
    by_cases cx5_1 : k9 = 4
    · subst cx5_1
      replace hf := iteT rfl hf
      refine B_callVXt (kc' := 2) (ks' := 12) (s_X11_lace hG hq1) k_0 clX11 m_X11_lace kv_RL_28 d_L_lace_5 rfl (Nat.le_of_ble_eq_true rfl) ⟨rfl, rfl, Nat.le_of_ble_eq_true rfl, Nat.le_of_ble_eq_true rfl, Nat.le_of_ble_eq_true rfl⟩ (fun n => ?_)
      refine VX_catch [(0, 10, 13, 24)] (0, 10, 17, 26) [] rfl (all9_mem (l := [(0, 10, 13, 24)]) ⟨⟨by decide, "java/lang/IndexOutOfBoundsException", w_926, List.mem_of_getElem? (i := 1) rfl⟩, trivial⟩) (by decide) (by decide) w_927 (List.mem_of_getElem? (i := 3) rfl) (fun q9 => ?_)
      refine V_astore (ls' := [_, _, _, _, _]) d_L_lace_17 rfl rfl ?_
      refine V_iconst (v := 2) d_L_lace_19 ic_2 ?_
      cases hf
      exact R_i hK d_L_lace_20 (Nat.le_of_ble_eq_true rfl) (Nat.le_of_ble_eq_true rfl)
    replace hf := iteF cx5_1 hf
    cases hf
  | inr v2 =>
    replace hf := elimR hf
    refine B_callVX1 (kc' := 2) (ks' := 12) (s_X11_lace hG hq1) k_0 clX11 m_X11_lace kv_RL_28 d_L_lace_5 rfl (Nat.le_of_ble_eq_true rfl) ⟨rfl, rfl, Nat.le_of_ble_eq_true rfl, Nat.le_of_ble_eq_true rfl, Nat.le_of_ble_eq_true rfl⟩ (fun n => ?_)
    refine V_i2l d_L_lace_8 ?_
    obtain ⟨μ3, hμ3, hf⟩ := ob hf
    refine B_last k_275 hμ3 d_L_lace_9 ?_
    refine V_goto (tgt := 21) d_L_lace_10 (by decide) ?_
    refine V_iconst (v := 0) d_L_lace_21 ic_0 ?_
    cases hf
    exact R_i hK d_L_lace_22 (Nat.le_of_ble_eq_true rfl) (Nat.le_of_ble_eq_true rfl)
theorem s_L_lace {G : Gl} (hG : G.1.stackTraces = false) {μ : Mem} {p1 : Int32} {p2 : Int32} {r : (Int32 × Mem)} (hf : f_L_lace μ p1 p2 = some r) : RtH G yL_lace F_L_lace (some .int) [.ref (G.2.1 + 0), .int p1, .int p2, .ref (G.2.1 + 275)] μ (some (.int r.1)) r.2 := fun n => Sd.ofH hG ⟨by decide +kernel, rfl⟩ rfl (Nat.le_of_ble_eq_true rfl) rfl (fun C hK => s_L_lace_e hG hf hK)
theorem d_L_mud_0 : decode cL_mud 0 = .ok (.aload_n 2, 1) := by decide +kernel
theorem d_L_mud_1 : decode cL_mud 1 = .ok (.iconst 0, 1) := by decide +kernel
theorem d_L_mud_2 : decode cL_mud 2 = .ok (.aload_n 0, 1) := by decide +kernel
theorem d_L_mud_3 : decode cL_mud 3 = .ok (.iload_n 1, 1) := by decide +kernel
theorem d_L_mud_4 : decode cL_mud 4 = .ok (.invokevirtual 31, 3) := by decide +kernel
theorem d_L_mud_7 : decode cL_mud 7 = .ok (.i2l, 1) := by decide +kernel
theorem d_L_mud_8 : decode cL_mud 8 = .ok (.lastore, 1) := by decide +kernel
theorem d_L_mud_9 : decode cL_mud 9 = .ok (.goto 6, 3) := by decide +kernel
theorem d_L_mud_12 : decode cL_mud 12 = .ok (.astore_n 3, 1) := by decide +kernel
theorem d_L_mud_13 : decode cL_mud 13 = .ok (.iconst 1, 1) := by decide +kernel
theorem d_L_mud_14 : decode cL_mud 14 = .ok (.ireturn, 1) := by decide +kernel
theorem d_L_mud_15 : decode cL_mud 15 = .ok (.iconst 0, 1) := by decide +kernel
theorem d_L_mud_16 : decode cL_mud 16 = .ok (.ireturn, 1) := by decide +kernel
theorem s_L_mud_e {G : Gl} (hG : G.1.stackTraces = false) {C : Cx} {n : Nat} {μ : Mem} {p1 : Int32} {r : (Int32 × Mem)} (hf : f_L_mud μ p1 = some r) (hK : FinR G C F_L_mud (some .int) (some (.int r.1)) r.2) : V G C F_L_mud 0 [some (.ref (G.2.1 + 0)), some (.int p1), some (.ref (G.2.1 + 275)), none] [] (pic G μ) n 0 0 := by
  unfold f_L_mud at hf
  refine V_aload_n d_L_mud_0 rfl rfl ?_
  refine V_iconst (v := 0) d_L_mud_1 ic_0 ?_
  refine V_aload_n d_L_mud_2 rfl rfl ?_
  refine V_iload_n d_L_mud_3 rfl rfl ?_
  obtain ⟨q1, hq1, hf⟩ := ob hf
  cases q1 with
  | inl e9 =>
    obtain ⟨k9, μ9⟩ := e9
    replace hf := elimL hf
    by_cases cx4_0 : k9 = 2
    · subst cx4_0
      replace hf := iteT rfl hf
      refine B_callVXt (kc' := 1) (ks' := 6) (s_X11_mud hG hq1) k_0 clX11 m_X11_mud kv_RL_31 d_L_mud_4 rfl (Nat.le_of_ble_eq_true rfl) ⟨rfl, rfl, Nat.le_of_ble_eq_true rfl, Nat.le_of_ble_eq_true rfl, Nat.le_of_ble_eq_true rfl⟩ (fun n => ?_)
      refine VX_catch [] (0, 9, 12, 24) [] rfl (fun z hz => absurd hz List.not_mem_nil) (by decide) (by decide) w_926 (List.mem_of_getElem? (i := 2) rfl) (fun q9 => ?_)
      refine V_astore_n (ls' := [_, _, _, _]) d_L_mud_12 rfl rfl rfl ?_
      refine V_iconst (v := 1) d_L_mud_13 ic_1 ?_
      cases hf
      exact R_i hK d_L_mud_14 (Nat.le_of_ble_eq_true rfl) (Nat.le_of_ble_eq_true rfl)
    replace hf := iteF cx4_0 hf
    cases hf
  | inr v2 =>
    replace hf := elimR hf
    refine B_callVX1 (kc' := 1) (ks' := 6) (s_X11_mud hG hq1) k_0 clX11 m_X11_mud kv_RL_31 d_L_mud_4 rfl (Nat.le_of_ble_eq_true rfl) ⟨rfl, rfl, Nat.le_of_ble_eq_true rfl, Nat.le_of_ble_eq_true rfl, Nat.le_of_ble_eq_true rfl⟩ (fun n => ?_)
    refine V_i2l d_L_mud_7 ?_
    obtain ⟨μ3, hμ3, hf⟩ := ob hf
    refine B_last k_275 hμ3 d_L_mud_8 ?_
    refine V_goto (tgt := 15) d_L_mud_9 (by decide) ?_
    refine V_iconst (v := 0) d_L_mud_15 ic_0 ?_
    cases hf
    exact R_i hK d_L_mud_16 (Nat.le_of_ble_eq_true rfl) (Nat.le_of_ble_eq_true rfl)
theorem s_L_mud {G : Gl} (hG : G.1.stackTraces = false) {μ : Mem} {p1 : Int32} {r : (Int32 × Mem)} (hf : f_L_mud μ p1 = some r) : RtH G yL_mud F_L_mud (some .int) [.ref (G.2.1 + 0), .int p1, .ref (G.2.1 + 275)] μ (some (.int r.1)) r.2 := fun n => Sd.ofH hG ⟨by decide +kernel, rfl⟩ rfl (Nat.le_of_ble_eq_true rfl) rfl (fun C hK => s_L_mud_e hG hf hK)
theorem d_L_walks_0 : decode cL_walks 0 = .ok (.aload_n 3, 1) := by decide +kernel
theorem d_L_walks_1 : decode cL_walks 1 = .ok (.iconst 0, 1) := by decide +kernel
theorem d_L_walks_2 : decode cL_walks 2 = .ok (.aload_n 0, 1) := by decide +kernel
theorem d_L_walks_3 : decode cL_walks 3 = .ok (.iload_n 1, 1) := by decide +kernel
theorem d_L_walks_4 : decode cL_walks 4 = .ok (.iload_n 2, 1) := by decide +kernel
theorem d_L_walks_5 : decode cL_walks 5 = .ok (.invokevirtual 35, 3) := by decide +kernel
theorem d_L_walks_8 : decode cL_walks 8 = .ok (.i2l, 1) := by decide +kernel
theorem d_L_walks_9 : decode cL_walks 9 = .ok (.lastore, 1) := by decide +kernel
theorem d_L_walks_10 : decode cL_walks 10 = .ok (.goto 11, 3) := by decide +kernel
theorem d_L_walks_13 : decode cL_walks 13 = .ok (.astore 4, 2) := by decide +kernel
theorem d_L_walks_15 : decode cL_walks 15 = .ok (.iconst 1, 1) := by decide +kernel
theorem d_L_walks_16 : decode cL_walks 16 = .ok (.ireturn, 1) := by decide +kernel
theorem d_L_walks_17 : decode cL_walks 17 = .ok (.astore 4, 2) := by decide +kernel
theorem d_L_walks_19 : decode cL_walks 19 = .ok (.iconst 2, 1) := by decide +kernel
theorem d_L_walks_20 : decode cL_walks 20 = .ok (.ireturn, 1) := by decide +kernel
theorem d_L_walks_21 : decode cL_walks 21 = .ok (.iconst 0, 1) := by decide +kernel
theorem d_L_walks_22 : decode cL_walks 22 = .ok (.ireturn, 1) := by decide +kernel
theorem s_L_walks_e {G : Gl} (hG : G.1.stackTraces = false) {C : Cx} {n : Nat} {μ : Mem} {p1 : Int32} {p2 : Int32} {r : (Int32 × Mem)} (hf : f_L_walks μ p1 p2 = some r) (hK : FinR G C F_L_walks (some .int) (some (.int r.1)) r.2) : V G C F_L_walks 0 [some (.ref (G.2.1 + 0)), some (.int p1), some (.int p2), some (.ref (G.2.1 + 275)), none] [] (pic G μ) n 0 0 := by
  unfold f_L_walks at hf
  refine V_aload_n d_L_walks_0 rfl rfl ?_
  refine V_iconst (v := 0) d_L_walks_1 ic_0 ?_
  refine V_aload_n d_L_walks_2 rfl rfl ?_
  refine V_iload_n d_L_walks_3 rfl rfl ?_
  refine V_iload_n d_L_walks_4 rfl rfl ?_
  obtain ⟨q1, hq1, hf⟩ := ob hf
  cases q1 with
  | inl e9 =>
    obtain ⟨k9, μ9⟩ := e9
    replace hf := elimL hf
    by_cases cx5_0 : k9 = 2
    · subst cx5_0
      replace hf := iteT rfl hf
      refine B_callVXt (kc' := 2) (ks' := 12) (s_X11_walks hG hq1) k_0 clX11 m_X11_walks kv_RL_35 d_L_walks_5 rfl (Nat.le_of_ble_eq_true rfl) ⟨rfl, rfl, Nat.le_of_ble_eq_true rfl, Nat.le_of_ble_eq_true rfl, Nat.le_of_ble_eq_true rfl⟩ (fun n => ?_)
      refine VX_catch [] (0, 10, 13, 24) [(0, 10, 17, 26)] rfl (fun z hz => absurd hz List.not_mem_nil) (by decide) (by decide) w_926 (List.mem_of_getElem? (i := 2) rfl) (fun q9 => ?_)
      refine V_astore (ls' := [_, _, _, _, _]) d_L_walks_13 rfl rfl ?_
      refine V_iconst (v := 1) d_L_walks_15 ic_1 ?_
      cases hf
      exact R_i hK d_L_walks_16 (Nat.le_of_ble_eq_true rfl) (Nat.le_of_ble_eq_true rfl)
    replace hf := iteF cx5_0 hf
    by_cases cx5_1 : k9 = 4
    · subst cx5_1
      replace hf := iteT rfl hf
      refine B_callVXt (kc' := 2) (ks' := 12) (s_X11_walks hG hq1) k_0 clX11 m_X11_walks kv_RL_35 d_L_walks_5 rfl (Nat.le_of_ble_eq_true rfl) ⟨rfl, rfl, Nat.le_of_ble_eq_true rfl, Nat.le_of_ble_eq_true rfl, Nat.le_of_ble_eq_true rfl⟩ (fun n => ?_)
      refine VX_catch [(0, 10, 13, 24)] (0, 10, 17, 26) [] rfl (all9_mem (l := [(0, 10, 13, 24)]) ⟨⟨by decide, "java/lang/IndexOutOfBoundsException", w_926, List.mem_of_getElem? (i := 1) rfl⟩, trivial⟩) (by decide) (by decide) w_927 (List.mem_of_getElem? (i := 3) rfl) (fun q9 => ?_)
      refine V_astore (ls' := [_, _, _, _, _]) d_L_walks_17 rfl rfl ?_
      refine V_iconst (v := 2) d_L_walks_19 ic_2 ?_
      cases hf
      exact R_i hK d_L_walks_20 (Nat.le_of_ble_eq_true rfl) (Nat.le_of_ble_eq_true rfl)
    replace hf := iteF cx5_1 hf
    cases hf
  | inr v2 =>
    replace hf := elimR hf
    refine B_callVX1 (kc' := 2) (ks' := 12) (s_X11_walks hG hq1) k_0 clX11 m_X11_walks kv_RL_35 d_L_walks_5 rfl (Nat.le_of_ble_eq_true rfl) ⟨rfl, rfl, Nat.le_of_ble_eq_true rfl, Nat.le_of_ble_eq_true rfl, Nat.le_of_ble_eq_true rfl⟩ (fun n => ?_)
    refine V_i2l d_L_walks_8 ?_
    obtain ⟨μ3, hμ3, hf⟩ := ob hf
    refine B_last k_275 hμ3 d_L_walks_9 ?_
    refine V_goto (tgt := 21) d_L_walks_10 (by decide) ?_
    refine V_iconst (v := 0) d_L_walks_21 ic_0 ?_
    cases hf
    exact R_i hK d_L_walks_22 (Nat.le_of_ble_eq_true rfl) (Nat.le_of_ble_eq_true rfl)
theorem s_L_walks {G : Gl} (hG : G.1.stackTraces = false) {μ : Mem} {p1 : Int32} {p2 : Int32} {r : (Int32 × Mem)} (hf : f_L_walks μ p1 p2 = some r) : RtH G yL_walks F_L_walks (some .int) [.ref (G.2.1 + 0), .int p1, .int p2, .ref (G.2.1 + 275)] μ (some (.int r.1)) r.2 := fun n => Sd.ofH hG ⟨by decide +kernel, rfl⟩ rfl (Nat.le_of_ble_eq_true rfl) rfl (fun C hK => s_L_walks_e hG hf hK)
theorem d_L_grows_0 : decode cL_grows 0 = .ok (.aload_n 2, 1) := by decide +kernel
theorem d_L_grows_1 : decode cL_grows 1 = .ok (.iconst 0, 1) := by decide +kernel
theorem d_L_grows_2 : decode cL_grows 2 = .ok (.aload_n 0, 1) := by decide +kernel
theorem d_L_grows_3 : decode cL_grows 3 = .ok (.iload_n 1, 1) := by decide +kernel
theorem d_L_grows_4 : decode cL_grows 4 = .ok (.invokevirtual 38, 3) := by decide +kernel
theorem d_L_grows_7 : decode cL_grows 7 = .ok (.i2l, 1) := by decide +kernel
theorem d_L_grows_8 : decode cL_grows 8 = .ok (.lastore, 1) := by decide +kernel
theorem d_L_grows_9 : decode cL_grows 9 = .ok (.goto 6, 3) := by decide +kernel
theorem d_L_grows_12 : decode cL_grows 12 = .ok (.astore_n 3, 1) := by decide +kernel
theorem d_L_grows_13 : decode cL_grows 13 = .ok (.iconst 1, 1) := by decide +kernel
theorem d_L_grows_14 : decode cL_grows 14 = .ok (.ireturn, 1) := by decide +kernel
theorem d_L_grows_15 : decode cL_grows 15 = .ok (.iconst 0, 1) := by decide +kernel
theorem d_L_grows_16 : decode cL_grows 16 = .ok (.ireturn, 1) := by decide +kernel
theorem s_L_grows_e {G : Gl} (hG : G.1.stackTraces = false) {C : Cx} {n : Nat} {μ : Mem} {p1 : Int32} {r : (Int32 × Mem)} (hf : f_L_grows μ p1 = some r) (hK : FinR G C F_L_grows (some .int) (some (.int r.1)) r.2) : V G C F_L_grows 0 [some (.ref (G.2.1 + 0)), some (.int p1), some (.ref (G.2.1 + 275)), none] [] (pic G μ) n 0 0 := by
  unfold f_L_grows at hf
  refine V_aload_n d_L_grows_0 rfl rfl ?_
  refine V_iconst (v := 0) d_L_grows_1 ic_0 ?_
  refine V_aload_n d_L_grows_2 rfl rfl ?_
  refine V_iload_n d_L_grows_3 rfl rfl ?_
  obtain ⟨q1, hq1, hf⟩ := ob hf
  cases q1 with
  | inl e9 =>
    obtain ⟨k9, μ9⟩ := e9
    replace hf := elimL hf
    by_cases cx4_0 : k9 = 2
    · subst cx4_0
      replace hf := iteT rfl hf
      refine B_callVXt (kc' := 1) (ks' := 6) (s_X11_grows hG hq1) k_0 clX11 m_X11_grows kv_RL_38 d_L_grows_4 rfl (Nat.le_of_ble_eq_true rfl) ⟨rfl, rfl, Nat.le_of_ble_eq_true rfl, Nat.le_of_ble_eq_true rfl, Nat.le_of_ble_eq_true rfl⟩ (fun n => ?_)
      refine VX_catch [] (0, 9, 12, 24) [] rfl (fun z hz => absurd hz List.not_mem_nil) (by decide) (by decide) w_926 (List.mem_of_getElem? (i := 2) rfl) (fun q9 => ?_)
      refine V_astore_n (ls' := [_, _, _, _]) d_L_grows_12 rfl rfl rfl ?_
      refine V_iconst (v := 1) d_L_grows_13 ic_1 ?_
      cases hf
      exact R_i hK d_L_grows_14 (Nat.le_of_ble_eq_true rfl) (Nat.le_of_ble_eq_true rfl)
    replace hf := iteF cx4_0 hf
    cases hf
  | inr v2 =>
    replace hf := elimR hf
    refine B_callVX1 (kc' := 1) (ks' := 6) (s_X11_grows hG hq1) k_0 clX11 m_X11_grows kv_RL_38 d_L_grows_4 rfl (Nat.le_of_ble_eq_true rfl) ⟨rfl, rfl, Nat.le_of_ble_eq_true rfl, Nat.le_of_ble_eq_true rfl, Nat.le_of_ble_eq_true rfl⟩ (fun n => ?_)
    refine V_i2l d_L_grows_7 ?_
    obtain ⟨μ3, hμ3, hf⟩ := ob hf
    refine B_last k_275 hμ3 d_L_grows_8 ?_
    refine V_goto (tgt := 15) d_L_grows_9 (by decide) ?_
    refine V_iconst (v := 0) d_L_grows_15 ic_0 ?_
    cases hf
    exact R_i hK d_L_grows_16 (Nat.le_of_ble_eq_true rfl) (Nat.le_of_ble_eq_true rfl)
theorem s_L_grows {G : Gl} (hG : G.1.stackTraces = false) {μ : Mem} {p1 : Int32} {r : (Int32 × Mem)} (hf : f_L_grows μ p1 = some r) : RtH G yL_grows F_L_grows (some .int) [.ref (G.2.1 + 0), .int p1, .ref (G.2.1 + 275)] μ (some (.int r.1)) r.2 := fun n => Sd.ofH hG ⟨by decide +kernel, rfl⟩ rfl (Nat.le_of_ble_eq_true rfl) rfl (fun C hK => s_L_grows_e hG hf hK)
theorem d_L_lend_0 : decode cL_lend 0 = .ok (.aload 6, 2) := by decide +kernel
theorem d_L_lend_2 : decode cL_lend 2 = .ok (.iconst 0, 1) := by decide +kernel
theorem d_L_lend_3 : decode cL_lend 3 = .ok (.aload_n 0, 1) := by decide +kernel
theorem d_L_lend_4 : decode cL_lend 4 = .ok (.iload_n 1, 1) := by decide +kernel
theorem d_L_lend_5 : decode cL_lend 5 = .ok (.iload_n 2, 1) := by decide +kernel
theorem d_L_lend_6 : decode cL_lend 6 = .ok (.iload_n 3, 1) := by decide +kernel
theorem d_L_lend_7 : decode cL_lend 7 = .ok (.iload 4, 2) := by decide +kernel
theorem d_L_lend_9 : decode cL_lend 9 = .ok (.iload 5, 2) := by decide +kernel
theorem d_L_lend_11 : decode cL_lend 11 = .ok (.invokevirtual 41, 3) := by decide +kernel
theorem d_L_lend_14 : decode cL_lend 14 = .ok (.i2l, 1) := by decide +kernel
theorem d_L_lend_15 : decode cL_lend 15 = .ok (.lastore, 1) := by decide +kernel
theorem d_L_lend_16 : decode cL_lend 16 = .ok (.goto 15, 3) := by decide +kernel
theorem d_L_lend_19 : decode cL_lend 19 = .ok (.astore 7, 2) := by decide +kernel
theorem d_L_lend_21 : decode cL_lend 21 = .ok (.iconst 1, 1) := by decide +kernel
theorem d_L_lend_22 : decode cL_lend 22 = .ok (.ireturn, 1) := by decide +kernel
theorem d_L_lend_23 : decode cL_lend 23 = .ok (.astore 7, 2) := by decide +kernel
theorem d_L_lend_25 : decode cL_lend 25 = .ok (.iconst 2, 1) := by decide +kernel
theorem d_L_lend_26 : decode cL_lend 26 = .ok (.ireturn, 1) := by decide +kernel
theorem d_L_lend_27 : decode cL_lend 27 = .ok (.astore 7, 2) := by decide +kernel
theorem d_L_lend_29 : decode cL_lend 29 = .ok (.iconst 3, 1) := by decide +kernel
theorem d_L_lend_30 : decode cL_lend 30 = .ok (.ireturn, 1) := by decide +kernel
theorem d_L_lend_31 : decode cL_lend 31 = .ok (.iconst 0, 1) := by decide +kernel
theorem d_L_lend_32 : decode cL_lend 32 = .ok (.ireturn, 1) := by decide +kernel
theorem s_L_lend_e {G : Gl} (hG : G.1.stackTraces = false) {C : Cx} {n : Nat} {μ : Mem} {p1 : Int32} {p2 : Int32} {p3 : Int32} {p4 : Int32} {p5 : Int32} {r : (Int32 × Mem)} (hf : f_L_lend μ p1 p2 p3 p4 p5 = some r) (hK : FinR G C F_L_lend (some .int) (some (.int r.1)) r.2) : V G C F_L_lend 0 [some (.ref (G.2.1 + 0)), some (.int p1), some (.int p2), some (.int p3), some (.int p4), some (.int p5), some (.ref (G.2.1 + 275)), none] [] (pic G μ) n 0 0 := by
  unfold f_L_lend at hf
  refine V_aload d_L_lend_0 rfl ?_
  refine V_iconst (v := 0) d_L_lend_2 ic_0 ?_
  refine V_aload_n d_L_lend_3 rfl rfl ?_
  refine V_iload_n d_L_lend_4 rfl rfl ?_
  refine V_iload_n d_L_lend_5 rfl rfl ?_
  refine V_iload_n d_L_lend_6 rfl rfl ?_
  refine V_iload d_L_lend_7 rfl ?_
  refine V_iload d_L_lend_9 rfl ?_
  obtain ⟨q1, hq1, hf⟩ := ob hf
  cases q1 with
  | inl e9 =>
    obtain ⟨k9, μ9⟩ := e9
    replace hf := elimL hf
    by_cases cx11_0 : k9 = 2
    · subst cx11_0
      replace hf := iteT rfl hf
      refine B_callVXt (kc' := 4) (ks' := 24) (s_X11_lend hG hq1) k_0 clX11 m_X11_lend kv_RL_41 d_L_lend_11 rfl (Nat.le_of_ble_eq_true rfl) ⟨rfl, rfl, Nat.le_of_ble_eq_true rfl, Nat.le_of_ble_eq_true rfl, Nat.le_of_ble_eq_true rfl⟩ (fun n => ?_)
      refine VX_catch [] (0, 16, 19, 24) [(0, 16, 23, 13), (0, 16, 27, 45)] rfl (fun z hz => absurd hz List.not_mem_nil) (by decide) (by decide) w_926 (List.mem_of_getElem? (i := 2) rfl) (fun q9 => ?_)
      refine V_astore (ls' := [_, _, _, _, _, _, _, _]) d_L_lend_19 rfl rfl ?_
      refine V_iconst (v := 1) d_L_lend_21 ic_1 ?_
      cases hf
      exact R_i hK d_L_lend_22 (Nat.le_of_ble_eq_true rfl) (Nat.le_of_ble_eq_true rfl)
    replace hf := iteF cx11_0 hf
    by_cases cx11_1 : k9 = 1
    · subst cx11_1
      replace hf := iteT rfl hf
      refine B_callVXt (kc' := 4) (ks' := 24) (s_X11_lend hG hq1) k_0 clX11 m_X11_lend kv_RL_41 d_L_lend_11 rfl (Nat.le_of_ble_eq_true rfl) ⟨rfl, rfl, Nat.le_of_ble_eq_true rfl, Nat.le_of_ble_eq_true rfl, Nat.le_of_ble_eq_true rfl⟩ (fun n => ?_)
      refine VX_catch [(0, 16, 19, 24)] (0, 16, 23, 13) [(0, 16, 27, 45)] rfl (all9_mem (l := [(0, 16, 19, 24)]) ⟨⟨by decide, "java/lang/IndexOutOfBoundsException", w_926, List.mem_of_getElem? (i := 2) rfl⟩, trivial⟩) (by decide) (by decide) w_582 (List.mem_of_getElem? (i := 1) rfl) (fun q9 => ?_)
      refine V_astore (ls' := [_, _, _, _, _, _, _, _]) d_L_lend_23 rfl rfl ?_
      refine V_iconst (v := 2) d_L_lend_25 ic_2 ?_
      cases hf
      exact R_i hK d_L_lend_26 (Nat.le_of_ble_eq_true rfl) (Nat.le_of_ble_eq_true rfl)
    replace hf := iteF cx11_1 hf
    by_cases cx11_2 : k9 = 3
    · subst cx11_2
      replace hf := iteT rfl hf
      refine B_callVXt (kc' := 4) (ks' := 24) (s_X11_lend hG hq1) k_0 clX11 m_X11_lend kv_RL_41 d_L_lend_11 rfl (Nat.le_of_ble_eq_true rfl) ⟨rfl, rfl, Nat.le_of_ble_eq_true rfl, Nat.le_of_ble_eq_true rfl, Nat.le_of_ble_eq_true rfl⟩ (fun n => ?_)
      refine VX_catch [(0, 16, 19, 24), (0, 16, 23, 13)] (0, 16, 27, 45) [] rfl (all9_mem (l := [(0, 16, 19, 24), (0, 16, 23, 13)]) ⟨⟨by decide, "java/lang/IndexOutOfBoundsException", w_926, List.mem_of_getElem? (i := 3) rfl⟩, ⟨by decide, "java/lang/IllegalArgumentException", w_582, List.mem_of_getElem? (i := 4) rfl⟩, trivial⟩) (by decide) (by decide) w_1036 (List.mem_of_getElem? (i := 4) rfl) (fun q9 => ?_)
      refine V_astore (ls' := [_, _, _, _, _, _, _, _]) d_L_lend_27 rfl rfl ?_
      refine V_iconst (v := 3) d_L_lend_29 ic_3 ?_
      cases hf
      exact R_i hK d_L_lend_30 (Nat.le_of_ble_eq_true rfl) (Nat.le_of_ble_eq_true rfl)
    replace hf := iteF cx11_2 hf
    cases hf
  | inr v2 =>
    replace hf := elimR hf
    refine B_callVX1 (kc' := 4) (ks' := 24) (s_X11_lend hG hq1) k_0 clX11 m_X11_lend kv_RL_41 d_L_lend_11 rfl (Nat.le_of_ble_eq_true rfl) ⟨rfl, rfl, Nat.le_of_ble_eq_true rfl, Nat.le_of_ble_eq_true rfl, Nat.le_of_ble_eq_true rfl⟩ (fun n => ?_)
    refine V_i2l d_L_lend_14 ?_
    obtain ⟨μ3, hμ3, hf⟩ := ob hf
    refine B_last k_275 hμ3 d_L_lend_15 ?_
    refine V_goto (tgt := 31) d_L_lend_16 (by decide) ?_
    refine V_iconst (v := 0) d_L_lend_31 ic_0 ?_
    cases hf
    exact R_i hK d_L_lend_32 (Nat.le_of_ble_eq_true rfl) (Nat.le_of_ble_eq_true rfl)
theorem s_L_lend {G : Gl} (hG : G.1.stackTraces = false) {μ : Mem} {p1 : Int32} {p2 : Int32} {p3 : Int32} {p4 : Int32} {p5 : Int32} {r : (Int32 × Mem)} (hf : f_L_lend μ p1 p2 p3 p4 p5 = some r) : RtH G yL_lend F_L_lend (some .int) [.ref (G.2.1 + 0), .int p1, .int p2, .int p3, .int p4, .int p5, .ref (G.2.1 + 275)] μ (some (.int r.1)) r.2 := fun n => Sd.ofH hG ⟨by decide +kernel, rfl⟩ rfl (Nat.le_of_ble_eq_true rfl) rfl (fun C hK => s_L_lend_e hG hf hK)
theorem d_L_pay_0 : decode cL_pay 0 = .ok (.aload_n 2, 1) := by decide +kernel
theorem d_L_pay_1 : decode cL_pay 1 = .ok (.iconst 0, 1) := by decide +kernel
theorem d_L_pay_2 : decode cL_pay 2 = .ok (.aload_n 0, 1) := by decide +kernel
theorem d_L_pay_3 : decode cL_pay 3 = .ok (.iload_n 1, 1) := by decide +kernel
theorem d_L_pay_4 : decode cL_pay 4 = .ok (.invokevirtual 47, 3) := by decide +kernel
theorem d_L_pay_7 : decode cL_pay 7 = .ok (.i2l, 1) := by decide +kernel
theorem d_L_pay_8 : decode cL_pay 8 = .ok (.lastore, 1) := by decide +kernel
theorem d_L_pay_9 : decode cL_pay 9 = .ok (.goto 9, 3) := by decide +kernel
theorem d_L_pay_12 : decode cL_pay 12 = .ok (.astore_n 3, 1) := by decide +kernel
theorem d_L_pay_13 : decode cL_pay 13 = .ok (.iconst 1, 1) := by decide +kernel
theorem d_L_pay_14 : decode cL_pay 14 = .ok (.ireturn, 1) := by decide +kernel
theorem d_L_pay_15 : decode cL_pay 15 = .ok (.astore_n 3, 1) := by decide +kernel
theorem d_L_pay_16 : decode cL_pay 16 = .ok (.iconst 2, 1) := by decide +kernel
theorem d_L_pay_17 : decode cL_pay 17 = .ok (.ireturn, 1) := by decide +kernel
theorem d_L_pay_18 : decode cL_pay 18 = .ok (.iconst 0, 1) := by decide +kernel
theorem d_L_pay_19 : decode cL_pay 19 = .ok (.ireturn, 1) := by decide +kernel
theorem s_L_pay_e {G : Gl} (hG : G.1.stackTraces = false) {C : Cx} {n : Nat} {μ : Mem} {p1 : Int32} {r : (Int32 × Mem)} (hf : f_L_pay μ p1 = some r) (hK : FinR G C F_L_pay (some .int) (some (.int r.1)) r.2) : V G C F_L_pay 0 [some (.ref (G.2.1 + 0)), some (.int p1), some (.ref (G.2.1 + 275)), none] [] (pic G μ) n 0 0 := by
  unfold f_L_pay at hf
  refine V_aload_n d_L_pay_0 rfl rfl ?_
  refine V_iconst (v := 0) d_L_pay_1 ic_0 ?_
  refine V_aload_n d_L_pay_2 rfl rfl ?_
  refine V_iload_n d_L_pay_3 rfl rfl ?_
  obtain ⟨q1, hq1, hf⟩ := ob hf
  cases q1 with
  | inl e9 =>
    obtain ⟨k9, μ9⟩ := e9
    replace hf := elimL hf
    by_cases cx4_0 : k9 = 2
    · subst cx4_0
      replace hf := iteT rfl hf
      refine B_callVXt (kc' := 2) (ks' := 12) (s_X11_pay hG hq1) k_0 clX11 m_X11_pay kv_RL_47 d_L_pay_4 rfl (Nat.le_of_ble_eq_true rfl) ⟨rfl, rfl, Nat.le_of_ble_eq_true rfl, Nat.le_of_ble_eq_true rfl, Nat.le_of_ble_eq_true rfl⟩ (fun n => ?_)
      refine VX_catch [] (0, 9, 12, 24) [(0, 9, 15, 45)] rfl (fun z hz => absurd hz List.not_mem_nil) (by decide) (by decide) w_926 (List.mem_of_getElem? (i := 2) rfl) (fun q9 => ?_)
      refine V_astore_n (ls' := [_, _, _, _]) d_L_pay_12 rfl rfl rfl ?_
      refine V_iconst (v := 1) d_L_pay_13 ic_1 ?_
      cases hf
      exact R_i hK d_L_pay_14 (Nat.le_of_ble_eq_true rfl) (Nat.le_of_ble_eq_true rfl)
    replace hf := iteF cx4_0 hf
    by_cases cx4_1 : k9 = 3
    · subst cx4_1
      replace hf := iteT rfl hf
      refine B_callVXt (kc' := 2) (ks' := 12) (s_X11_pay hG hq1) k_0 clX11 m_X11_pay kv_RL_47 d_L_pay_4 rfl (Nat.le_of_ble_eq_true rfl) ⟨rfl, rfl, Nat.le_of_ble_eq_true rfl, Nat.le_of_ble_eq_true rfl, Nat.le_of_ble_eq_true rfl⟩ (fun n => ?_)
      refine VX_catch [(0, 9, 12, 24)] (0, 9, 15, 45) [] rfl (all9_mem (l := [(0, 9, 12, 24)]) ⟨⟨by decide, "java/lang/IndexOutOfBoundsException", w_926, List.mem_of_getElem? (i := 3) rfl⟩, trivial⟩) (by decide) (by decide) w_1036 (List.mem_of_getElem? (i := 4) rfl) (fun q9 => ?_)
      refine V_astore_n (ls' := [_, _, _, _]) d_L_pay_15 rfl rfl rfl ?_
      refine V_iconst (v := 2) d_L_pay_16 ic_2 ?_
      cases hf
      exact R_i hK d_L_pay_17 (Nat.le_of_ble_eq_true rfl) (Nat.le_of_ble_eq_true rfl)
    replace hf := iteF cx4_1 hf
    cases hf
  | inr v2 =>
    replace hf := elimR hf
    refine B_callVX1 (kc' := 2) (ks' := 12) (s_X11_pay hG hq1) k_0 clX11 m_X11_pay kv_RL_47 d_L_pay_4 rfl (Nat.le_of_ble_eq_true rfl) ⟨rfl, rfl, Nat.le_of_ble_eq_true rfl, Nat.le_of_ble_eq_true rfl, Nat.le_of_ble_eq_true rfl⟩ (fun n => ?_)
    refine V_i2l d_L_pay_7 ?_
    obtain ⟨μ3, hμ3, hf⟩ := ob hf
    refine B_last k_275 hμ3 d_L_pay_8 ?_
    refine V_goto (tgt := 18) d_L_pay_9 (by decide) ?_
    refine V_iconst (v := 0) d_L_pay_18 ic_0 ?_
    cases hf
    exact R_i hK d_L_pay_19 (Nat.le_of_ble_eq_true rfl) (Nat.le_of_ble_eq_true rfl)
theorem s_L_pay {G : Gl} (hG : G.1.stackTraces = false) {μ : Mem} {p1 : Int32} {r : (Int32 × Mem)} (hf : f_L_pay μ p1 = some r) : RtH G yL_pay F_L_pay (some .int) [.ref (G.2.1 + 0), .int p1, .ref (G.2.1 + 275)] μ (some (.int r.1)) r.2 := fun n => Sd.ofH hG ⟨by decide +kernel, rfl⟩ rfl (Nat.le_of_ble_eq_true rfl) rfl (fun C hK => s_L_pay_e hG hf hK)
theorem d_L_surety_0 : decode cL_surety 0 = .ok (.aload_n 3, 1) := by decide +kernel
theorem d_L_surety_1 : decode cL_surety 1 = .ok (.iconst 0, 1) := by decide +kernel
theorem d_L_surety_2 : decode cL_surety 2 = .ok (.aload_n 0, 1) := by decide +kernel
theorem d_L_surety_3 : decode cL_surety 3 = .ok (.iload_n 1, 1) := by decide +kernel
theorem d_L_surety_4 : decode cL_surety 4 = .ok (.iload_n 2, 1) := by decide +kernel
theorem d_L_surety_5 : decode cL_surety 5 = .ok (.invokevirtual 50, 3) := by decide +kernel
theorem d_L_surety_8 : decode cL_surety 8 = .ok (.i2l, 1) := by decide +kernel
theorem d_L_surety_9 : decode cL_surety 9 = .ok (.lastore, 1) := by decide +kernel
theorem d_L_surety_10 : decode cL_surety 10 = .ok (.goto 15, 3) := by decide +kernel
theorem d_L_surety_13 : decode cL_surety 13 = .ok (.astore 4, 2) := by decide +kernel
theorem d_L_surety_15 : decode cL_surety 15 = .ok (.iconst 1, 1) := by decide +kernel
theorem d_L_surety_16 : decode cL_surety 16 = .ok (.ireturn, 1) := by decide +kernel
theorem d_L_surety_17 : decode cL_surety 17 = .ok (.astore 4, 2) := by decide +kernel
theorem d_L_surety_19 : decode cL_surety 19 = .ok (.iconst 2, 1) := by decide +kernel
theorem d_L_surety_20 : decode cL_surety 20 = .ok (.ireturn, 1) := by decide +kernel
theorem d_L_surety_21 : decode cL_surety 21 = .ok (.astore 4, 2) := by decide +kernel
theorem d_L_surety_23 : decode cL_surety 23 = .ok (.iconst 3, 1) := by decide +kernel
theorem d_L_surety_24 : decode cL_surety 24 = .ok (.ireturn, 1) := by decide +kernel
theorem d_L_surety_25 : decode cL_surety 25 = .ok (.iconst 0, 1) := by decide +kernel
theorem d_L_surety_26 : decode cL_surety 26 = .ok (.ireturn, 1) := by decide +kernel
theorem s_L_surety_e {G : Gl} (hG : G.1.stackTraces = false) {C : Cx} {n : Nat} {μ : Mem} {p1 : Int32} {p2 : Int32} {r : (Int32 × Mem)} (hf : f_L_surety μ p1 p2 = some r) (hK : FinR G C F_L_surety (some .int) (some (.int r.1)) r.2) : V G C F_L_surety 0 [some (.ref (G.2.1 + 0)), some (.int p1), some (.int p2), some (.ref (G.2.1 + 275)), none] [] (pic G μ) n 0 0 := by
  unfold f_L_surety at hf
  refine V_aload_n d_L_surety_0 rfl rfl ?_
  refine V_iconst (v := 0) d_L_surety_1 ic_0 ?_
  refine V_aload_n d_L_surety_2 rfl rfl ?_
  refine V_iload_n d_L_surety_3 rfl rfl ?_
  refine V_iload_n d_L_surety_4 rfl rfl ?_
  obtain ⟨q1, hq1, hf⟩ := ob hf
  cases q1 with
  | inl e9 =>
    obtain ⟨k9, μ9⟩ := e9
    replace hf := elimL hf
    by_cases cx5_0 : k9 = 2
    · subst cx5_0
      replace hf := iteT rfl hf
      refine B_callVXt (kc' := 4) (ks' := 24) (s_X11_surety hG hq1) k_0 clX11 m_X11_surety kv_RL_50 d_L_surety_5 rfl (Nat.le_of_ble_eq_true rfl) ⟨rfl, rfl, Nat.le_of_ble_eq_true rfl, Nat.le_of_ble_eq_true rfl, Nat.le_of_ble_eq_true rfl⟩ (fun n => ?_)
      refine VX_catch [] (0, 10, 13, 24) [(0, 10, 17, 13), (0, 10, 21, 45)] rfl (fun z hz => absurd hz List.not_mem_nil) (by decide) (by decide) w_926 (List.mem_of_getElem? (i := 2) rfl) (fun q9 => ?_)
      refine V_astore (ls' := [_, _, _, _, _]) d_L_surety_13 rfl rfl ?_
      refine V_iconst (v := 1) d_L_surety_15 ic_1 ?_
      cases hf
      exact R_i hK d_L_surety_16 (Nat.le_of_ble_eq_true rfl) (Nat.le_of_ble_eq_true rfl)
    replace hf := iteF cx5_0 hf
    by_cases cx5_1 : k9 = 1
    · subst cx5_1
      replace hf := iteT rfl hf
      refine B_callVXt (kc' := 4) (ks' := 24) (s_X11_surety hG hq1) k_0 clX11 m_X11_surety kv_RL_50 d_L_surety_5 rfl (Nat.le_of_ble_eq_true rfl) ⟨rfl, rfl, Nat.le_of_ble_eq_true rfl, Nat.le_of_ble_eq_true rfl, Nat.le_of_ble_eq_true rfl⟩ (fun n => ?_)
      refine VX_catch [(0, 10, 13, 24)] (0, 10, 17, 13) [(0, 10, 21, 45)] rfl (all9_mem (l := [(0, 10, 13, 24)]) ⟨⟨by decide, "java/lang/IndexOutOfBoundsException", w_926, List.mem_of_getElem? (i := 2) rfl⟩, trivial⟩) (by decide) (by decide) w_582 (List.mem_of_getElem? (i := 1) rfl) (fun q9 => ?_)
      refine V_astore (ls' := [_, _, _, _, _]) d_L_surety_17 rfl rfl ?_
      refine V_iconst (v := 2) d_L_surety_19 ic_2 ?_
      cases hf
      exact R_i hK d_L_surety_20 (Nat.le_of_ble_eq_true rfl) (Nat.le_of_ble_eq_true rfl)
    replace hf := iteF cx5_1 hf
    by_cases cx5_2 : k9 = 3
    · subst cx5_2
      replace hf := iteT rfl hf
      refine B_callVXt (kc' := 4) (ks' := 24) (s_X11_surety hG hq1) k_0 clX11 m_X11_surety kv_RL_50 d_L_surety_5 rfl (Nat.le_of_ble_eq_true rfl) ⟨rfl, rfl, Nat.le_of_ble_eq_true rfl, Nat.le_of_ble_eq_true rfl, Nat.le_of_ble_eq_true rfl⟩ (fun n => ?_)
      refine VX_catch [(0, 10, 13, 24), (0, 10, 17, 13)] (0, 10, 21, 45) [] rfl (all9_mem (l := [(0, 10, 13, 24), (0, 10, 17, 13)]) ⟨⟨by decide, "java/lang/IndexOutOfBoundsException", w_926, List.mem_of_getElem? (i := 3) rfl⟩, ⟨by decide, "java/lang/IllegalArgumentException", w_582, List.mem_of_getElem? (i := 4) rfl⟩, trivial⟩) (by decide) (by decide) w_1036 (List.mem_of_getElem? (i := 4) rfl) (fun q9 => ?_)
      refine V_astore (ls' := [_, _, _, _, _]) d_L_surety_21 rfl rfl ?_
      refine V_iconst (v := 3) d_L_surety_23 ic_3 ?_
      cases hf
      exact R_i hK d_L_surety_24 (Nat.le_of_ble_eq_true rfl) (Nat.le_of_ble_eq_true rfl)
    replace hf := iteF cx5_2 hf
    cases hf
  | inr v2 =>
    replace hf := elimR hf
    refine B_callVX1 (kc' := 4) (ks' := 24) (s_X11_surety hG hq1) k_0 clX11 m_X11_surety kv_RL_50 d_L_surety_5 rfl (Nat.le_of_ble_eq_true rfl) ⟨rfl, rfl, Nat.le_of_ble_eq_true rfl, Nat.le_of_ble_eq_true rfl, Nat.le_of_ble_eq_true rfl⟩ (fun n => ?_)
    refine V_i2l d_L_surety_8 ?_
    obtain ⟨μ3, hμ3, hf⟩ := ob hf
    refine B_last k_275 hμ3 d_L_surety_9 ?_
    refine V_goto (tgt := 25) d_L_surety_10 (by decide) ?_
    refine V_iconst (v := 0) d_L_surety_25 ic_0 ?_
    cases hf
    exact R_i hK d_L_surety_26 (Nat.le_of_ble_eq_true rfl) (Nat.le_of_ble_eq_true rfl)
theorem s_L_surety {G : Gl} (hG : G.1.stackTraces = false) {μ : Mem} {p1 : Int32} {p2 : Int32} {r : (Int32 × Mem)} (hf : f_L_surety μ p1 p2 = some r) : RtH G yL_surety F_L_surety (some .int) [.ref (G.2.1 + 0), .int p1, .int p2, .ref (G.2.1 + 275)] μ (some (.int r.1)) r.2 := fun n => Sd.ofH hG ⟨by decide +kernel, rfl⟩ rfl (Nat.le_of_ble_eq_true rfl) rfl (fun C hK => s_L_surety_e hG hf hK)
theorem d_L_give_0 : decode cL_give 0 = .ok (.aload_n 3, 1) := by decide +kernel
theorem d_L_give_1 : decode cL_give 1 = .ok (.iconst 0, 1) := by decide +kernel
theorem d_L_give_2 : decode cL_give 2 = .ok (.aload_n 0, 1) := by decide +kernel
theorem d_L_give_3 : decode cL_give 3 = .ok (.iload_n 1, 1) := by decide +kernel
theorem d_L_give_4 : decode cL_give 4 = .ok (.iload_n 2, 1) := by decide +kernel
theorem d_L_give_5 : decode cL_give 5 = .ok (.invokevirtual 53, 3) := by decide +kernel
theorem d_L_give_8 : decode cL_give 8 = .ok (.i2l, 1) := by decide +kernel
theorem d_L_give_9 : decode cL_give 9 = .ok (.lastore, 1) := by decide +kernel
theorem d_L_give_10 : decode cL_give 10 = .ok (.goto 15, 3) := by decide +kernel
theorem d_L_give_13 : decode cL_give 13 = .ok (.astore 4, 2) := by decide +kernel
theorem d_L_give_15 : decode cL_give 15 = .ok (.iconst 1, 1) := by decide +kernel
theorem d_L_give_16 : decode cL_give 16 = .ok (.ireturn, 1) := by decide +kernel
theorem d_L_give_17 : decode cL_give 17 = .ok (.astore 4, 2) := by decide +kernel
theorem d_L_give_19 : decode cL_give 19 = .ok (.iconst 2, 1) := by decide +kernel
theorem d_L_give_20 : decode cL_give 20 = .ok (.ireturn, 1) := by decide +kernel
theorem d_L_give_21 : decode cL_give 21 = .ok (.astore 4, 2) := by decide +kernel
theorem d_L_give_23 : decode cL_give 23 = .ok (.iconst 3, 1) := by decide +kernel
theorem d_L_give_24 : decode cL_give 24 = .ok (.ireturn, 1) := by decide +kernel
theorem d_L_give_25 : decode cL_give 25 = .ok (.iconst 0, 1) := by decide +kernel
theorem d_L_give_26 : decode cL_give 26 = .ok (.ireturn, 1) := by decide +kernel
theorem s_L_give_e {G : Gl} (hG : G.1.stackTraces = false) {C : Cx} {n : Nat} {μ : Mem} {p1 : Int32} {p2 : Int32} {r : (Int32 × Mem)} (hf : f_L_give μ p1 p2 = some r) (hK : FinR G C F_L_give (some .int) (some (.int r.1)) r.2) : V G C F_L_give 0 [some (.ref (G.2.1 + 0)), some (.int p1), some (.int p2), some (.ref (G.2.1 + 275)), none] [] (pic G μ) n 0 0 := by
  unfold f_L_give at hf
  refine V_aload_n d_L_give_0 rfl rfl ?_
  refine V_iconst (v := 0) d_L_give_1 ic_0 ?_
  refine V_aload_n d_L_give_2 rfl rfl ?_
  refine V_iload_n d_L_give_3 rfl rfl ?_
  refine V_iload_n d_L_give_4 rfl rfl ?_
  obtain ⟨q1, hq1, hf⟩ := ob hf
  cases q1 with
  | inl e9 =>
    obtain ⟨k9, μ9⟩ := e9
    replace hf := elimL hf
    by_cases cx5_0 : k9 = 2
    · subst cx5_0
      replace hf := iteT rfl hf
      refine B_callVXt (kc' := 5) (ks' := 30) (s_X11_give hG hq1) k_0 clX11 m_X11_give kv_RL_53 d_L_give_5 rfl (Nat.le_of_ble_eq_true rfl) ⟨rfl, rfl, Nat.le_of_ble_eq_true rfl, Nat.le_of_ble_eq_true rfl, Nat.le_of_ble_eq_true rfl⟩ (fun n => ?_)
      refine VX_catch [] (0, 10, 13, 24) [(0, 10, 17, 13), (0, 10, 21, 45)] rfl (fun z hz => absurd hz List.not_mem_nil) (by decide) (by decide) w_926 (List.mem_of_getElem? (i := 2) rfl) (fun q9 => ?_)
      refine V_astore (ls' := [_, _, _, _, _]) d_L_give_13 rfl rfl ?_
      refine V_iconst (v := 1) d_L_give_15 ic_1 ?_
      cases hf
      exact R_i hK d_L_give_16 (Nat.le_of_ble_eq_true rfl) (Nat.le_of_ble_eq_true rfl)
    replace hf := iteF cx5_0 hf
    by_cases cx5_1 : k9 = 1
    · subst cx5_1
      replace hf := iteT rfl hf
      refine B_callVXt (kc' := 5) (ks' := 30) (s_X11_give hG hq1) k_0 clX11 m_X11_give kv_RL_53 d_L_give_5 rfl (Nat.le_of_ble_eq_true rfl) ⟨rfl, rfl, Nat.le_of_ble_eq_true rfl, Nat.le_of_ble_eq_true rfl, Nat.le_of_ble_eq_true rfl⟩ (fun n => ?_)
      refine VX_catch [(0, 10, 13, 24)] (0, 10, 17, 13) [(0, 10, 21, 45)] rfl (all9_mem (l := [(0, 10, 13, 24)]) ⟨⟨by decide, "java/lang/IndexOutOfBoundsException", w_926, List.mem_of_getElem? (i := 2) rfl⟩, trivial⟩) (by decide) (by decide) w_582 (List.mem_of_getElem? (i := 1) rfl) (fun q9 => ?_)
      refine V_astore (ls' := [_, _, _, _, _]) d_L_give_17 rfl rfl ?_
      refine V_iconst (v := 2) d_L_give_19 ic_2 ?_
      cases hf
      exact R_i hK d_L_give_20 (Nat.le_of_ble_eq_true rfl) (Nat.le_of_ble_eq_true rfl)
    replace hf := iteF cx5_1 hf
    by_cases cx5_2 : k9 = 3
    · subst cx5_2
      replace hf := iteT rfl hf
      refine B_callVXt (kc' := 5) (ks' := 30) (s_X11_give hG hq1) k_0 clX11 m_X11_give kv_RL_53 d_L_give_5 rfl (Nat.le_of_ble_eq_true rfl) ⟨rfl, rfl, Nat.le_of_ble_eq_true rfl, Nat.le_of_ble_eq_true rfl, Nat.le_of_ble_eq_true rfl⟩ (fun n => ?_)
      refine VX_catch [(0, 10, 13, 24), (0, 10, 17, 13)] (0, 10, 21, 45) [] rfl (all9_mem (l := [(0, 10, 13, 24), (0, 10, 17, 13)]) ⟨⟨by decide, "java/lang/IndexOutOfBoundsException", w_926, List.mem_of_getElem? (i := 3) rfl⟩, ⟨by decide, "java/lang/IllegalArgumentException", w_582, List.mem_of_getElem? (i := 4) rfl⟩, trivial⟩) (by decide) (by decide) w_1036 (List.mem_of_getElem? (i := 4) rfl) (fun q9 => ?_)
      refine V_astore (ls' := [_, _, _, _, _]) d_L_give_21 rfl rfl ?_
      refine V_iconst (v := 3) d_L_give_23 ic_3 ?_
      cases hf
      exact R_i hK d_L_give_24 (Nat.le_of_ble_eq_true rfl) (Nat.le_of_ble_eq_true rfl)
    replace hf := iteF cx5_2 hf
    cases hf
  | inr v2 =>
    replace hf := elimR hf
    refine B_callVX1 (kc' := 5) (ks' := 30) (s_X11_give hG hq1) k_0 clX11 m_X11_give kv_RL_53 d_L_give_5 rfl (Nat.le_of_ble_eq_true rfl) ⟨rfl, rfl, Nat.le_of_ble_eq_true rfl, Nat.le_of_ble_eq_true rfl, Nat.le_of_ble_eq_true rfl⟩ (fun n => ?_)
    refine V_i2l d_L_give_8 ?_
    obtain ⟨μ3, hμ3, hf⟩ := ob hf
    refine B_last k_275 hμ3 d_L_give_9 ?_
    refine V_goto (tgt := 25) d_L_give_10 (by decide) ?_
    refine V_iconst (v := 0) d_L_give_25 ic_0 ?_
    cases hf
    exact R_i hK d_L_give_26 (Nat.le_of_ble_eq_true rfl) (Nat.le_of_ble_eq_true rfl)
theorem s_L_give {G : Gl} (hG : G.1.stackTraces = false) {μ : Mem} {p1 : Int32} {p2 : Int32} {r : (Int32 × Mem)} (hf : f_L_give μ p1 p2 = some r) : RtH G yL_give F_L_give (some .int) [.ref (G.2.1 + 0), .int p1, .int p2, .ref (G.2.1 + 275)] μ (some (.int r.1)) r.2 := fun n => Sd.ofH hG ⟨by decide +kernel, rfl⟩ rfl (Nat.le_of_ble_eq_true rfl) rfl (fun C hK => s_L_give_e hG hf hK)
theorem d_L_goal_0 : decode cL_goal 0 = .ok (.aload_n 3, 1) := by decide +kernel
theorem d_L_goal_1 : decode cL_goal 1 = .ok (.iconst 0, 1) := by decide +kernel
theorem d_L_goal_2 : decode cL_goal 2 = .ok (.aload_n 0, 1) := by decide +kernel
theorem d_L_goal_3 : decode cL_goal 3 = .ok (.iload_n 1, 1) := by decide +kernel
theorem d_L_goal_4 : decode cL_goal 4 = .ok (.iload_n 2, 1) := by decide +kernel
theorem d_L_goal_5 : decode cL_goal 5 = .ok (.invokevirtual 56, 3) := by decide +kernel
theorem d_L_goal_8 : decode cL_goal 8 = .ok (.i2l, 1) := by decide +kernel
theorem d_L_goal_9 : decode cL_goal 9 = .ok (.lastore, 1) := by decide +kernel
theorem d_L_goal_10 : decode cL_goal 10 = .ok (.goto 7, 3) := by decide +kernel
theorem d_L_goal_13 : decode cL_goal 13 = .ok (.astore 4, 2) := by decide +kernel
theorem d_L_goal_15 : decode cL_goal 15 = .ok (.iconst 1, 1) := by decide +kernel
theorem d_L_goal_16 : decode cL_goal 16 = .ok (.ireturn, 1) := by decide +kernel
theorem d_L_goal_17 : decode cL_goal 17 = .ok (.iconst 0, 1) := by decide +kernel
theorem d_L_goal_18 : decode cL_goal 18 = .ok (.ireturn, 1) := by decide +kernel
theorem s_L_goal_e {G : Gl} (hG : G.1.stackTraces = false) {C : Cx} {n : Nat} {μ : Mem} {p1 : Int32} {p2 : Int32} {r : (Int32 × Mem)} (hf : f_L_goal μ p1 p2 = some r) (hK : FinR G C F_L_goal (some .int) (some (.int r.1)) r.2) : V G C F_L_goal 0 [some (.ref (G.2.1 + 0)), some (.int p1), some (.int p2), some (.ref (G.2.1 + 275)), none] [] (pic G μ) n 0 0 := by
  unfold f_L_goal at hf
  refine V_aload_n d_L_goal_0 rfl rfl ?_
  refine V_iconst (v := 0) d_L_goal_1 ic_0 ?_
  refine V_aload_n d_L_goal_2 rfl rfl ?_
  refine V_iload_n d_L_goal_3 rfl rfl ?_
  refine V_iload_n d_L_goal_4 rfl rfl ?_
  obtain ⟨q1, hq1, hf⟩ := ob hf
  cases q1 with
  | inl e9 =>
    obtain ⟨k9, μ9⟩ := e9
    replace hf := elimL hf
    by_cases cx5_0 : k9 = 2
    · subst cx5_0
      replace hf := iteT rfl hf
      refine B_callVXt (kc' := 2) (ks' := 12) (s_X11_goal hG hq1) k_0 clX11 m_X11_goal kv_RL_56 d_L_goal_5 rfl (Nat.le_of_ble_eq_true rfl) ⟨rfl, rfl, Nat.le_of_ble_eq_true rfl, Nat.le_of_ble_eq_true rfl, Nat.le_of_ble_eq_true rfl⟩ (fun n => ?_)
      refine VX_catch [] (0, 10, 13, 24) [] rfl (fun z hz => absurd hz List.not_mem_nil) (by decide) (by decide) w_926 (List.mem_of_getElem? (i := 2) rfl) (fun q9 => ?_)
      refine V_astore (ls' := [_, _, _, _, _]) d_L_goal_13 rfl rfl ?_
      refine V_iconst (v := 1) d_L_goal_15 ic_1 ?_
      cases hf
      exact R_i hK d_L_goal_16 (Nat.le_of_ble_eq_true rfl) (Nat.le_of_ble_eq_true rfl)
    replace hf := iteF cx5_0 hf
    cases hf
  | inr v2 =>
    replace hf := elimR hf
    refine B_callVX1 (kc' := 2) (ks' := 12) (s_X11_goal hG hq1) k_0 clX11 m_X11_goal kv_RL_56 d_L_goal_5 rfl (Nat.le_of_ble_eq_true rfl) ⟨rfl, rfl, Nat.le_of_ble_eq_true rfl, Nat.le_of_ble_eq_true rfl, Nat.le_of_ble_eq_true rfl⟩ (fun n => ?_)
    refine V_i2l d_L_goal_8 ?_
    obtain ⟨μ3, hμ3, hf⟩ := ob hf
    refine B_last k_275 hμ3 d_L_goal_9 ?_
    refine V_goto (tgt := 17) d_L_goal_10 (by decide) ?_
    refine V_iconst (v := 0) d_L_goal_17 ic_0 ?_
    cases hf
    exact R_i hK d_L_goal_18 (Nat.le_of_ble_eq_true rfl) (Nat.le_of_ble_eq_true rfl)
theorem s_L_goal {G : Gl} (hG : G.1.stackTraces = false) {μ : Mem} {p1 : Int32} {p2 : Int32} {r : (Int32 × Mem)} (hf : f_L_goal μ p1 p2 = some r) : RtH G yL_goal F_L_goal (some .int) [.ref (G.2.1 + 0), .int p1, .int p2, .ref (G.2.1 + 275)] μ (some (.int r.1)) r.2 := fun n => Sd.ofH hG ⟨by decide +kernel, rfl⟩ rfl (Nat.le_of_ble_eq_true rfl) rfl (fun C hK => s_L_goal_e hG hf hK)
theorem d_L_rest_0 : decode cL_rest 0 = .ok (.aload_n 2, 1) := by decide +kernel
theorem d_L_rest_1 : decode cL_rest 1 = .ok (.iconst 0, 1) := by decide +kernel
theorem d_L_rest_2 : decode cL_rest 2 = .ok (.aload_n 0, 1) := by decide +kernel
theorem d_L_rest_3 : decode cL_rest 3 = .ok (.iload_n 1, 1) := by decide +kernel
theorem d_L_rest_4 : decode cL_rest 4 = .ok (.invokevirtual 59, 3) := by decide +kernel
theorem d_L_rest_7 : decode cL_rest 7 = .ok (.i2l, 1) := by decide +kernel
theorem d_L_rest_8 : decode cL_rest 8 = .ok (.lastore, 1) := by decide +kernel
theorem d_L_rest_9 : decode cL_rest 9 = .ok (.goto 6, 3) := by decide +kernel
theorem d_L_rest_12 : decode cL_rest 12 = .ok (.astore_n 3, 1) := by decide +kernel
theorem d_L_rest_13 : decode cL_rest 13 = .ok (.iconst 1, 1) := by decide +kernel
theorem d_L_rest_14 : decode cL_rest 14 = .ok (.ireturn, 1) := by decide +kernel
theorem d_L_rest_15 : decode cL_rest 15 = .ok (.iconst 0, 1) := by decide +kernel
theorem d_L_rest_16 : decode cL_rest 16 = .ok (.ireturn, 1) := by decide +kernel
theorem s_L_rest_e {G : Gl} (hG : G.1.stackTraces = false) {C : Cx} {n : Nat} {μ : Mem} {p1 : Int32} {r : (Int32 × Mem)} (hf : f_L_rest μ p1 = some r) (hK : FinR G C F_L_rest (some .int) (some (.int r.1)) r.2) : V G C F_L_rest 0 [some (.ref (G.2.1 + 0)), some (.int p1), some (.ref (G.2.1 + 275)), none] [] (pic G μ) n 0 0 := by
  unfold f_L_rest at hf
  refine V_aload_n d_L_rest_0 rfl rfl ?_
  refine V_iconst (v := 0) d_L_rest_1 ic_0 ?_
  refine V_aload_n d_L_rest_2 rfl rfl ?_
  refine V_iload_n d_L_rest_3 rfl rfl ?_
  obtain ⟨q1, hq1, hf⟩ := ob hf
  cases q1 with
  | inl e9 =>
    obtain ⟨k9, μ9⟩ := e9
    replace hf := elimL hf
    by_cases cx4_0 : k9 = 2
    · subst cx4_0
      replace hf := iteT rfl hf
      refine B_callVXt (kc' := 1) (ks' := 6) (s_X11_rest hG hq1) k_0 clX11 m_X11_rest kv_RL_59 d_L_rest_4 rfl (Nat.le_of_ble_eq_true rfl) ⟨rfl, rfl, Nat.le_of_ble_eq_true rfl, Nat.le_of_ble_eq_true rfl, Nat.le_of_ble_eq_true rfl⟩ (fun n => ?_)
      refine VX_catch [] (0, 9, 12, 24) [] rfl (fun z hz => absurd hz List.not_mem_nil) (by decide) (by decide) w_926 (List.mem_of_getElem? (i := 2) rfl) (fun q9 => ?_)
      refine V_astore_n (ls' := [_, _, _, _]) d_L_rest_12 rfl rfl rfl ?_
      refine V_iconst (v := 1) d_L_rest_13 ic_1 ?_
      cases hf
      exact R_i hK d_L_rest_14 (Nat.le_of_ble_eq_true rfl) (Nat.le_of_ble_eq_true rfl)
    replace hf := iteF cx4_0 hf
    cases hf
  | inr v2 =>
    replace hf := elimR hf
    refine B_callVX1 (kc' := 1) (ks' := 6) (s_X11_rest hG hq1) k_0 clX11 m_X11_rest kv_RL_59 d_L_rest_4 rfl (Nat.le_of_ble_eq_true rfl) ⟨rfl, rfl, Nat.le_of_ble_eq_true rfl, Nat.le_of_ble_eq_true rfl, Nat.le_of_ble_eq_true rfl⟩ (fun n => ?_)
    refine V_i2l d_L_rest_7 ?_
    obtain ⟨μ3, hμ3, hf⟩ := ob hf
    refine B_last k_275 hμ3 d_L_rest_8 ?_
    refine V_goto (tgt := 15) d_L_rest_9 (by decide) ?_
    refine V_iconst (v := 0) d_L_rest_15 ic_0 ?_
    cases hf
    exact R_i hK d_L_rest_16 (Nat.le_of_ble_eq_true rfl) (Nat.le_of_ble_eq_true rfl)
theorem s_L_rest {G : Gl} (hG : G.1.stackTraces = false) {μ : Mem} {p1 : Int32} {r : (Int32 × Mem)} (hf : f_L_rest μ p1 = some r) : RtH G yL_rest F_L_rest (some .int) [.ref (G.2.1 + 0), .int p1, .ref (G.2.1 + 275)] μ (some (.int r.1)) r.2 := fun n => Sd.ofH hG ⟨by decide +kernel, rfl⟩ rfl (Nat.le_of_ble_eq_true rfl) rfl (fun C hK => s_L_rest_e hG hf hK)
theorem d_L_days_0 : decode cL_days 0 = .ok (.aload_n 2, 1) := by decide +kernel
theorem d_L_days_1 : decode cL_days 1 = .ok (.iconst 0, 1) := by decide +kernel
theorem d_L_days_2 : decode cL_days 2 = .ok (.aload_n 0, 1) := by decide +kernel
theorem d_L_days_3 : decode cL_days 3 = .ok (.iload_n 1, 1) := by decide +kernel
theorem d_L_days_4 : decode cL_days 4 = .ok (.invokevirtual 62, 3) := by decide +kernel
theorem d_L_days_7 : decode cL_days 7 = .ok (.i2l, 1) := by decide +kernel
theorem d_L_days_8 : decode cL_days 8 = .ok (.lastore, 1) := by decide +kernel
theorem d_L_days_9 : decode cL_days 9 = .ok (.goto 6, 3) := by decide +kernel
theorem d_L_days_12 : decode cL_days 12 = .ok (.astore_n 3, 1) := by decide +kernel
theorem d_L_days_13 : decode cL_days 13 = .ok (.iconst 1, 1) := by decide +kernel
theorem d_L_days_14 : decode cL_days 14 = .ok (.ireturn, 1) := by decide +kernel
theorem d_L_days_15 : decode cL_days 15 = .ok (.iconst 0, 1) := by decide +kernel
theorem d_L_days_16 : decode cL_days 16 = .ok (.ireturn, 1) := by decide +kernel
theorem s_L_days_e {G : Gl} (hG : G.1.stackTraces = false) {C : Cx} {n : Nat} {μ : Mem} {p1 : Int32} {r : (Int32 × Mem)} (hf : f_L_days μ p1 = some r) (hK : FinR G C F_L_days (some .int) (some (.int r.1)) r.2) : V G C F_L_days 0 [some (.ref (G.2.1 + 0)), some (.int p1), some (.ref (G.2.1 + 275)), none] [] (pic G μ) n 0 0 := by
  unfold f_L_days at hf
  refine V_aload_n d_L_days_0 rfl rfl ?_
  refine V_iconst (v := 0) d_L_days_1 ic_0 ?_
  refine V_aload_n d_L_days_2 rfl rfl ?_
  refine V_iload_n d_L_days_3 rfl rfl ?_
  obtain ⟨q1, hq1, hf⟩ := ob hf
  cases q1 with
  | inl e9 =>
    obtain ⟨k9, μ9⟩ := e9
    replace hf := elimL hf
    by_cases cx4_0 : k9 = 1
    · subst cx4_0
      replace hf := iteT rfl hf
      refine B_callVXt (kc' := 1) (ks' := 6) (s_X11_days hG hq1) k_0 clX11 m_X11_days kv_RL_62 d_L_days_4 rfl (Nat.le_of_ble_eq_true rfl) ⟨rfl, rfl, Nat.le_of_ble_eq_true rfl, Nat.le_of_ble_eq_true rfl, Nat.le_of_ble_eq_true rfl⟩ (fun n => ?_)
      refine VX_catch [] (0, 9, 12, 13) [] rfl (fun z hz => absurd hz List.not_mem_nil) (by decide) (by decide) w_582 (List.mem_of_getElem? (i := 1) rfl) (fun q9 => ?_)
      refine V_astore_n (ls' := [_, _, _, _]) d_L_days_12 rfl rfl rfl ?_
      refine V_iconst (v := 1) d_L_days_13 ic_1 ?_
      cases hf
      exact R_i hK d_L_days_14 (Nat.le_of_ble_eq_true rfl) (Nat.le_of_ble_eq_true rfl)
    replace hf := iteF cx4_0 hf
    cases hf
  | inr v2 =>
    replace hf := elimR hf
    refine B_callVX1 (kc' := 1) (ks' := 6) (s_X11_days hG hq1) k_0 clX11 m_X11_days kv_RL_62 d_L_days_4 rfl (Nat.le_of_ble_eq_true rfl) ⟨rfl, rfl, Nat.le_of_ble_eq_true rfl, Nat.le_of_ble_eq_true rfl, Nat.le_of_ble_eq_true rfl⟩ (fun n => ?_)
    refine V_i2l d_L_days_7 ?_
    obtain ⟨μ3, hμ3, hf⟩ := ob hf
    refine B_last k_275 hμ3 d_L_days_8 ?_
    refine V_goto (tgt := 15) d_L_days_9 (by decide) ?_
    refine V_iconst (v := 0) d_L_days_15 ic_0 ?_
    cases hf
    exact R_i hK d_L_days_16 (Nat.le_of_ble_eq_true rfl) (Nat.le_of_ble_eq_true rfl)
theorem s_L_days {G : Gl} (hG : G.1.stackTraces = false) {μ : Mem} {p1 : Int32} {r : (Int32 × Mem)} (hf : f_L_days μ p1 = some r) : RtH G yL_days F_L_days (some .int) [.ref (G.2.1 + 0), .int p1, .ref (G.2.1 + 275)] μ (some (.int r.1)) r.2 := fun n => Sd.ofH hG ⟨by decide +kernel, rfl⟩ rfl (Nat.le_of_ble_eq_true rfl) rfl (fun C hK => s_L_days_e hG hf hK)
theorem d_L_comes_0 : decode cL_comes 0 = .ok (.aload_n 3, 1) := by decide +kernel
theorem d_L_comes_1 : decode cL_comes 1 = .ok (.iconst 0, 1) := by decide +kernel
theorem d_L_comes_2 : decode cL_comes 2 = .ok (.aload_n 0, 1) := by decide +kernel
theorem d_L_comes_3 : decode cL_comes 3 = .ok (.iload_n 1, 1) := by decide +kernel
theorem d_L_comes_4 : decode cL_comes 4 = .ok (.iload_n 2, 1) := by decide +kernel
theorem d_L_comes_5 : decode cL_comes 5 = .ok (.invokevirtual 65, 3) := by decide +kernel
theorem d_L_comes_8 : decode cL_comes 8 = .ok (.i2l, 1) := by decide +kernel
theorem d_L_comes_9 : decode cL_comes 9 = .ok (.lastore, 1) := by decide +kernel
theorem d_L_comes_10 : decode cL_comes 10 = .ok (.goto 7, 3) := by decide +kernel
theorem d_L_comes_13 : decode cL_comes 13 = .ok (.astore 4, 2) := by decide +kernel
theorem d_L_comes_15 : decode cL_comes 15 = .ok (.iconst 1, 1) := by decide +kernel
theorem d_L_comes_16 : decode cL_comes 16 = .ok (.ireturn, 1) := by decide +kernel
theorem d_L_comes_17 : decode cL_comes 17 = .ok (.iconst 0, 1) := by decide +kernel
theorem d_L_comes_18 : decode cL_comes 18 = .ok (.ireturn, 1) := by decide +kernel
theorem s_L_comes_e {G : Gl} (hG : G.1.stackTraces = false) {C : Cx} {n : Nat} {μ : Mem} {p1 : Int32} {p2 : Int32} {r : (Int32 × Mem)} (hf : f_L_comes μ p1 p2 = some r) (hK : FinR G C F_L_comes (some .int) (some (.int r.1)) r.2) : V G C F_L_comes 0 [some (.ref (G.2.1 + 0)), some (.int p1), some (.int p2), some (.ref (G.2.1 + 275)), none] [] (pic G μ) n 0 0 := by
  unfold f_L_comes at hf
  refine V_aload_n d_L_comes_0 rfl rfl ?_
  refine V_iconst (v := 0) d_L_comes_1 ic_0 ?_
  refine V_aload_n d_L_comes_2 rfl rfl ?_
  refine V_iload_n d_L_comes_3 rfl rfl ?_
  refine V_iload_n d_L_comes_4 rfl rfl ?_
  obtain ⟨q1, hq1, hf⟩ := ob hf
  cases q1 with
  | inl e9 =>
    obtain ⟨k9, μ9⟩ := e9
    replace hf := elimL hf
    by_cases cx5_0 : k9 = 2
    · subst cx5_0
      replace hf := iteT rfl hf
      refine B_callVXt (kc' := 2) (ks' := 12) (s_X11_comes hG hq1) k_0 clX11 m_X11_comes kv_RL_65 d_L_comes_5 rfl (Nat.le_of_ble_eq_true rfl) ⟨rfl, rfl, Nat.le_of_ble_eq_true rfl, Nat.le_of_ble_eq_true rfl, Nat.le_of_ble_eq_true rfl⟩ (fun n => ?_)
      refine VX_catch [] (0, 10, 13, 24) [] rfl (fun z hz => absurd hz List.not_mem_nil) (by decide) (by decide) w_926 (List.mem_of_getElem? (i := 2) rfl) (fun q9 => ?_)
      refine V_astore (ls' := [_, _, _, _, _]) d_L_comes_13 rfl rfl ?_
      refine V_iconst (v := 1) d_L_comes_15 ic_1 ?_
      cases hf
      exact R_i hK d_L_comes_16 (Nat.le_of_ble_eq_true rfl) (Nat.le_of_ble_eq_true rfl)
    replace hf := iteF cx5_0 hf
    cases hf
  | inr v2 =>
    replace hf := elimR hf
    refine B_callVX1 (kc' := 2) (ks' := 12) (s_X11_comes hG hq1) k_0 clX11 m_X11_comes kv_RL_65 d_L_comes_5 rfl (Nat.le_of_ble_eq_true rfl) ⟨rfl, rfl, Nat.le_of_ble_eq_true rfl, Nat.le_of_ble_eq_true rfl, Nat.le_of_ble_eq_true rfl⟩ (fun n => ?_)
    refine V_i2l d_L_comes_8 ?_
    obtain ⟨μ3, hμ3, hf⟩ := ob hf
    refine B_last k_275 hμ3 d_L_comes_9 ?_
    refine V_goto (tgt := 17) d_L_comes_10 (by decide) ?_
    refine V_iconst (v := 0) d_L_comes_17 ic_0 ?_
    cases hf
    exact R_i hK d_L_comes_18 (Nat.le_of_ble_eq_true rfl) (Nat.le_of_ble_eq_true rfl)
theorem s_L_comes {G : Gl} (hG : G.1.stackTraces = false) {μ : Mem} {p1 : Int32} {p2 : Int32} {r : (Int32 × Mem)} (hf : f_L_comes μ p1 p2 = some r) : RtH G yL_comes F_L_comes (some .int) [.ref (G.2.1 + 0), .int p1, .int p2, .ref (G.2.1 + 275)] μ (some (.int r.1)) r.2 := fun n => Sd.ofH hG ⟨by decide +kernel, rfl⟩ rfl (Nat.le_of_ble_eq_true rfl) rfl (fun C hK => s_L_comes_e hG hf hK)
theorem d_L_soonest_0 : decode cL_soonest 0 = .ok (.aload_n 2, 1) := by decide +kernel
theorem d_L_soonest_1 : decode cL_soonest 1 = .ok (.iconst 0, 1) := by decide +kernel
theorem d_L_soonest_2 : decode cL_soonest 2 = .ok (.aload_n 0, 1) := by decide +kernel
theorem d_L_soonest_3 : decode cL_soonest 3 = .ok (.iload_n 1, 1) := by decide +kernel
theorem d_L_soonest_4 : decode cL_soonest 4 = .ok (.invokevirtual 68, 3) := by decide +kernel
theorem d_L_soonest_7 : decode cL_soonest 7 = .ok (.i2l, 1) := by decide +kernel
theorem d_L_soonest_8 : decode cL_soonest 8 = .ok (.lastore, 1) := by decide +kernel
theorem d_L_soonest_9 : decode cL_soonest 9 = .ok (.goto 6, 3) := by decide +kernel
theorem d_L_soonest_12 : decode cL_soonest 12 = .ok (.astore_n 3, 1) := by decide +kernel
theorem d_L_soonest_13 : decode cL_soonest 13 = .ok (.iconst 1, 1) := by decide +kernel
theorem d_L_soonest_14 : decode cL_soonest 14 = .ok (.ireturn, 1) := by decide +kernel
theorem d_L_soonest_15 : decode cL_soonest 15 = .ok (.iconst 0, 1) := by decide +kernel
theorem d_L_soonest_16 : decode cL_soonest 16 = .ok (.ireturn, 1) := by decide +kernel
theorem s_L_soonest_e {G : Gl} (hG : G.1.stackTraces = false) {C : Cx} {n : Nat} {μ : Mem} {p1 : Int32} {r : (Int32 × Mem)} (hf : f_L_soonest μ p1 = some r) (hK : FinR G C F_L_soonest (some .int) (some (.int r.1)) r.2) : V G C F_L_soonest 0 [some (.ref (G.2.1 + 0)), some (.int p1), some (.ref (G.2.1 + 275)), none] [] (pic G μ) n 0 0 := by
  unfold f_L_soonest at hf
  refine V_aload_n d_L_soonest_0 rfl rfl ?_
  refine V_iconst (v := 0) d_L_soonest_1 ic_0 ?_
  refine V_aload_n d_L_soonest_2 rfl rfl ?_
  refine V_iload_n d_L_soonest_3 rfl rfl ?_
  obtain ⟨q1, hq1, hf⟩ := ob hf
  cases q1 with
  | inl e9 =>
    obtain ⟨k9, μ9⟩ := e9
    replace hf := elimL hf
    by_cases cx4_0 : k9 = 2
    · subst cx4_0
      replace hf := iteT rfl hf
      refine B_callVXt (kc' := 1) (ks' := 6) (s_X11_soonest hG hq1) k_0 clX11 m_X11_soonest kv_RL_68 d_L_soonest_4 rfl (Nat.le_of_ble_eq_true rfl) ⟨rfl, rfl, Nat.le_of_ble_eq_true rfl, Nat.le_of_ble_eq_true rfl, Nat.le_of_ble_eq_true rfl⟩ (fun n => ?_)
      refine VX_catch [] (0, 9, 12, 24) [] rfl (fun z hz => absurd hz List.not_mem_nil) (by decide) (by decide) w_926 (List.mem_of_getElem? (i := 2) rfl) (fun q9 => ?_)
      refine V_astore_n (ls' := [_, _, _, _]) d_L_soonest_12 rfl rfl rfl ?_
      refine V_iconst (v := 1) d_L_soonest_13 ic_1 ?_
      cases hf
      exact R_i hK d_L_soonest_14 (Nat.le_of_ble_eq_true rfl) (Nat.le_of_ble_eq_true rfl)
    replace hf := iteF cx4_0 hf
    cases hf
  | inr v2 =>
    replace hf := elimR hf
    refine B_callVX1 (kc' := 1) (ks' := 6) (s_X11_soonest hG hq1) k_0 clX11 m_X11_soonest kv_RL_68 d_L_soonest_4 rfl (Nat.le_of_ble_eq_true rfl) ⟨rfl, rfl, Nat.le_of_ble_eq_true rfl, Nat.le_of_ble_eq_true rfl, Nat.le_of_ble_eq_true rfl⟩ (fun n => ?_)
    refine V_i2l d_L_soonest_7 ?_
    obtain ⟨μ3, hμ3, hf⟩ := ob hf
    refine B_last k_275 hμ3 d_L_soonest_8 ?_
    refine V_goto (tgt := 15) d_L_soonest_9 (by decide) ?_
    refine V_iconst (v := 0) d_L_soonest_15 ic_0 ?_
    cases hf
    exact R_i hK d_L_soonest_16 (Nat.le_of_ble_eq_true rfl) (Nat.le_of_ble_eq_true rfl)
theorem s_L_soonest {G : Gl} (hG : G.1.stackTraces = false) {μ : Mem} {p1 : Int32} {r : (Int32 × Mem)} (hf : f_L_soonest μ p1 = some r) : RtH G yL_soonest F_L_soonest (some .int) [.ref (G.2.1 + 0), .int p1, .ref (G.2.1 + 275)] μ (some (.int r.1)) r.2 := fun n => Sd.ofH hG ⟨by decide +kernel, rfl⟩ rfl (Nat.le_of_ble_eq_true rfl) rfl (fun C hK => s_L_soonest_e hG hf hK)
theorem d_L_carry_0 : decode cL_carry 0 = .ok (.aload_n 2, 1) := by decide +kernel
theorem d_L_carry_1 : decode cL_carry 1 = .ok (.iconst 0, 1) := by decide +kernel
theorem d_L_carry_2 : decode cL_carry 2 = .ok (.aload_n 0, 1) := by decide +kernel
theorem d_L_carry_3 : decode cL_carry 3 = .ok (.iload_n 1, 1) := by decide +kernel
theorem d_L_carry_4 : decode cL_carry 4 = .ok (.invokevirtual 71, 3) := by decide +kernel
theorem d_L_carry_7 : decode cL_carry 7 = .ok (.i2l, 1) := by decide +kernel
theorem d_L_carry_8 : decode cL_carry 8 = .ok (.lastore, 1) := by decide +kernel
theorem d_L_carry_9 : decode cL_carry 9 = .ok (.goto 9, 3) := by decide +kernel
theorem d_L_carry_12 : decode cL_carry 12 = .ok (.astore_n 3, 1) := by decide +kernel
theorem d_L_carry_13 : decode cL_carry 13 = .ok (.iconst 1, 1) := by decide +kernel
theorem d_L_carry_14 : decode cL_carry 14 = .ok (.ireturn, 1) := by decide +kernel
theorem d_L_carry_15 : decode cL_carry 15 = .ok (.astore_n 3, 1) := by decide +kernel
theorem d_L_carry_16 : decode cL_carry 16 = .ok (.iconst 2, 1) := by decide +kernel
theorem d_L_carry_17 : decode cL_carry 17 = .ok (.ireturn, 1) := by decide +kernel
theorem d_L_carry_18 : decode cL_carry 18 = .ok (.iconst 0, 1) := by decide +kernel
theorem d_L_carry_19 : decode cL_carry 19 = .ok (.ireturn, 1) := by decide +kernel
theorem s_L_carry_e {G : Gl} (hG : G.1.stackTraces = false) {C : Cx} {n : Nat} {μ : Mem} {p1 : Int32} {r : (Int32 × Mem)} (hf : f_L_carry μ p1 = some r) (hK : FinR G C F_L_carry (some .int) (some (.int r.1)) r.2) : V G C F_L_carry 0 [some (.ref (G.2.1 + 0)), some (.int p1), some (.ref (G.2.1 + 275)), none] [] (pic G μ) n 0 0 := by
  unfold f_L_carry at hf
  refine V_aload_n d_L_carry_0 rfl rfl ?_
  refine V_iconst (v := 0) d_L_carry_1 ic_0 ?_
  refine V_aload_n d_L_carry_2 rfl rfl ?_
  refine V_iload_n d_L_carry_3 rfl rfl ?_
  obtain ⟨q1, hq1, hf⟩ := ob hf
  cases q1 with
  | inl e9 =>
    obtain ⟨k9, μ9⟩ := e9
    replace hf := elimL hf
    by_cases cx4_0 : k9 = 2
    · subst cx4_0
      replace hf := iteT rfl hf
      refine B_callVXt (kc' := 2) (ks' := 12) (s_X11_carry hG hq1) k_0 clX11 m_X11_carry kv_RL_71 d_L_carry_4 rfl (Nat.le_of_ble_eq_true rfl) ⟨rfl, rfl, Nat.le_of_ble_eq_true rfl, Nat.le_of_ble_eq_true rfl, Nat.le_of_ble_eq_true rfl⟩ (fun n => ?_)
      refine VX_catch [] (0, 9, 12, 24) [(0, 9, 15, 13)] rfl (fun z hz => absurd hz List.not_mem_nil) (by decide) (by decide) w_926 (List.mem_of_getElem? (i := 2) rfl) (fun q9 => ?_)
      refine V_astore_n (ls' := [_, _, _, _]) d_L_carry_12 rfl rfl rfl ?_
      refine V_iconst (v := 1) d_L_carry_13 ic_1 ?_
      cases hf
      exact R_i hK d_L_carry_14 (Nat.le_of_ble_eq_true rfl) (Nat.le_of_ble_eq_true rfl)
    replace hf := iteF cx4_0 hf
    by_cases cx4_1 : k9 = 1
    · subst cx4_1
      replace hf := iteT rfl hf
      refine B_callVXt (kc' := 2) (ks' := 12) (s_X11_carry hG hq1) k_0 clX11 m_X11_carry kv_RL_71 d_L_carry_4 rfl (Nat.le_of_ble_eq_true rfl) ⟨rfl, rfl, Nat.le_of_ble_eq_true rfl, Nat.le_of_ble_eq_true rfl, Nat.le_of_ble_eq_true rfl⟩ (fun n => ?_)
      refine VX_catch [(0, 9, 12, 24)] (0, 9, 15, 13) [] rfl (all9_mem (l := [(0, 9, 12, 24)]) ⟨⟨by decide, "java/lang/IndexOutOfBoundsException", w_926, List.mem_of_getElem? (i := 2) rfl⟩, trivial⟩) (by decide) (by decide) w_582 (List.mem_of_getElem? (i := 1) rfl) (fun q9 => ?_)
      refine V_astore_n (ls' := [_, _, _, _]) d_L_carry_15 rfl rfl rfl ?_
      refine V_iconst (v := 2) d_L_carry_16 ic_2 ?_
      cases hf
      exact R_i hK d_L_carry_17 (Nat.le_of_ble_eq_true rfl) (Nat.le_of_ble_eq_true rfl)
    replace hf := iteF cx4_1 hf
    cases hf
  | inr v2 =>
    replace hf := elimR hf
    refine B_callVX1 (kc' := 2) (ks' := 12) (s_X11_carry hG hq1) k_0 clX11 m_X11_carry kv_RL_71 d_L_carry_4 rfl (Nat.le_of_ble_eq_true rfl) ⟨rfl, rfl, Nat.le_of_ble_eq_true rfl, Nat.le_of_ble_eq_true rfl, Nat.le_of_ble_eq_true rfl⟩ (fun n => ?_)
    refine V_i2l d_L_carry_7 ?_
    obtain ⟨μ3, hμ3, hf⟩ := ob hf
    refine B_last k_275 hμ3 d_L_carry_8 ?_
    refine V_goto (tgt := 18) d_L_carry_9 (by decide) ?_
    refine V_iconst (v := 0) d_L_carry_18 ic_0 ?_
    cases hf
    exact R_i hK d_L_carry_19 (Nat.le_of_ble_eq_true rfl) (Nat.le_of_ble_eq_true rfl)
theorem s_L_carry {G : Gl} (hG : G.1.stackTraces = false) {μ : Mem} {p1 : Int32} {r : (Int32 × Mem)} (hf : f_L_carry μ p1 = some r) : RtH G yL_carry F_L_carry (some .int) [.ref (G.2.1 + 0), .int p1, .ref (G.2.1 + 275)] μ (some (.int r.1)) r.2 := fun n => Sd.ofH hG ⟨by decide +kernel, rfl⟩ rfl (Nat.le_of_ble_eq_true rfl) rfl (fun C hK => s_L_carry_e hG hf hK)
theorem d_L_ahead_0 : decode cL_ahead 0 = .ok (.aload 4, 2) := by decide +kernel
theorem d_L_ahead_2 : decode cL_ahead 2 = .ok (.iconst 0, 1) := by decide +kernel
theorem d_L_ahead_3 : decode cL_ahead 3 = .ok (.aload_n 0, 1) := by decide +kernel
theorem d_L_ahead_4 : decode cL_ahead 4 = .ok (.iload_n 1, 1) := by decide +kernel
theorem d_L_ahead_5 : decode cL_ahead 5 = .ok (.iload_n 2, 1) := by decide +kernel
theorem d_L_ahead_6 : decode cL_ahead 6 = .ok (.iload_n 3, 1) := by decide +kernel
theorem d_L_ahead_7 : decode cL_ahead 7 = .ok (.invokevirtual 74, 3) := by decide +kernel
theorem d_L_ahead_10 : decode cL_ahead 10 = .ok (.i2l, 1) := by decide +kernel
theorem d_L_ahead_11 : decode cL_ahead 11 = .ok (.lastore, 1) := by decide +kernel
theorem d_L_ahead_12 : decode cL_ahead 12 = .ok (.goto 11, 3) := by decide +kernel
theorem d_L_ahead_15 : decode cL_ahead 15 = .ok (.astore 5, 2) := by decide +kernel
theorem d_L_ahead_17 : decode cL_ahead 17 = .ok (.iconst 1, 1) := by decide +kernel
theorem d_L_ahead_18 : decode cL_ahead 18 = .ok (.ireturn, 1) := by decide +kernel
theorem d_L_ahead_19 : decode cL_ahead 19 = .ok (.astore 5, 2) := by decide +kernel
theorem d_L_ahead_21 : decode cL_ahead 21 = .ok (.iconst 2, 1) := by decide +kernel
theorem d_L_ahead_22 : decode cL_ahead 22 = .ok (.ireturn, 1) := by decide +kernel
theorem d_L_ahead_23 : decode cL_ahead 23 = .ok (.iconst 0, 1) := by decide +kernel
theorem d_L_ahead_24 : decode cL_ahead 24 = .ok (.ireturn, 1) := by decide +kernel
theorem s_L_ahead_e {G : Gl} (hG : G.1.stackTraces = false) {C : Cx} {n : Nat} {μ : Mem} {p1 : Int32} {p2 : Int32} {p3 : Bool} {r : (Int32 × Mem)} (hf : f_L_ahead μ p1 p2 p3 = some r) (hK : FinR G C F_L_ahead (some .int) (some (.int r.1)) r.2) : V G C F_L_ahead 0 [some (.ref (G.2.1 + 0)), some (.int p1), some (.int p2), some (.int (b2i p3)), some (.ref (G.2.1 + 275)), none] [] (pic G μ) n 0 0 := by
  unfold f_L_ahead at hf
  refine V_aload d_L_ahead_0 rfl ?_
  refine V_iconst (v := 0) d_L_ahead_2 ic_0 ?_
  refine V_aload_n d_L_ahead_3 rfl rfl ?_
  refine V_iload_n d_L_ahead_4 rfl rfl ?_
  refine V_iload_n d_L_ahead_5 rfl rfl ?_
  refine V_iload_n d_L_ahead_6 rfl rfl ?_
  obtain ⟨q1, hq1, hf⟩ := ob hf
  cases q1 with
  | inl e9 =>
    obtain ⟨k9, μ9⟩ := e9
    replace hf := elimL hf
    by_cases cx7_0 : k9 = 2
    · subst cx7_0
      replace hf := iteT rfl hf
      refine B_callVXt (kc' := 2) (ks' := 12) (s_X11_ahead hG hq1) k_0 clX11 m_X11_ahead kv_RL_74 d_L_ahead_7 rfl (Nat.le_of_ble_eq_true rfl) ⟨rfl, rfl, Nat.le_of_ble_eq_true rfl, Nat.le_of_ble_eq_true rfl, Nat.le_of_ble_eq_true rfl⟩ (fun n => ?_)
      refine VX_catch [] (0, 12, 15, 24) [(0, 12, 19, 13)] rfl (fun z hz => absurd hz List.not_mem_nil) (by decide) (by decide) w_926 (List.mem_of_getElem? (i := 2) rfl) (fun q9 => ?_)
      refine V_astore (ls' := [_, _, _, _, _, _]) d_L_ahead_15 rfl rfl ?_
      refine V_iconst (v := 1) d_L_ahead_17 ic_1 ?_
      cases hf
      exact R_i hK d_L_ahead_18 (Nat.le_of_ble_eq_true rfl) (Nat.le_of_ble_eq_true rfl)
    replace hf := iteF cx7_0 hf
    by_cases cx7_1 : k9 = 1
    · subst cx7_1
      replace hf := iteT rfl hf
      refine B_callVXt (kc' := 2) (ks' := 12) (s_X11_ahead hG hq1) k_0 clX11 m_X11_ahead kv_RL_74 d_L_ahead_7 rfl (Nat.le_of_ble_eq_true rfl) ⟨rfl, rfl, Nat.le_of_ble_eq_true rfl, Nat.le_of_ble_eq_true rfl, Nat.le_of_ble_eq_true rfl⟩ (fun n => ?_)
      refine VX_catch [(0, 12, 15, 24)] (0, 12, 19, 13) [] rfl (all9_mem (l := [(0, 12, 15, 24)]) ⟨⟨by decide, "java/lang/IndexOutOfBoundsException", w_926, List.mem_of_getElem? (i := 2) rfl⟩, trivial⟩) (by decide) (by decide) w_582 (List.mem_of_getElem? (i := 1) rfl) (fun q9 => ?_)
      refine V_astore (ls' := [_, _, _, _, _, _]) d_L_ahead_19 rfl rfl ?_
      refine V_iconst (v := 2) d_L_ahead_21 ic_2 ?_
      cases hf
      exact R_i hK d_L_ahead_22 (Nat.le_of_ble_eq_true rfl) (Nat.le_of_ble_eq_true rfl)
    replace hf := iteF cx7_1 hf
    cases hf
  | inr v2 =>
    replace hf := elimR hf
    refine B_callVX1 (kc' := 2) (ks' := 12) (s_X11_ahead hG hq1) k_0 clX11 m_X11_ahead kv_RL_74 d_L_ahead_7 rfl (Nat.le_of_ble_eq_true rfl) ⟨rfl, rfl, Nat.le_of_ble_eq_true rfl, Nat.le_of_ble_eq_true rfl, Nat.le_of_ble_eq_true rfl⟩ (fun n => ?_)
    refine V_i2l d_L_ahead_10 ?_
    obtain ⟨μ3, hμ3, hf⟩ := ob hf
    refine B_last k_275 hμ3 d_L_ahead_11 ?_
    refine V_goto (tgt := 23) d_L_ahead_12 (by decide) ?_
    refine V_iconst (v := 0) d_L_ahead_23 ic_0 ?_
    cases hf
    exact R_i hK d_L_ahead_24 (Nat.le_of_ble_eq_true rfl) (Nat.le_of_ble_eq_true rfl)
theorem s_L_ahead {G : Gl} (hG : G.1.stackTraces = false) {μ : Mem} {p1 : Int32} {p2 : Int32} {p3 : Bool} {r : (Int32 × Mem)} (hf : f_L_ahead μ p1 p2 p3 = some r) : RtH G yL_ahead F_L_ahead (some .int) [.ref (G.2.1 + 0), .int p1, .int p2, .int (b2i p3), .ref (G.2.1 + 275)] μ (some (.int r.1)) r.2 := fun n => Sd.ofH hG ⟨by decide +kernel, rfl⟩ rfl (Nat.le_of_ble_eq_true rfl) rfl (fun C hK => s_L_ahead_e hG hf hK)
theorem d_L_owes_0 : decode cL_owes 0 = .ok (.aload_n 3, 1) := by decide +kernel
theorem d_L_owes_1 : decode cL_owes 1 = .ok (.iconst 0, 1) := by decide +kernel
theorem d_L_owes_2 : decode cL_owes 2 = .ok (.aload_n 0, 1) := by decide +kernel
theorem d_L_owes_3 : decode cL_owes 3 = .ok (.iload_n 1, 1) := by decide +kernel
theorem d_L_owes_4 : decode cL_owes 4 = .ok (.iload_n 2, 1) := by decide +kernel
theorem d_L_owes_5 : decode cL_owes 5 = .ok (.invokevirtual 78, 3) := by decide +kernel
theorem d_L_owes_8 : decode cL_owes 8 = .ok (.ifCond .eq 7, 3) := by decide +kernel
theorem d_L_owes_11 : decode cL_owes 11 = .ok (.lconst 1, 1) := by decide +kernel
theorem d_L_owes_12 : decode cL_owes 12 = .ok (.goto 4, 3) := by decide +kernel
theorem d_L_owes_15 : decode cL_owes 15 = .ok (.lconst 0, 1) := by decide +kernel
theorem d_L_owes_16 : decode cL_owes 16 = .ok (.lastore, 1) := by decide +kernel
theorem d_L_owes_17 : decode cL_owes 17 = .ok (.goto 11, 3) := by decide +kernel
theorem d_L_owes_20 : decode cL_owes 20 = .ok (.astore 4, 2) := by decide +kernel
theorem d_L_owes_22 : decode cL_owes 22 = .ok (.iconst 1, 1) := by decide +kernel
theorem d_L_owes_23 : decode cL_owes 23 = .ok (.ireturn, 1) := by decide +kernel
theorem d_L_owes_24 : decode cL_owes 24 = .ok (.astore 4, 2) := by decide +kernel
theorem d_L_owes_26 : decode cL_owes 26 = .ok (.iconst 2, 1) := by decide +kernel
theorem d_L_owes_27 : decode cL_owes 27 = .ok (.ireturn, 1) := by decide +kernel
theorem d_L_owes_28 : decode cL_owes 28 = .ok (.iconst 0, 1) := by decide +kernel
theorem d_L_owes_29 : decode cL_owes 29 = .ok (.ireturn, 1) := by decide +kernel
theorem s_L_owes_j16 {G : Gl} (hG : G.1.stackTraces = false) {C : Cx} {n : Nat} {μ : Mem} {k1 : Int32} {k2 : Int32} {r : (Int32 × Mem)} (hf : f_L_owes_j16 μ k1 k2 = some r) (hK : FinR G C F_L_owes (some .int) (some (.int r.1)) r.2) : V G C F_L_owes 16 [none, none, none, none, none] [.long (Int32.toInt64 k2), .int k1, .ref (G.2.1 + 275)] (pic G μ) n 3 18 := by
  unfold f_L_owes_j16 at hf
  obtain ⟨μ1, hμ1, hf⟩ := ob hf
  refine B_last k_275 hμ1 d_L_owes_16 ?_
  refine V_goto (tgt := 28) d_L_owes_17 (by decide) ?_
  refine V_iconst (v := 0) d_L_owes_28 ic_0 ?_
  cases hf
  exact R_i hK d_L_owes_29 (Nat.le_of_ble_eq_true rfl) (Nat.le_of_ble_eq_true rfl)
theorem s_L_owes_e {G : Gl} (hG : G.1.stackTraces = false) {C : Cx} {n : Nat} {μ : Mem} {p1 : Int32} {p2 : Int32} {r : (Int32 × Mem)} (hf : f_L_owes μ p1 p2 = some r) (hK : FinR G C F_L_owes (some .int) (some (.int r.1)) r.2) : V G C F_L_owes 0 [some (.ref (G.2.1 + 0)), some (.int p1), some (.int p2), some (.ref (G.2.1 + 275)), none] [] (pic G μ) n 0 0 := by
  unfold f_L_owes at hf
  refine V_aload_n d_L_owes_0 rfl rfl ?_
  refine V_iconst (v := 0) d_L_owes_1 ic_0 ?_
  refine V_aload_n d_L_owes_2 rfl rfl ?_
  refine V_iload_n d_L_owes_3 rfl rfl ?_
  refine V_iload_n d_L_owes_4 rfl rfl ?_
  obtain ⟨q1, hq1, hf⟩ := ob hf
  cases q1 with
  | inl e9 =>
    obtain ⟨k9, μ9⟩ := e9
    replace hf := elimL hf
    by_cases cx5_0 : k9 = 2
    · subst cx5_0
      replace hf := iteT rfl hf
      refine B_callVXt (kc' := 3) (ks' := 18) (s_X11_owes hG hq1) k_0 clX11 m_X11_owes kv_RL_78 d_L_owes_5 rfl (Nat.le_of_ble_eq_true rfl) ⟨rfl, rfl, Nat.le_of_ble_eq_true rfl, Nat.le_of_ble_eq_true rfl, Nat.le_of_ble_eq_true rfl⟩ (fun n => ?_)
      refine VX_catch [] (0, 17, 20, 24) [(0, 17, 24, 13)] rfl (fun z hz => absurd hz List.not_mem_nil) (by decide) (by decide) w_926 (List.mem_of_getElem? (i := 2) rfl) (fun q9 => ?_)
      refine V_astore (ls' := [_, _, _, _, _]) d_L_owes_20 rfl rfl ?_
      refine V_iconst (v := 1) d_L_owes_22 ic_1 ?_
      cases hf
      exact R_i hK d_L_owes_23 (Nat.le_of_ble_eq_true rfl) (Nat.le_of_ble_eq_true rfl)
    replace hf := iteF cx5_0 hf
    by_cases cx5_1 : k9 = 1
    · subst cx5_1
      replace hf := iteT rfl hf
      refine B_callVXt (kc' := 3) (ks' := 18) (s_X11_owes hG hq1) k_0 clX11 m_X11_owes kv_RL_78 d_L_owes_5 rfl (Nat.le_of_ble_eq_true rfl) ⟨rfl, rfl, Nat.le_of_ble_eq_true rfl, Nat.le_of_ble_eq_true rfl, Nat.le_of_ble_eq_true rfl⟩ (fun n => ?_)
      refine VX_catch [(0, 17, 20, 24)] (0, 17, 24, 13) [] rfl (all9_mem (l := [(0, 17, 20, 24)]) ⟨⟨by decide, "java/lang/IndexOutOfBoundsException", w_926, List.mem_of_getElem? (i := 2) rfl⟩, trivial⟩) (by decide) (by decide) w_582 (List.mem_of_getElem? (i := 1) rfl) (fun q9 => ?_)
      refine V_astore (ls' := [_, _, _, _, _]) d_L_owes_24 rfl rfl ?_
      refine V_iconst (v := 2) d_L_owes_26 ic_2 ?_
      cases hf
      exact R_i hK d_L_owes_27 (Nat.le_of_ble_eq_true rfl) (Nat.le_of_ble_eq_true rfl)
    replace hf := iteF cx5_1 hf
    cases hf
  | inr v2 =>
    replace hf := elimR hf
    refine B_callVX1 (kc' := 3) (ks' := 18) (s_X11_owes hG hq1) k_0 clX11 m_X11_owes kv_RL_78 d_L_owes_5 rfl (Nat.le_of_ble_eq_true rfl) ⟨rfl, rfl, Nat.le_of_ble_eq_true rfl, Nat.le_of_ble_eq_true rfl, Nat.le_of_ble_eq_true rfl⟩ (fun n => ?_)
    refine V_if_eq (tgt := 15) d_L_owes_8 (by decide) (fun c8 => ?_) (fun c8 => ?_)
    · replace hf := iteF (b2i_nt (b2i_eq0 c8)) hf
      refine V_lconst (v := Int32.toInt64 0) d_L_owes_15 lc_0 ?_
      refine V_less (ls' := [none, none, none, none, none]) trivial ?_
      exact s_L_owes_j16 hG hf hK
    · replace hf := iteT (b2i_ne0 c8) hf
      refine V_lconst (v := Int32.toInt64 1) d_L_owes_11 lc_1 ?_
      refine V_goto (tgt := 16) d_L_owes_12 (by decide) ?_
      refine V_less (ls' := [none, none, none, none, none]) trivial ?_
      exact s_L_owes_j16 hG hf hK
theorem s_L_owes {G : Gl} (hG : G.1.stackTraces = false) {μ : Mem} {p1 : Int32} {p2 : Int32} {r : (Int32 × Mem)} (hf : f_L_owes μ p1 p2 = some r) : RtH G yL_owes F_L_owes (some .int) [.ref (G.2.1 + 0), .int p1, .int p2, .ref (G.2.1 + 275)] μ (some (.int r.1)) r.2 := fun n => Sd.ofH hG ⟨by decide +kernel, rfl⟩ rfl (Nat.le_of_ble_eq_true rfl) rfl (fun C hK => s_L_owes_e hG hf hK)
theorem d_L_leads_0 : decode cL_leads 0 = .ok (.aload_n 2, 1) := by decide +kernel
theorem d_L_leads_1 : decode cL_leads 1 = .ok (.iconst 0, 1) := by decide +kernel
theorem d_L_leads_2 : decode cL_leads 2 = .ok (.aload_n 0, 1) := by decide +kernel
theorem d_L_leads_3 : decode cL_leads 3 = .ok (.iload_n 1, 1) := by decide +kernel
theorem d_L_leads_4 : decode cL_leads 4 = .ok (.invokevirtual 82, 3) := by decide +kernel
theorem d_L_leads_7 : decode cL_leads 7 = .ok (.i2l, 1) := by decide +kernel
theorem d_L_leads_8 : decode cL_leads 8 = .ok (.lastore, 1) := by decide +kernel
theorem d_L_leads_9 : decode cL_leads 9 = .ok (.goto 6, 3) := by decide +kernel
theorem d_L_leads_12 : decode cL_leads 12 = .ok (.astore_n 3, 1) := by decide +kernel
theorem d_L_leads_13 : decode cL_leads 13 = .ok (.iconst 1, 1) := by decide +kernel
theorem d_L_leads_14 : decode cL_leads 14 = .ok (.ireturn, 1) := by decide +kernel
theorem d_L_leads_15 : decode cL_leads 15 = .ok (.iconst 0, 1) := by decide +kernel
theorem d_L_leads_16 : decode cL_leads 16 = .ok (.ireturn, 1) := by decide +kernel
theorem s_L_leads_e {G : Gl} (hG : G.1.stackTraces = false) {C : Cx} {n : Nat} {μ : Mem} {p1 : Int32} {r : (Int32 × Mem)} (hf : f_L_leads μ p1 = some r) (hK : FinR G C F_L_leads (some .int) (some (.int r.1)) r.2) : V G C F_L_leads 0 [some (.ref (G.2.1 + 0)), some (.int p1), some (.ref (G.2.1 + 275)), none] [] (pic G μ) n 0 0 := by
  unfold f_L_leads at hf
  refine V_aload_n d_L_leads_0 rfl rfl ?_
  refine V_iconst (v := 0) d_L_leads_1 ic_0 ?_
  refine V_aload_n d_L_leads_2 rfl rfl ?_
  refine V_iload_n d_L_leads_3 rfl rfl ?_
  obtain ⟨q1, hq1, hf⟩ := ob hf
  cases q1 with
  | inl e9 =>
    obtain ⟨k9, μ9⟩ := e9
    replace hf := elimL hf
    by_cases cx4_0 : k9 = 2
    · subst cx4_0
      replace hf := iteT rfl hf
      refine B_callVXt (kc' := 1) (ks' := 6) (s_X11_leads hG hq1) k_0 clX11 m_X11_leads kv_RL_82 d_L_leads_4 rfl (Nat.le_of_ble_eq_true rfl) ⟨rfl, rfl, Nat.le_of_ble_eq_true rfl, Nat.le_of_ble_eq_true rfl, Nat.le_of_ble_eq_true rfl⟩ (fun n => ?_)
      refine VX_catch [] (0, 9, 12, 24) [] rfl (fun z hz => absurd hz List.not_mem_nil) (by decide) (by decide) w_926 (List.mem_of_getElem? (i := 2) rfl) (fun q9 => ?_)
      refine V_astore_n (ls' := [_, _, _, _]) d_L_leads_12 rfl rfl rfl ?_
      refine V_iconst (v := 1) d_L_leads_13 ic_1 ?_
      cases hf
      exact R_i hK d_L_leads_14 (Nat.le_of_ble_eq_true rfl) (Nat.le_of_ble_eq_true rfl)
    replace hf := iteF cx4_0 hf
    cases hf
  | inr v2 =>
    replace hf := elimR hf
    refine B_callVX1 (kc' := 1) (ks' := 6) (s_X11_leads hG hq1) k_0 clX11 m_X11_leads kv_RL_82 d_L_leads_4 rfl (Nat.le_of_ble_eq_true rfl) ⟨rfl, rfl, Nat.le_of_ble_eq_true rfl, Nat.le_of_ble_eq_true rfl, Nat.le_of_ble_eq_true rfl⟩ (fun n => ?_)
    refine V_i2l d_L_leads_7 ?_
    obtain ⟨μ3, hμ3, hf⟩ := ob hf
    refine B_last k_275 hμ3 d_L_leads_8 ?_
    refine V_goto (tgt := 15) d_L_leads_9 (by decide) ?_
    refine V_iconst (v := 0) d_L_leads_15 ic_0 ?_
    cases hf
    exact R_i hK d_L_leads_16 (Nat.le_of_ble_eq_true rfl) (Nat.le_of_ble_eq_true rfl)
theorem s_L_leads {G : Gl} (hG : G.1.stackTraces = false) {μ : Mem} {p1 : Int32} {r : (Int32 × Mem)} (hf : f_L_leads μ p1 = some r) : RtH G yL_leads F_L_leads (some .int) [.ref (G.2.1 + 0), .int p1, .ref (G.2.1 + 275)] μ (some (.int r.1)) r.2 := fun n => Sd.ofH hG ⟨by decide +kernel, rfl⟩ rfl (Nat.le_of_ble_eq_true rfl) rfl (fun C hK => s_L_leads_e hG hf hK)
theorem d_L_call_0 : decode cL_call 0 = .ok (.aload_n 3, 1) := by decide +kernel
theorem d_L_call_1 : decode cL_call 1 = .ok (.iconst 0, 1) := by decide +kernel
theorem d_L_call_2 : decode cL_call 2 = .ok (.aload_n 0, 1) := by decide +kernel
theorem d_L_call_3 : decode cL_call 3 = .ok (.iload_n 1, 1) := by decide +kernel
theorem d_L_call_4 : decode cL_call 4 = .ok (.iload_n 2, 1) := by decide +kernel
theorem d_L_call_5 : decode cL_call 5 = .ok (.invokevirtual 85, 3) := by decide +kernel
theorem d_L_call_8 : decode cL_call 8 = .ok (.i2l, 1) := by decide +kernel
theorem d_L_call_9 : decode cL_call 9 = .ok (.lastore, 1) := by decide +kernel
theorem d_L_call_10 : decode cL_call 10 = .ok (.goto 7, 3) := by decide +kernel
theorem d_L_call_13 : decode cL_call 13 = .ok (.astore 4, 2) := by decide +kernel
theorem d_L_call_15 : decode cL_call 15 = .ok (.iconst 1, 1) := by decide +kernel
theorem d_L_call_16 : decode cL_call 16 = .ok (.ireturn, 1) := by decide +kernel
theorem d_L_call_17 : decode cL_call 17 = .ok (.iconst 0, 1) := by decide +kernel
theorem d_L_call_18 : decode cL_call 18 = .ok (.ireturn, 1) := by decide +kernel
theorem s_L_call_e {G : Gl} (hG : G.1.stackTraces = false) {C : Cx} {n : Nat} {μ : Mem} {p1 : Int32} {p2 : Bool} {r : (Int32 × Mem)} (hf : f_L_call μ p1 p2 = some r) (hK : FinR G C F_L_call (some .int) (some (.int r.1)) r.2) : V G C F_L_call 0 [some (.ref (G.2.1 + 0)), some (.int p1), some (.int (b2i p2)), some (.ref (G.2.1 + 275)), none] [] (pic G μ) n 0 0 := by
  unfold f_L_call at hf
  refine V_aload_n d_L_call_0 rfl rfl ?_
  refine V_iconst (v := 0) d_L_call_1 ic_0 ?_
  refine V_aload_n d_L_call_2 rfl rfl ?_
  refine V_iload_n d_L_call_3 rfl rfl ?_
  refine V_iload_n d_L_call_4 rfl rfl ?_
  obtain ⟨q1, hq1, hf⟩ := ob hf
  cases q1 with
  | inl e9 =>
    obtain ⟨k9, μ9⟩ := e9
    replace hf := elimL hf
    by_cases cx5_0 : k9 = 2
    · subst cx5_0
      replace hf := iteT rfl hf
      refine B_callVXt (kc' := 1) (ks' := 6) (s_X11_call hG hq1) k_0 clX11 m_X11_call kv_RL_85 d_L_call_5 rfl (Nat.le_of_ble_eq_true rfl) ⟨rfl, rfl, Nat.le_of_ble_eq_true rfl, Nat.le_of_ble_eq_true rfl, Nat.le_of_ble_eq_true rfl⟩ (fun n => ?_)
      refine VX_catch [] (0, 10, 13, 24) [] rfl (fun z hz => absurd hz List.not_mem_nil) (by decide) (by decide) w_926 (List.mem_of_getElem? (i := 2) rfl) (fun q9 => ?_)
      refine V_astore (ls' := [_, _, _, _, _]) d_L_call_13 rfl rfl ?_
      refine V_iconst (v := 1) d_L_call_15 ic_1 ?_
      cases hf
      exact R_i hK d_L_call_16 (Nat.le_of_ble_eq_true rfl) (Nat.le_of_ble_eq_true rfl)
    replace hf := iteF cx5_0 hf
    cases hf
  | inr v2 =>
    replace hf := elimR hf
    refine B_callVX1 (kc' := 1) (ks' := 6) (s_X11_call hG hq1) k_0 clX11 m_X11_call kv_RL_85 d_L_call_5 rfl (Nat.le_of_ble_eq_true rfl) ⟨rfl, rfl, Nat.le_of_ble_eq_true rfl, Nat.le_of_ble_eq_true rfl, Nat.le_of_ble_eq_true rfl⟩ (fun n => ?_)
    refine V_i2l d_L_call_8 ?_
    obtain ⟨μ3, hμ3, hf⟩ := ob hf
    refine B_last k_275 hμ3 d_L_call_9 ?_
    refine V_goto (tgt := 17) d_L_call_10 (by decide) ?_
    refine V_iconst (v := 0) d_L_call_17 ic_0 ?_
    cases hf
    exact R_i hK d_L_call_18 (Nat.le_of_ble_eq_true rfl) (Nat.le_of_ble_eq_true rfl)
theorem s_L_call {G : Gl} (hG : G.1.stackTraces = false) {μ : Mem} {p1 : Int32} {p2 : Bool} {r : (Int32 × Mem)} (hf : f_L_call μ p1 p2 = some r) : RtH G yL_call F_L_call (some .int) [.ref (G.2.1 + 0), .int p1, .int (b2i p2), .ref (G.2.1 + 275)] μ (some (.int r.1)) r.2 := fun n => Sd.ofH hG ⟨by decide +kernel, rfl⟩ rfl (Nat.le_of_ble_eq_true rfl) rfl (fun C hK => s_L_call_e hG hf hK)
theorem d_L_breaks_0 : decode cL_breaks 0 = .ok (.aload_n 2, 1) := by decide +kernel
theorem d_L_breaks_1 : decode cL_breaks 1 = .ok (.iconst 0, 1) := by decide +kernel
theorem d_L_breaks_2 : decode cL_breaks 2 = .ok (.aload_n 0, 1) := by decide +kernel
theorem d_L_breaks_3 : decode cL_breaks 3 = .ok (.iload_n 1, 1) := by decide +kernel
theorem d_L_breaks_4 : decode cL_breaks 4 = .ok (.invokevirtual 89, 3) := by decide +kernel
theorem d_L_breaks_7 : decode cL_breaks 7 = .ok (.i2l, 1) := by decide +kernel
theorem d_L_breaks_8 : decode cL_breaks 8 = .ok (.lastore, 1) := by decide +kernel
theorem d_L_breaks_9 : decode cL_breaks 9 = .ok (.goto 6, 3) := by decide +kernel
theorem d_L_breaks_12 : decode cL_breaks 12 = .ok (.astore_n 3, 1) := by decide +kernel
theorem d_L_breaks_13 : decode cL_breaks 13 = .ok (.iconst 1, 1) := by decide +kernel
theorem d_L_breaks_14 : decode cL_breaks 14 = .ok (.ireturn, 1) := by decide +kernel
theorem d_L_breaks_15 : decode cL_breaks 15 = .ok (.iconst 0, 1) := by decide +kernel
theorem d_L_breaks_16 : decode cL_breaks 16 = .ok (.ireturn, 1) := by decide +kernel
theorem s_L_breaks_e {G : Gl} (hG : G.1.stackTraces = false) {C : Cx} {n : Nat} {μ : Mem} {p1 : Int32} {r : (Int32 × Mem)} (hf : f_L_breaks μ p1 = some r) (hK : FinR G C F_L_breaks (some .int) (some (.int r.1)) r.2) : V G C F_L_breaks 0 [some (.ref (G.2.1 + 0)), some (.int p1), some (.ref (G.2.1 + 275)), none] [] (pic G μ) n 0 0 := by
  unfold f_L_breaks at hf
  refine V_aload_n d_L_breaks_0 rfl rfl ?_
  refine V_iconst (v := 0) d_L_breaks_1 ic_0 ?_
  refine V_aload_n d_L_breaks_2 rfl rfl ?_
  refine V_iload_n d_L_breaks_3 rfl rfl ?_
  obtain ⟨q1, hq1, hf⟩ := ob hf
  cases q1 with
  | inl e9 =>
    obtain ⟨k9, μ9⟩ := e9
    replace hf := elimL hf
    by_cases cx4_0 : k9 = 1
    · subst cx4_0
      replace hf := iteT rfl hf
      refine B_callVXt (kc' := 1) (ks' := 6) (s_X11_breaks hG hq1) k_0 clX11 m_X11_breaks kv_RL_89 d_L_breaks_4 rfl (Nat.le_of_ble_eq_true rfl) ⟨rfl, rfl, Nat.le_of_ble_eq_true rfl, Nat.le_of_ble_eq_true rfl, Nat.le_of_ble_eq_true rfl⟩ (fun n => ?_)
      refine VX_catch [] (0, 9, 12, 13) [] rfl (fun z hz => absurd hz List.not_mem_nil) (by decide) (by decide) w_582 (List.mem_of_getElem? (i := 1) rfl) (fun q9 => ?_)
      refine V_astore_n (ls' := [_, _, _, _]) d_L_breaks_12 rfl rfl rfl ?_
      refine V_iconst (v := 1) d_L_breaks_13 ic_1 ?_
      cases hf
      exact R_i hK d_L_breaks_14 (Nat.le_of_ble_eq_true rfl) (Nat.le_of_ble_eq_true rfl)
    replace hf := iteF cx4_0 hf
    cases hf
  | inr v2 =>
    replace hf := elimR hf
    refine B_callVX1 (kc' := 1) (ks' := 6) (s_X11_breaks hG hq1) k_0 clX11 m_X11_breaks kv_RL_89 d_L_breaks_4 rfl (Nat.le_of_ble_eq_true rfl) ⟨rfl, rfl, Nat.le_of_ble_eq_true rfl, Nat.le_of_ble_eq_true rfl, Nat.le_of_ble_eq_true rfl⟩ (fun n => ?_)
    refine V_i2l d_L_breaks_7 ?_
    obtain ⟨μ3, hμ3, hf⟩ := ob hf
    refine B_last k_275 hμ3 d_L_breaks_8 ?_
    refine V_goto (tgt := 15) d_L_breaks_9 (by decide) ?_
    refine V_iconst (v := 0) d_L_breaks_15 ic_0 ?_
    cases hf
    exact R_i hK d_L_breaks_16 (Nat.le_of_ble_eq_true rfl) (Nat.le_of_ble_eq_true rfl)
theorem s_L_breaks {G : Gl} (hG : G.1.stackTraces = false) {μ : Mem} {p1 : Int32} {r : (Int32 × Mem)} (hf : f_L_breaks μ p1 = some r) : RtH G yL_breaks F_L_breaks (some .int) [.ref (G.2.1 + 0), .int p1, .ref (G.2.1 + 275)] μ (some (.int r.1)) r.2 := fun n => Sd.ofH hG ⟨by decide +kernel, rfl⟩ rfl (Nat.le_of_ble_eq_true rfl) rfl (fun C hK => s_L_breaks_e hG hf hK)
theorem d_L_mercy_0 : decode cL_mercy 0 = .ok (.aload_n 2, 1) := by decide +kernel
theorem d_L_mercy_1 : decode cL_mercy 1 = .ok (.iconst 0, 1) := by decide +kernel
theorem d_L_mercy_2 : decode cL_mercy 2 = .ok (.aload_n 0, 1) := by decide +kernel
theorem d_L_mercy_3 : decode cL_mercy 3 = .ok (.iload_n 1, 1) := by decide +kernel
theorem d_L_mercy_4 : decode cL_mercy 4 = .ok (.invokevirtual 92, 3) := by decide +kernel
theorem d_L_mercy_7 : decode cL_mercy 7 = .ok (.i2l, 1) := by decide +kernel
theorem d_L_mercy_8 : decode cL_mercy 8 = .ok (.lastore, 1) := by decide +kernel
theorem d_L_mercy_9 : decode cL_mercy 9 = .ok (.goto 6, 3) := by decide +kernel
theorem d_L_mercy_12 : decode cL_mercy 12 = .ok (.astore_n 3, 1) := by decide +kernel
theorem d_L_mercy_13 : decode cL_mercy 13 = .ok (.iconst 1, 1) := by decide +kernel
theorem d_L_mercy_14 : decode cL_mercy 14 = .ok (.ireturn, 1) := by decide +kernel
theorem d_L_mercy_15 : decode cL_mercy 15 = .ok (.iconst 0, 1) := by decide +kernel
theorem d_L_mercy_16 : decode cL_mercy 16 = .ok (.ireturn, 1) := by decide +kernel
theorem s_L_mercy_e {G : Gl} (hG : G.1.stackTraces = false) {C : Cx} {n : Nat} {μ : Mem} {p1 : Int32} {r : (Int32 × Mem)} (hf : f_L_mercy μ p1 = some r) (hK : FinR G C F_L_mercy (some .int) (some (.int r.1)) r.2) : V G C F_L_mercy 0 [some (.ref (G.2.1 + 0)), some (.int p1), some (.ref (G.2.1 + 275)), none] [] (pic G μ) n 0 0 := by
  unfold f_L_mercy at hf
  refine V_aload_n d_L_mercy_0 rfl rfl ?_
  refine V_iconst (v := 0) d_L_mercy_1 ic_0 ?_
  refine V_aload_n d_L_mercy_2 rfl rfl ?_
  refine V_iload_n d_L_mercy_3 rfl rfl ?_
  obtain ⟨q1, hq1, hf⟩ := ob hf
  cases q1 with
  | inl e9 =>
    obtain ⟨k9, μ9⟩ := e9
    replace hf := elimL hf
    by_cases cx4_0 : k9 = 2
    · subst cx4_0
      replace hf := iteT rfl hf
      refine B_callVXt (kc' := 1) (ks' := 6) (s_X11_mercy hG hq1) k_0 clX11 m_X11_mercy kv_RL_92 d_L_mercy_4 rfl (Nat.le_of_ble_eq_true rfl) ⟨rfl, rfl, Nat.le_of_ble_eq_true rfl, Nat.le_of_ble_eq_true rfl, Nat.le_of_ble_eq_true rfl⟩ (fun n => ?_)
      refine VX_catch [] (0, 9, 12, 24) [] rfl (fun z hz => absurd hz List.not_mem_nil) (by decide) (by decide) w_926 (List.mem_of_getElem? (i := 2) rfl) (fun q9 => ?_)
      refine V_astore_n (ls' := [_, _, _, _]) d_L_mercy_12 rfl rfl rfl ?_
      refine V_iconst (v := 1) d_L_mercy_13 ic_1 ?_
      cases hf
      exact R_i hK d_L_mercy_14 (Nat.le_of_ble_eq_true rfl) (Nat.le_of_ble_eq_true rfl)
    replace hf := iteF cx4_0 hf
    cases hf
  | inr v2 =>
    replace hf := elimR hf
    refine B_callVX1 (kc' := 1) (ks' := 6) (s_X11_mercy hG hq1) k_0 clX11 m_X11_mercy kv_RL_92 d_L_mercy_4 rfl (Nat.le_of_ble_eq_true rfl) ⟨rfl, rfl, Nat.le_of_ble_eq_true rfl, Nat.le_of_ble_eq_true rfl, Nat.le_of_ble_eq_true rfl⟩ (fun n => ?_)
    refine V_i2l d_L_mercy_7 ?_
    obtain ⟨μ3, hμ3, hf⟩ := ob hf
    refine B_last k_275 hμ3 d_L_mercy_8 ?_
    refine V_goto (tgt := 15) d_L_mercy_9 (by decide) ?_
    refine V_iconst (v := 0) d_L_mercy_15 ic_0 ?_
    cases hf
    exact R_i hK d_L_mercy_16 (Nat.le_of_ble_eq_true rfl) (Nat.le_of_ble_eq_true rfl)
theorem s_L_mercy {G : Gl} (hG : G.1.stackTraces = false) {μ : Mem} {p1 : Int32} {r : (Int32 × Mem)} (hf : f_L_mercy μ p1 = some r) : RtH G yL_mercy F_L_mercy (some .int) [.ref (G.2.1 + 0), .int p1, .ref (G.2.1 + 275)] μ (some (.int r.1)) r.2 := fun n => Sd.ofH hG ⟨by decide +kernel, rfl⟩ rfl (Nat.le_of_ble_eq_true rfl) rfl (fun C hK => s_L_mercy_e hG hf hK)
theorem d_L_hangs_0 : decode cL_hangs 0 = .ok (.aload_n 2, 1) := by decide +kernel
theorem d_L_hangs_1 : decode cL_hangs 1 = .ok (.iconst 0, 1) := by decide +kernel
theorem d_L_hangs_2 : decode cL_hangs 2 = .ok (.aload_n 0, 1) := by decide +kernel
theorem d_L_hangs_3 : decode cL_hangs 3 = .ok (.iload_n 1, 1) := by decide +kernel
theorem d_L_hangs_4 : decode cL_hangs 4 = .ok (.invokevirtual 95, 3) := by decide +kernel
theorem d_L_hangs_7 : decode cL_hangs 7 = .ok (.i2l, 1) := by decide +kernel
theorem d_L_hangs_8 : decode cL_hangs 8 = .ok (.lastore, 1) := by decide +kernel
theorem d_L_hangs_9 : decode cL_hangs 9 = .ok (.goto 6, 3) := by decide +kernel
theorem d_L_hangs_12 : decode cL_hangs 12 = .ok (.astore_n 3, 1) := by decide +kernel
theorem d_L_hangs_13 : decode cL_hangs 13 = .ok (.iconst 1, 1) := by decide +kernel
theorem d_L_hangs_14 : decode cL_hangs 14 = .ok (.ireturn, 1) := by decide +kernel
theorem d_L_hangs_15 : decode cL_hangs 15 = .ok (.iconst 0, 1) := by decide +kernel
theorem d_L_hangs_16 : decode cL_hangs 16 = .ok (.ireturn, 1) := by decide +kernel
theorem s_L_hangs_e {G : Gl} (hG : G.1.stackTraces = false) {C : Cx} {n : Nat} {μ : Mem} {p1 : Int32} {r : (Int32 × Mem)} (hf : f_L_hangs μ p1 = some r) (hK : FinR G C F_L_hangs (some .int) (some (.int r.1)) r.2) : V G C F_L_hangs 0 [some (.ref (G.2.1 + 0)), some (.int p1), some (.ref (G.2.1 + 275)), none] [] (pic G μ) n 0 0 := by
  unfold f_L_hangs at hf
  refine V_aload_n d_L_hangs_0 rfl rfl ?_
  refine V_iconst (v := 0) d_L_hangs_1 ic_0 ?_
  refine V_aload_n d_L_hangs_2 rfl rfl ?_
  refine V_iload_n d_L_hangs_3 rfl rfl ?_
  obtain ⟨q1, hq1, hf⟩ := ob hf
  cases q1 with
  | inl e9 =>
    obtain ⟨k9, μ9⟩ := e9
    replace hf := elimL hf
    by_cases cx4_0 : k9 = 2
    · subst cx4_0
      replace hf := iteT rfl hf
      refine B_callVXt (kc' := 1) (ks' := 6) (s_X11_hangs hG hq1) k_0 clX11 m_X11_hangs kv_RL_95 d_L_hangs_4 rfl (Nat.le_of_ble_eq_true rfl) ⟨rfl, rfl, Nat.le_of_ble_eq_true rfl, Nat.le_of_ble_eq_true rfl, Nat.le_of_ble_eq_true rfl⟩ (fun n => ?_)
      refine VX_catch [] (0, 9, 12, 24) [] rfl (fun z hz => absurd hz List.not_mem_nil) (by decide) (by decide) w_926 (List.mem_of_getElem? (i := 2) rfl) (fun q9 => ?_)
      refine V_astore_n (ls' := [_, _, _, _]) d_L_hangs_12 rfl rfl rfl ?_
      refine V_iconst (v := 1) d_L_hangs_13 ic_1 ?_
      cases hf
      exact R_i hK d_L_hangs_14 (Nat.le_of_ble_eq_true rfl) (Nat.le_of_ble_eq_true rfl)
    replace hf := iteF cx4_0 hf
    cases hf
  | inr v2 =>
    replace hf := elimR hf
    refine B_callVX1 (kc' := 1) (ks' := 6) (s_X11_hangs hG hq1) k_0 clX11 m_X11_hangs kv_RL_95 d_L_hangs_4 rfl (Nat.le_of_ble_eq_true rfl) ⟨rfl, rfl, Nat.le_of_ble_eq_true rfl, Nat.le_of_ble_eq_true rfl, Nat.le_of_ble_eq_true rfl⟩ (fun n => ?_)
    refine V_i2l d_L_hangs_7 ?_
    obtain ⟨μ3, hμ3, hf⟩ := ob hf
    refine B_last k_275 hμ3 d_L_hangs_8 ?_
    refine V_goto (tgt := 15) d_L_hangs_9 (by decide) ?_
    refine V_iconst (v := 0) d_L_hangs_15 ic_0 ?_
    cases hf
    exact R_i hK d_L_hangs_16 (Nat.le_of_ble_eq_true rfl) (Nat.le_of_ble_eq_true rfl)
theorem s_L_hangs {G : Gl} (hG : G.1.stackTraces = false) {μ : Mem} {p1 : Int32} {r : (Int32 × Mem)} (hf : f_L_hangs μ p1 = some r) : RtH G yL_hangs F_L_hangs (some .int) [.ref (G.2.1 + 0), .int p1, .ref (G.2.1 + 275)] μ (some (.int r.1)) r.2 := fun n => Sd.ofH hG ⟨by decide +kernel, rfl⟩ rfl (Nat.le_of_ble_eq_true rfl) rfl (fun C hK => s_L_hangs_e hG hf hK)
theorem d_L_wear_0 : decode cL_wear 0 = .ok (.aload_n 2, 1) := by decide +kernel
theorem d_L_wear_1 : decode cL_wear 1 = .ok (.iconst 0, 1) := by decide +kernel
theorem d_L_wear_2 : decode cL_wear 2 = .ok (.aload_n 0, 1) := by decide +kernel
theorem d_L_wear_3 : decode cL_wear 3 = .ok (.iload_n 1, 1) := by decide +kernel
theorem d_L_wear_4 : decode cL_wear 4 = .ok (.invokevirtual 98, 3) := by decide +kernel
theorem d_L_wear_7 : decode cL_wear 7 = .ok (.i2l, 1) := by decide +kernel
theorem d_L_wear_8 : decode cL_wear 8 = .ok (.lastore, 1) := by decide +kernel
theorem d_L_wear_9 : decode cL_wear 9 = .ok (.goto 6, 3) := by decide +kernel
theorem d_L_wear_12 : decode cL_wear 12 = .ok (.astore_n 3, 1) := by decide +kernel
theorem d_L_wear_13 : decode cL_wear 13 = .ok (.iconst 1, 1) := by decide +kernel
theorem d_L_wear_14 : decode cL_wear 14 = .ok (.ireturn, 1) := by decide +kernel
theorem d_L_wear_15 : decode cL_wear 15 = .ok (.iconst 0, 1) := by decide +kernel
theorem d_L_wear_16 : decode cL_wear 16 = .ok (.ireturn, 1) := by decide +kernel
theorem s_L_wear_e {G : Gl} (hG : G.1.stackTraces = false) {C : Cx} {n : Nat} {μ : Mem} {p1 : Bool} {r : (Int32 × Mem)} (hf : f_L_wear μ p1 = some r) (hK : FinR G C F_L_wear (some .int) (some (.int r.1)) r.2) : V G C F_L_wear 0 [some (.ref (G.2.1 + 0)), some (.int (b2i p1)), some (.ref (G.2.1 + 275)), none] [] (pic G μ) n 0 0 := by
  unfold f_L_wear at hf
  refine V_aload_n d_L_wear_0 rfl rfl ?_
  refine V_iconst (v := 0) d_L_wear_1 ic_0 ?_
  refine V_aload_n d_L_wear_2 rfl rfl ?_
  refine V_iload_n d_L_wear_3 rfl rfl ?_
  obtain ⟨q1, hq1, hf⟩ := ob hf
  cases q1 with
  | inl e9 =>
    obtain ⟨k9, μ9⟩ := e9
    replace hf := elimL hf
    by_cases cx4_0 : k9 = 1
    · subst cx4_0
      replace hf := iteT rfl hf
      refine B_callVXt (kc' := 1) (ks' := 6) (s_X11_wear hG hq1) k_0 clX11 m_X11_wear kv_RL_98 d_L_wear_4 rfl (Nat.le_of_ble_eq_true rfl) ⟨rfl, rfl, Nat.le_of_ble_eq_true rfl, Nat.le_of_ble_eq_true rfl, Nat.le_of_ble_eq_true rfl⟩ (fun n => ?_)
      refine VX_catch [] (0, 9, 12, 13) [] rfl (fun z hz => absurd hz List.not_mem_nil) (by decide) (by decide) w_582 (List.mem_of_getElem? (i := 1) rfl) (fun q9 => ?_)
      refine V_astore_n (ls' := [_, _, _, _]) d_L_wear_12 rfl rfl rfl ?_
      refine V_iconst (v := 1) d_L_wear_13 ic_1 ?_
      cases hf
      exact R_i hK d_L_wear_14 (Nat.le_of_ble_eq_true rfl) (Nat.le_of_ble_eq_true rfl)
    replace hf := iteF cx4_0 hf
    cases hf
  | inr v2 =>
    replace hf := elimR hf
    refine B_callVX1 (kc' := 1) (ks' := 6) (s_X11_wear hG hq1) k_0 clX11 m_X11_wear kv_RL_98 d_L_wear_4 rfl (Nat.le_of_ble_eq_true rfl) ⟨rfl, rfl, Nat.le_of_ble_eq_true rfl, Nat.le_of_ble_eq_true rfl, Nat.le_of_ble_eq_true rfl⟩ (fun n => ?_)
    refine V_i2l d_L_wear_7 ?_
    obtain ⟨μ3, hμ3, hf⟩ := ob hf
    refine B_last k_275 hμ3 d_L_wear_8 ?_
    refine V_goto (tgt := 15) d_L_wear_9 (by decide) ?_
    refine V_iconst (v := 0) d_L_wear_15 ic_0 ?_
    cases hf
    exact R_i hK d_L_wear_16 (Nat.le_of_ble_eq_true rfl) (Nat.le_of_ble_eq_true rfl)
theorem s_L_wear {G : Gl} (hG : G.1.stackTraces = false) {μ : Mem} {p1 : Bool} {r : (Int32 × Mem)} (hf : f_L_wear μ p1 = some r) : RtH G yL_wear F_L_wear (some .int) [.ref (G.2.1 + 0), .int (b2i p1), .ref (G.2.1 + 275)] μ (some (.int r.1)) r.2 := fun n => Sd.ofH hG ⟨by decide +kernel, rfl⟩ rfl (Nat.le_of_ble_eq_true rfl) rfl (fun C hK => s_L_wear_e hG hf hK)
theorem d_L_look_0 : decode cL_look 0 = .ok (.aload_n 1, 1) := by decide +kernel
theorem d_L_look_1 : decode cL_look 1 = .ok (.iconst 0, 1) := by decide +kernel
theorem d_L_look_2 : decode cL_look 2 = .ok (.aload_n 0, 1) := by decide +kernel
theorem d_L_look_3 : decode cL_look 3 = .ok (.invokevirtual 102, 3) := by decide +kernel
theorem d_L_look_6 : decode cL_look 6 = .ok (.i2l, 1) := by decide +kernel
theorem d_L_look_7 : decode cL_look 7 = .ok (.lastore, 1) := by decide +kernel
theorem d_L_look_8 : decode cL_look 8 = .ok (.goto 6, 3) := by decide +kernel
theorem d_L_look_11 : decode cL_look 11 = .ok (.astore_n 2, 1) := by decide +kernel
theorem d_L_look_12 : decode cL_look 12 = .ok (.iconst 1, 1) := by decide +kernel
theorem d_L_look_13 : decode cL_look 13 = .ok (.ireturn, 1) := by decide +kernel
theorem d_L_look_14 : decode cL_look 14 = .ok (.iconst 0, 1) := by decide +kernel
theorem d_L_look_15 : decode cL_look 15 = .ok (.ireturn, 1) := by decide +kernel
theorem s_L_look_e {G : Gl} (hG : G.1.stackTraces = false) {C : Cx} {n : Nat} {μ : Mem}  {r : (Int32 × Mem)} (hf : f_L_look μ = some r) (hK : FinR G C F_L_look (some .int) (some (.int r.1)) r.2) : V G C F_L_look 0 [some (.ref (G.2.1 + 0)), some (.ref (G.2.1 + 275)), none] [] (pic G μ) n 0 0 := by
  unfold f_L_look at hf
  refine V_aload_n d_L_look_0 rfl rfl ?_
  refine V_iconst (v := 0) d_L_look_1 ic_0 ?_
  refine V_aload_n d_L_look_2 rfl rfl ?_
  obtain ⟨q1, hq1, hf⟩ := ob hf
  cases q1 with
  | inl e9 =>
    obtain ⟨k9, μ9⟩ := e9
    replace hf := elimL hf
    by_cases cx3_0 : k9 = 1
    · subst cx3_0
      replace hf := iteT rfl hf
      refine B_callVXt (kc' := 1) (ks' := 6) (s_X11_look hG hq1) k_0 clX11 m_X11_look kv_RL_102 d_L_look_3 rfl (Nat.le_of_ble_eq_true rfl) ⟨rfl, rfl, Nat.le_of_ble_eq_true rfl, Nat.le_of_ble_eq_true rfl, Nat.le_of_ble_eq_true rfl⟩ (fun n => ?_)
      refine VX_catch [] (0, 8, 11, 13) [] rfl (fun z hz => absurd hz List.not_mem_nil) (by decide) (by decide) w_582 (List.mem_of_getElem? (i := 1) rfl) (fun q9 => ?_)
      refine V_astore_n (ls' := [_, _, _]) d_L_look_11 rfl rfl rfl ?_
      refine V_iconst (v := 1) d_L_look_12 ic_1 ?_
      cases hf
      exact R_i hK d_L_look_13 (Nat.le_of_ble_eq_true rfl) (Nat.le_of_ble_eq_true rfl)
    replace hf := iteF cx3_0 hf
    cases hf
  | inr v2 =>
    replace hf := elimR hf
    refine B_callVX1 (kc' := 1) (ks' := 6) (s_X11_look hG hq1) k_0 clX11 m_X11_look kv_RL_102 d_L_look_3 rfl (Nat.le_of_ble_eq_true rfl) ⟨rfl, rfl, Nat.le_of_ble_eq_true rfl, Nat.le_of_ble_eq_true rfl, Nat.le_of_ble_eq_true rfl⟩ (fun n => ?_)
    refine V_i2l d_L_look_6 ?_
    obtain ⟨μ3, hμ3, hf⟩ := ob hf
    refine B_last k_275 hμ3 d_L_look_7 ?_
    refine V_goto (tgt := 14) d_L_look_8 (by decide) ?_
    refine V_iconst (v := 0) d_L_look_14 ic_0 ?_
    cases hf
    exact R_i hK d_L_look_15 (Nat.le_of_ble_eq_true rfl) (Nat.le_of_ble_eq_true rfl)
theorem s_L_look {G : Gl} (hG : G.1.stackTraces = false) {μ : Mem} {r : (Int32 × Mem)} (hf : f_L_look μ = some r) : RtH G yL_look F_L_look (some .int) [.ref (G.2.1 + 0), .ref (G.2.1 + 275)] μ (some (.int r.1)) r.2 := fun n => Sd.ofH hG ⟨by decide +kernel, rfl⟩ rfl (Nat.le_of_ble_eq_true rfl) rfl (fun C hK => s_L_look_e hG hf hK)
theorem d_L_race_0 : decode cL_race 0 = .ok (.aload_n 2, 1) := by decide +kernel
theorem d_L_race_1 : decode cL_race 1 = .ok (.iconst 0, 1) := by decide +kernel
theorem d_L_race_2 : decode cL_race 2 = .ok (.aload_n 0, 1) := by decide +kernel
theorem d_L_race_3 : decode cL_race 3 = .ok (.iload_n 1, 1) := by decide +kernel
theorem d_L_race_4 : decode cL_race 4 = .ok (.invokevirtual 105, 3) := by decide +kernel
theorem d_L_race_7 : decode cL_race 7 = .ok (.i2l, 1) := by decide +kernel
theorem d_L_race_8 : decode cL_race 8 = .ok (.lastore, 1) := by decide +kernel
theorem d_L_race_9 : decode cL_race 9 = .ok (.goto 6, 3) := by decide +kernel
theorem d_L_race_12 : decode cL_race 12 = .ok (.astore_n 3, 1) := by decide +kernel
theorem d_L_race_13 : decode cL_race 13 = .ok (.iconst 1, 1) := by decide +kernel
theorem d_L_race_14 : decode cL_race 14 = .ok (.ireturn, 1) := by decide +kernel
theorem d_L_race_15 : decode cL_race 15 = .ok (.iconst 0, 1) := by decide +kernel
theorem d_L_race_16 : decode cL_race 16 = .ok (.ireturn, 1) := by decide +kernel
theorem s_L_race_e {G : Gl} (hG : G.1.stackTraces = false) {C : Cx} {n : Nat} {μ : Mem} {p1 : Int32} {r : (Int32 × Mem)} (hf : f_L_race μ p1 = some r) (hK : FinR G C F_L_race (some .int) (some (.int r.1)) r.2) : V G C F_L_race 0 [some (.ref (G.2.1 + 0)), some (.int p1), some (.ref (G.2.1 + 275)), none] [] (pic G μ) n 0 0 := by
  unfold f_L_race at hf
  refine V_aload_n d_L_race_0 rfl rfl ?_
  refine V_iconst (v := 0) d_L_race_1 ic_0 ?_
  refine V_aload_n d_L_race_2 rfl rfl ?_
  refine V_iload_n d_L_race_3 rfl rfl ?_
  obtain ⟨q1, hq1, hf⟩ := ob hf
  cases q1 with
  | inl e9 =>
    obtain ⟨k9, μ9⟩ := e9
    replace hf := elimL hf
    by_cases cx4_0 : k9 = 2
    · subst cx4_0
      replace hf := iteT rfl hf
      refine B_callVXt (kc' := 1) (ks' := 6) (s_X11_race hG hq1) k_0 clX11 m_X11_race kv_RL_105 d_L_race_4 rfl (Nat.le_of_ble_eq_true rfl) ⟨rfl, rfl, Nat.le_of_ble_eq_true rfl, Nat.le_of_ble_eq_true rfl, Nat.le_of_ble_eq_true rfl⟩ (fun n => ?_)
      refine VX_catch [] (0, 9, 12, 24) [] rfl (fun z hz => absurd hz List.not_mem_nil) (by decide) (by decide) w_926 (List.mem_of_getElem? (i := 2) rfl) (fun q9 => ?_)
      refine V_astore_n (ls' := [_, _, _, _]) d_L_race_12 rfl rfl rfl ?_
      refine V_iconst (v := 1) d_L_race_13 ic_1 ?_
      cases hf
      exact R_i hK d_L_race_14 (Nat.le_of_ble_eq_true rfl) (Nat.le_of_ble_eq_true rfl)
    replace hf := iteF cx4_0 hf
    cases hf
  | inr v2 =>
    replace hf := elimR hf
    refine B_callVX1 (kc' := 1) (ks' := 6) (s_X11_race hG hq1) k_0 clX11 m_X11_race kv_RL_105 d_L_race_4 rfl (Nat.le_of_ble_eq_true rfl) ⟨rfl, rfl, Nat.le_of_ble_eq_true rfl, Nat.le_of_ble_eq_true rfl, Nat.le_of_ble_eq_true rfl⟩ (fun n => ?_)
    refine V_i2l d_L_race_7 ?_
    obtain ⟨μ3, hμ3, hf⟩ := ob hf
    refine B_last k_275 hμ3 d_L_race_8 ?_
    refine V_goto (tgt := 15) d_L_race_9 (by decide) ?_
    refine V_iconst (v := 0) d_L_race_15 ic_0 ?_
    cases hf
    exact R_i hK d_L_race_16 (Nat.le_of_ble_eq_true rfl) (Nat.le_of_ble_eq_true rfl)
theorem s_L_race {G : Gl} (hG : G.1.stackTraces = false) {μ : Mem} {p1 : Int32} {r : (Int32 × Mem)} (hf : f_L_race μ p1 = some r) : RtH G yL_race F_L_race (some .int) [.ref (G.2.1 + 0), .int p1, .ref (G.2.1 + 275)] μ (some (.int r.1)) r.2 := fun n => Sd.ofH hG ⟨by decide +kernel, rfl⟩ rfl (Nat.le_of_ble_eq_true rfl) rfl (fun C hK => s_L_race_e hG hf hK)
theorem d_L_lends_0 : decode cL_lends 0 = .ok (.aload_n 2, 1) := by decide +kernel
theorem d_L_lends_1 : decode cL_lends 1 = .ok (.iconst 0, 1) := by decide +kernel
theorem d_L_lends_2 : decode cL_lends 2 = .ok (.aload_n 0, 1) := by decide +kernel
theorem d_L_lends_3 : decode cL_lends 3 = .ok (.iload_n 1, 1) := by decide +kernel
theorem d_L_lends_4 : decode cL_lends 4 = .ok (.invokevirtual 108, 3) := by decide +kernel
theorem d_L_lends_7 : decode cL_lends 7 = .ok (.i2l, 1) := by decide +kernel
theorem d_L_lends_8 : decode cL_lends 8 = .ok (.lastore, 1) := by decide +kernel
theorem d_L_lends_9 : decode cL_lends 9 = .ok (.goto 6, 3) := by decide +kernel
theorem d_L_lends_12 : decode cL_lends 12 = .ok (.astore_n 3, 1) := by decide +kernel
theorem d_L_lends_13 : decode cL_lends 13 = .ok (.iconst 1, 1) := by decide +kernel
theorem d_L_lends_14 : decode cL_lends 14 = .ok (.ireturn, 1) := by decide +kernel
theorem d_L_lends_15 : decode cL_lends 15 = .ok (.iconst 0, 1) := by decide +kernel
theorem d_L_lends_16 : decode cL_lends 16 = .ok (.ireturn, 1) := by decide +kernel
theorem s_L_lends_e {G : Gl} (hG : G.1.stackTraces = false) {C : Cx} {n : Nat} {μ : Mem} {p1 : Int32} {r : (Int32 × Mem)} (hf : f_L_lends μ p1 = some r) (hK : FinR G C F_L_lends (some .int) (some (.int r.1)) r.2) : V G C F_L_lends 0 [some (.ref (G.2.1 + 0)), some (.int p1), some (.ref (G.2.1 + 275)), none] [] (pic G μ) n 0 0 := by
  unfold f_L_lends at hf
  refine V_aload_n d_L_lends_0 rfl rfl ?_
  refine V_iconst (v := 0) d_L_lends_1 ic_0 ?_
  refine V_aload_n d_L_lends_2 rfl rfl ?_
  refine V_iload_n d_L_lends_3 rfl rfl ?_
  obtain ⟨q1, hq1, hf⟩ := ob hf
  cases q1 with
  | inl e9 =>
    obtain ⟨k9, μ9⟩ := e9
    replace hf := elimL hf
    by_cases cx4_0 : k9 = 1
    · subst cx4_0
      replace hf := iteT rfl hf
      refine B_callVXt (kc' := 1) (ks' := 6) (s_X11_lends hG hq1) k_0 clX11 m_X11_lends kv_RL_108 d_L_lends_4 rfl (Nat.le_of_ble_eq_true rfl) ⟨rfl, rfl, Nat.le_of_ble_eq_true rfl, Nat.le_of_ble_eq_true rfl, Nat.le_of_ble_eq_true rfl⟩ (fun n => ?_)
      refine VX_catch [] (0, 9, 12, 13) [] rfl (fun z hz => absurd hz List.not_mem_nil) (by decide) (by decide) w_582 (List.mem_of_getElem? (i := 1) rfl) (fun q9 => ?_)
      refine V_astore_n (ls' := [_, _, _, _]) d_L_lends_12 rfl rfl rfl ?_
      refine V_iconst (v := 1) d_L_lends_13 ic_1 ?_
      cases hf
      exact R_i hK d_L_lends_14 (Nat.le_of_ble_eq_true rfl) (Nat.le_of_ble_eq_true rfl)
    replace hf := iteF cx4_0 hf
    cases hf
  | inr v2 =>
    replace hf := elimR hf
    refine B_callVX1 (kc' := 1) (ks' := 6) (s_X11_lends hG hq1) k_0 clX11 m_X11_lends kv_RL_108 d_L_lends_4 rfl (Nat.le_of_ble_eq_true rfl) ⟨rfl, rfl, Nat.le_of_ble_eq_true rfl, Nat.le_of_ble_eq_true rfl, Nat.le_of_ble_eq_true rfl⟩ (fun n => ?_)
    refine V_i2l d_L_lends_7 ?_
    obtain ⟨μ3, hμ3, hf⟩ := ob hf
    refine B_last k_275 hμ3 d_L_lends_8 ?_
    refine V_goto (tgt := 15) d_L_lends_9 (by decide) ?_
    refine V_iconst (v := 0) d_L_lends_15 ic_0 ?_
    cases hf
    exact R_i hK d_L_lends_16 (Nat.le_of_ble_eq_true rfl) (Nat.le_of_ble_eq_true rfl)
theorem s_L_lends {G : Gl} (hG : G.1.stackTraces = false) {μ : Mem} {p1 : Int32} {r : (Int32 × Mem)} (hf : f_L_lends μ p1 = some r) : RtH G yL_lends F_L_lends (some .int) [.ref (G.2.1 + 0), .int p1, .ref (G.2.1 + 275)] μ (some (.int r.1)) r.2 := fun n => Sd.ofH hG ⟨by decide +kernel, rfl⟩ rfl (Nat.le_of_ble_eq_true rfl) rfl (fun C hK => s_L_lends_e hG hf hK)
theorem d_L_loose_0 : decode cL_loose 0 = .ok (.aload_n 2, 1) := by decide +kernel
theorem d_L_loose_1 : decode cL_loose 1 = .ok (.iconst 0, 1) := by decide +kernel
theorem d_L_loose_2 : decode cL_loose 2 = .ok (.aload_n 0, 1) := by decide +kernel
theorem d_L_loose_3 : decode cL_loose 3 = .ok (.iload_n 1, 1) := by decide +kernel
theorem d_L_loose_4 : decode cL_loose 4 = .ok (.invokevirtual 111, 3) := by decide +kernel
theorem d_L_loose_7 : decode cL_loose 7 = .ok (.i2l, 1) := by decide +kernel
theorem d_L_loose_8 : decode cL_loose 8 = .ok (.lastore, 1) := by decide +kernel
theorem d_L_loose_9 : decode cL_loose 9 = .ok (.goto 6, 3) := by decide +kernel
theorem d_L_loose_12 : decode cL_loose 12 = .ok (.astore_n 3, 1) := by decide +kernel
theorem d_L_loose_13 : decode cL_loose 13 = .ok (.iconst 1, 1) := by decide +kernel
theorem d_L_loose_14 : decode cL_loose 14 = .ok (.ireturn, 1) := by decide +kernel
theorem d_L_loose_15 : decode cL_loose 15 = .ok (.iconst 0, 1) := by decide +kernel
theorem d_L_loose_16 : decode cL_loose 16 = .ok (.ireturn, 1) := by decide +kernel
theorem s_L_loose_e {G : Gl} (hG : G.1.stackTraces = false) {C : Cx} {n : Nat} {μ : Mem} {p1 : Int32} {r : (Int32 × Mem)} (hf : f_L_loose μ p1 = some r) (hK : FinR G C F_L_loose (some .int) (some (.int r.1)) r.2) : V G C F_L_loose 0 [some (.ref (G.2.1 + 0)), some (.int p1), some (.ref (G.2.1 + 275)), none] [] (pic G μ) n 0 0 := by
  unfold f_L_loose at hf
  refine V_aload_n d_L_loose_0 rfl rfl ?_
  refine V_iconst (v := 0) d_L_loose_1 ic_0 ?_
  refine V_aload_n d_L_loose_2 rfl rfl ?_
  refine V_iload_n d_L_loose_3 rfl rfl ?_
  obtain ⟨q1, hq1, hf⟩ := ob hf
  cases q1 with
  | inl e9 =>
    obtain ⟨k9, μ9⟩ := e9
    replace hf := elimL hf
    by_cases cx4_0 : k9 = 2
    · subst cx4_0
      replace hf := iteT rfl hf
      refine B_callVXt (kc' := 1) (ks' := 6) (s_X11_loose hG hq1) k_0 clX11 m_X11_loose kv_RL_111 d_L_loose_4 rfl (Nat.le_of_ble_eq_true rfl) ⟨rfl, rfl, Nat.le_of_ble_eq_true rfl, Nat.le_of_ble_eq_true rfl, Nat.le_of_ble_eq_true rfl⟩ (fun n => ?_)
      refine VX_catch [] (0, 9, 12, 24) [] rfl (fun z hz => absurd hz List.not_mem_nil) (by decide) (by decide) w_926 (List.mem_of_getElem? (i := 2) rfl) (fun q9 => ?_)
      refine V_astore_n (ls' := [_, _, _, _]) d_L_loose_12 rfl rfl rfl ?_
      refine V_iconst (v := 1) d_L_loose_13 ic_1 ?_
      cases hf
      exact R_i hK d_L_loose_14 (Nat.le_of_ble_eq_true rfl) (Nat.le_of_ble_eq_true rfl)
    replace hf := iteF cx4_0 hf
    cases hf
  | inr v2 =>
    replace hf := elimR hf
    refine B_callVX1 (kc' := 1) (ks' := 6) (s_X11_loose hG hq1) k_0 clX11 m_X11_loose kv_RL_111 d_L_loose_4 rfl (Nat.le_of_ble_eq_true rfl) ⟨rfl, rfl, Nat.le_of_ble_eq_true rfl, Nat.le_of_ble_eq_true rfl, Nat.le_of_ble_eq_true rfl⟩ (fun n => ?_)
    refine V_i2l d_L_loose_7 ?_
    obtain ⟨μ3, hμ3, hf⟩ := ob hf
    refine B_last k_275 hμ3 d_L_loose_8 ?_
    refine V_goto (tgt := 15) d_L_loose_9 (by decide) ?_
    refine V_iconst (v := 0) d_L_loose_15 ic_0 ?_
    cases hf
    exact R_i hK d_L_loose_16 (Nat.le_of_ble_eq_true rfl) (Nat.le_of_ble_eq_true rfl)
theorem s_L_loose {G : Gl} (hG : G.1.stackTraces = false) {μ : Mem} {p1 : Int32} {r : (Int32 × Mem)} (hf : f_L_loose μ p1 = some r) : RtH G yL_loose F_L_loose (some .int) [.ref (G.2.1 + 0), .int p1, .ref (G.2.1 + 275)] μ (some (.int r.1)) r.2 := fun n => Sd.ofH hG ⟨by decide +kernel, rfl⟩ rfl (Nat.le_of_ble_eq_true rfl) rfl (fun C hK => s_L_loose_e hG hf hK)
theorem d_L_trial_0 : decode cL_trial 0 = .ok (.aload_n 3, 1) := by decide +kernel
theorem d_L_trial_1 : decode cL_trial 1 = .ok (.iconst 0, 1) := by decide +kernel
theorem d_L_trial_2 : decode cL_trial 2 = .ok (.aload_n 0, 1) := by decide +kernel
theorem d_L_trial_3 : decode cL_trial 3 = .ok (.iload_n 1, 1) := by decide +kernel
theorem d_L_trial_4 : decode cL_trial 4 = .ok (.iload_n 2, 1) := by decide +kernel
theorem d_L_trial_5 : decode cL_trial 5 = .ok (.invokevirtual 114, 3) := by decide +kernel
theorem d_L_trial_8 : decode cL_trial 8 = .ok (.i2l, 1) := by decide +kernel
theorem d_L_trial_9 : decode cL_trial 9 = .ok (.lastore, 1) := by decide +kernel
theorem d_L_trial_10 : decode cL_trial 10 = .ok (.goto 7, 3) := by decide +kernel
theorem d_L_trial_13 : decode cL_trial 13 = .ok (.astore 4, 2) := by decide +kernel
theorem d_L_trial_15 : decode cL_trial 15 = .ok (.iconst 1, 1) := by decide +kernel
theorem d_L_trial_16 : decode cL_trial 16 = .ok (.ireturn, 1) := by decide +kernel
theorem d_L_trial_17 : decode cL_trial 17 = .ok (.iconst 0, 1) := by decide +kernel
theorem d_L_trial_18 : decode cL_trial 18 = .ok (.ireturn, 1) := by decide +kernel
theorem s_L_trial_e {G : Gl} (hG : G.1.stackTraces = false) {C : Cx} {n : Nat} {μ : Mem} {p1 : Int32} {p2 : Bool} {r : (Int32 × Mem)} (hf : f_L_trial μ p1 p2 = some r) (hK : FinR G C F_L_trial (some .int) (some (.int r.1)) r.2) : V G C F_L_trial 0 [some (.ref (G.2.1 + 0)), some (.int p1), some (.int (b2i p2)), some (.ref (G.2.1 + 275)), none] [] (pic G μ) n 0 0 := by
  unfold f_L_trial at hf
  refine V_aload_n d_L_trial_0 rfl rfl ?_
  refine V_iconst (v := 0) d_L_trial_1 ic_0 ?_
  refine V_aload_n d_L_trial_2 rfl rfl ?_
  refine V_iload_n d_L_trial_3 rfl rfl ?_
  refine V_iload_n d_L_trial_4 rfl rfl ?_
  obtain ⟨q1, hq1, hf⟩ := ob hf
  cases q1 with
  | inl e9 =>
    obtain ⟨k9, μ9⟩ := e9
    replace hf := elimL hf
    by_cases cx5_0 : k9 = 1
    · subst cx5_0
      replace hf := iteT rfl hf
      refine B_callVXt (kc' := 1) (ks' := 6) (s_X11_trial hG hq1) k_0 clX11 m_X11_trial kv_RL_114 d_L_trial_5 rfl (Nat.le_of_ble_eq_true rfl) ⟨rfl, rfl, Nat.le_of_ble_eq_true rfl, Nat.le_of_ble_eq_true rfl, Nat.le_of_ble_eq_true rfl⟩ (fun n => ?_)
      refine VX_catch [] (0, 10, 13, 13) [] rfl (fun z hz => absurd hz List.not_mem_nil) (by decide) (by decide) w_582 (List.mem_of_getElem? (i := 1) rfl) (fun q9 => ?_)
      refine V_astore (ls' := [_, _, _, _, _]) d_L_trial_13 rfl rfl ?_
      refine V_iconst (v := 1) d_L_trial_15 ic_1 ?_
      cases hf
      exact R_i hK d_L_trial_16 (Nat.le_of_ble_eq_true rfl) (Nat.le_of_ble_eq_true rfl)
    replace hf := iteF cx5_0 hf
    cases hf
  | inr v2 =>
    replace hf := elimR hf
    refine B_callVX1 (kc' := 1) (ks' := 6) (s_X11_trial hG hq1) k_0 clX11 m_X11_trial kv_RL_114 d_L_trial_5 rfl (Nat.le_of_ble_eq_true rfl) ⟨rfl, rfl, Nat.le_of_ble_eq_true rfl, Nat.le_of_ble_eq_true rfl, Nat.le_of_ble_eq_true rfl⟩ (fun n => ?_)
    refine V_i2l d_L_trial_8 ?_
    obtain ⟨μ3, hμ3, hf⟩ := ob hf
    refine B_last k_275 hμ3 d_L_trial_9 ?_
    refine V_goto (tgt := 17) d_L_trial_10 (by decide) ?_
    refine V_iconst (v := 0) d_L_trial_17 ic_0 ?_
    cases hf
    exact R_i hK d_L_trial_18 (Nat.le_of_ble_eq_true rfl) (Nat.le_of_ble_eq_true rfl)
theorem s_L_trial {G : Gl} (hG : G.1.stackTraces = false) {μ : Mem} {p1 : Int32} {p2 : Bool} {r : (Int32 × Mem)} (hf : f_L_trial μ p1 p2 = some r) : RtH G yL_trial F_L_trial (some .int) [.ref (G.2.1 + 0), .int p1, .int (b2i p2), .ref (G.2.1 + 275)] μ (some (.int r.1)) r.2 := fun n => Sd.ofH hG ⟨by decide +kernel, rfl⟩ rfl (Nat.le_of_ble_eq_true rfl) rfl (fun C hK => s_L_trial_e hG hf hK)
theorem d_L_span_0 : decode cL_span 0 = .ok (.aload_n 3, 1) := by decide +kernel
theorem d_L_span_1 : decode cL_span 1 = .ok (.iconst 0, 1) := by decide +kernel
theorem d_L_span_2 : decode cL_span 2 = .ok (.aload_n 0, 1) := by decide +kernel
theorem d_L_span_3 : decode cL_span 3 = .ok (.iload_n 1, 1) := by decide +kernel
theorem d_L_span_4 : decode cL_span 4 = .ok (.iload_n 2, 1) := by decide +kernel
theorem d_L_span_5 : decode cL_span 5 = .ok (.invokevirtual 117, 3) := by decide +kernel
theorem d_L_span_8 : decode cL_span 8 = .ok (.i2l, 1) := by decide +kernel
theorem d_L_span_9 : decode cL_span 9 = .ok (.lastore, 1) := by decide +kernel
theorem d_L_span_10 : decode cL_span 10 = .ok (.goto 7, 3) := by decide +kernel
theorem d_L_span_13 : decode cL_span 13 = .ok (.astore 4, 2) := by decide +kernel
theorem d_L_span_15 : decode cL_span 15 = .ok (.iconst 1, 1) := by decide +kernel
theorem d_L_span_16 : decode cL_span 16 = .ok (.ireturn, 1) := by decide +kernel
theorem d_L_span_17 : decode cL_span 17 = .ok (.iconst 0, 1) := by decide +kernel
theorem d_L_span_18 : decode cL_span 18 = .ok (.ireturn, 1) := by decide +kernel
theorem s_L_span_e {G : Gl} (hG : G.1.stackTraces = false) {C : Cx} {n : Nat} {μ : Mem} {p1 : Int32} {p2 : Bool} {r : (Int32 × Mem)} (hf : f_L_span μ p1 p2 = some r) (hK : FinR G C F_L_span (some .int) (some (.int r.1)) r.2) : V G C F_L_span 0 [some (.ref (G.2.1 + 0)), some (.int p1), some (.int (b2i p2)), some (.ref (G.2.1 + 275)), none] [] (pic G μ) n 0 0 := by
  unfold f_L_span at hf
  refine V_aload_n d_L_span_0 rfl rfl ?_
  refine V_iconst (v := 0) d_L_span_1 ic_0 ?_
  refine V_aload_n d_L_span_2 rfl rfl ?_
  refine V_iload_n d_L_span_3 rfl rfl ?_
  refine V_iload_n d_L_span_4 rfl rfl ?_
  obtain ⟨q1, hq1, hf⟩ := ob hf
  cases q1 with
  | inl e9 =>
    obtain ⟨k9, μ9⟩ := e9
    replace hf := elimL hf
    by_cases cx5_0 : k9 = 1
    · subst cx5_0
      replace hf := iteT rfl hf
      refine B_callVXt (kc' := 1) (ks' := 6) (s_X11_span hG hq1) k_0 clX11 m_X11_span kv_RL_117 d_L_span_5 rfl (Nat.le_of_ble_eq_true rfl) ⟨rfl, rfl, Nat.le_of_ble_eq_true rfl, Nat.le_of_ble_eq_true rfl, Nat.le_of_ble_eq_true rfl⟩ (fun n => ?_)
      refine VX_catch [] (0, 10, 13, 13) [] rfl (fun z hz => absurd hz List.not_mem_nil) (by decide) (by decide) w_582 (List.mem_of_getElem? (i := 1) rfl) (fun q9 => ?_)
      refine V_astore (ls' := [_, _, _, _, _]) d_L_span_13 rfl rfl ?_
      refine V_iconst (v := 1) d_L_span_15 ic_1 ?_
      cases hf
      exact R_i hK d_L_span_16 (Nat.le_of_ble_eq_true rfl) (Nat.le_of_ble_eq_true rfl)
    replace hf := iteF cx5_0 hf
    cases hf
  | inr v2 =>
    replace hf := elimR hf
    refine B_callVX1 (kc' := 1) (ks' := 6) (s_X11_span hG hq1) k_0 clX11 m_X11_span kv_RL_117 d_L_span_5 rfl (Nat.le_of_ble_eq_true rfl) ⟨rfl, rfl, Nat.le_of_ble_eq_true rfl, Nat.le_of_ble_eq_true rfl, Nat.le_of_ble_eq_true rfl⟩ (fun n => ?_)
    refine V_i2l d_L_span_8 ?_
    obtain ⟨μ3, hμ3, hf⟩ := ob hf
    refine B_last k_275 hμ3 d_L_span_9 ?_
    refine V_goto (tgt := 17) d_L_span_10 (by decide) ?_
    refine V_iconst (v := 0) d_L_span_17 ic_0 ?_
    cases hf
    exact R_i hK d_L_span_18 (Nat.le_of_ble_eq_true rfl) (Nat.le_of_ble_eq_true rfl)
theorem s_L_span {G : Gl} (hG : G.1.stackTraces = false) {μ : Mem} {p1 : Int32} {p2 : Bool} {r : (Int32 × Mem)} (hf : f_L_span μ p1 p2 = some r) : RtH G yL_span F_L_span (some .int) [.ref (G.2.1 + 0), .int p1, .int (b2i p2), .ref (G.2.1 + 275)] μ (some (.int r.1)) r.2 := fun n => Sd.ofH hG ⟨by decide +kernel, rfl⟩ rfl (Nat.le_of_ble_eq_true rfl) rfl (fun C hK => s_L_span_e hG hf hK)
theorem d_L_led_0 : decode cL_led 0 = .ok (.aload_n 3, 1) := by decide +kernel
theorem d_L_led_1 : decode cL_led 1 = .ok (.iconst 0, 1) := by decide +kernel
theorem d_L_led_2 : decode cL_led 2 = .ok (.aload_n 0, 1) := by decide +kernel
theorem d_L_led_3 : decode cL_led 3 = .ok (.iload_n 1, 1) := by decide +kernel
theorem d_L_led_4 : decode cL_led 4 = .ok (.iload_n 2, 1) := by decide +kernel
theorem d_L_led_5 : decode cL_led 5 = .ok (.invokevirtual 120, 3) := by decide +kernel
theorem d_L_led_8 : decode cL_led 8 = .ok (.i2l, 1) := by decide +kernel
theorem d_L_led_9 : decode cL_led 9 = .ok (.lastore, 1) := by decide +kernel
theorem d_L_led_10 : decode cL_led 10 = .ok (.goto 7, 3) := by decide +kernel
theorem d_L_led_13 : decode cL_led 13 = .ok (.astore 4, 2) := by decide +kernel
theorem d_L_led_15 : decode cL_led 15 = .ok (.iconst 1, 1) := by decide +kernel
theorem d_L_led_16 : decode cL_led 16 = .ok (.ireturn, 1) := by decide +kernel
theorem d_L_led_17 : decode cL_led 17 = .ok (.iconst 0, 1) := by decide +kernel
theorem d_L_led_18 : decode cL_led 18 = .ok (.ireturn, 1) := by decide +kernel
theorem s_L_led_e {G : Gl} (hG : G.1.stackTraces = false) {C : Cx} {n : Nat} {μ : Mem} {p1 : Int32} {p2 : Bool} {r : (Int32 × Mem)} (hf : f_L_led μ p1 p2 = some r) (hK : FinR G C F_L_led (some .int) (some (.int r.1)) r.2) : V G C F_L_led 0 [some (.ref (G.2.1 + 0)), some (.int p1), some (.int (b2i p2)), some (.ref (G.2.1 + 275)), none] [] (pic G μ) n 0 0 := by
  unfold f_L_led at hf
  refine V_aload_n d_L_led_0 rfl rfl ?_
  refine V_iconst (v := 0) d_L_led_1 ic_0 ?_
  refine V_aload_n d_L_led_2 rfl rfl ?_
  refine V_iload_n d_L_led_3 rfl rfl ?_
  refine V_iload_n d_L_led_4 rfl rfl ?_
  obtain ⟨q1, hq1, hf⟩ := ob hf
  cases q1 with
  | inl e9 =>
    obtain ⟨k9, μ9⟩ := e9
    replace hf := elimL hf
    by_cases cx5_0 : k9 = 2
    · subst cx5_0
      replace hf := iteT rfl hf
      refine B_callVXt (kc' := 1) (ks' := 6) (s_X11_led hG hq1) k_0 clX11 m_X11_led kv_RL_120 d_L_led_5 rfl (Nat.le_of_ble_eq_true rfl) ⟨rfl, rfl, Nat.le_of_ble_eq_true rfl, Nat.le_of_ble_eq_true rfl, Nat.le_of_ble_eq_true rfl⟩ (fun n => ?_)
      refine VX_catch [] (0, 10, 13, 24) [] rfl (fun z hz => absurd hz List.not_mem_nil) (by decide) (by decide) w_926 (List.mem_of_getElem? (i := 2) rfl) (fun q9 => ?_)
      refine V_astore (ls' := [_, _, _, _, _]) d_L_led_13 rfl rfl ?_
      refine V_iconst (v := 1) d_L_led_15 ic_1 ?_
      cases hf
      exact R_i hK d_L_led_16 (Nat.le_of_ble_eq_true rfl) (Nat.le_of_ble_eq_true rfl)
    replace hf := iteF cx5_0 hf
    cases hf
  | inr v2 =>
    replace hf := elimR hf
    refine B_callVX1 (kc' := 1) (ks' := 6) (s_X11_led hG hq1) k_0 clX11 m_X11_led kv_RL_120 d_L_led_5 rfl (Nat.le_of_ble_eq_true rfl) ⟨rfl, rfl, Nat.le_of_ble_eq_true rfl, Nat.le_of_ble_eq_true rfl, Nat.le_of_ble_eq_true rfl⟩ (fun n => ?_)
    refine V_i2l d_L_led_8 ?_
    obtain ⟨μ3, hμ3, hf⟩ := ob hf
    refine B_last k_275 hμ3 d_L_led_9 ?_
    refine V_goto (tgt := 17) d_L_led_10 (by decide) ?_
    refine V_iconst (v := 0) d_L_led_17 ic_0 ?_
    cases hf
    exact R_i hK d_L_led_18 (Nat.le_of_ble_eq_true rfl) (Nat.le_of_ble_eq_true rfl)
theorem s_L_led {G : Gl} (hG : G.1.stackTraces = false) {μ : Mem} {p1 : Int32} {p2 : Bool} {r : (Int32 × Mem)} (hf : f_L_led μ p1 p2 = some r) : RtH G yL_led F_L_led (some .int) [.ref (G.2.1 + 0), .int p1, .int (b2i p2), .ref (G.2.1 + 275)] μ (some (.int r.1)) r.2 := fun n => Sd.ofH hG ⟨by decide +kernel, rfl⟩ rfl (Nat.le_of_ble_eq_true rfl) rfl (fun C hK => s_L_led_e hG hf hK)
theorem d_L_log_0 : decode cL_log 0 = .ok (.aload_n 3, 1) := by decide +kernel
theorem d_L_log_1 : decode cL_log 1 = .ok (.iconst 0, 1) := by decide +kernel
theorem d_L_log_2 : decode cL_log 2 = .ok (.aload_n 0, 1) := by decide +kernel
theorem d_L_log_3 : decode cL_log 3 = .ok (.iload_n 1, 1) := by decide +kernel
theorem d_L_log_4 : decode cL_log 4 = .ok (.iload_n 2, 1) := by decide +kernel
theorem d_L_log_5 : decode cL_log 5 = .ok (.invokevirtual 123, 3) := by decide +kernel
theorem d_L_log_8 : decode cL_log 8 = .ok (.i2l, 1) := by decide +kernel
theorem d_L_log_9 : decode cL_log 9 = .ok (.lastore, 1) := by decide +kernel
theorem d_L_log_10 : decode cL_log 10 = .ok (.goto 7, 3) := by decide +kernel
theorem d_L_log_13 : decode cL_log 13 = .ok (.astore 4, 2) := by decide +kernel
theorem d_L_log_15 : decode cL_log 15 = .ok (.iconst 1, 1) := by decide +kernel
theorem d_L_log_16 : decode cL_log 16 = .ok (.ireturn, 1) := by decide +kernel
theorem d_L_log_17 : decode cL_log 17 = .ok (.iconst 0, 1) := by decide +kernel
theorem d_L_log_18 : decode cL_log 18 = .ok (.ireturn, 1) := by decide +kernel
theorem s_L_log_e {G : Gl} (hG : G.1.stackTraces = false) {C : Cx} {n : Nat} {μ : Mem} {p1 : Int32} {p2 : Int32} {r : (Int32 × Mem)} (hf : f_L_log μ p1 p2 = some r) (hK : FinR G C F_L_log (some .int) (some (.int r.1)) r.2) : V G C F_L_log 0 [some (.ref (G.2.1 + 0)), some (.int p1), some (.int p2), some (.ref (G.2.1 + 275)), none] [] (pic G μ) n 0 0 := by
  unfold f_L_log at hf
  refine V_aload_n d_L_log_0 rfl rfl ?_
  refine V_iconst (v := 0) d_L_log_1 ic_0 ?_
  refine V_aload_n d_L_log_2 rfl rfl ?_
  refine V_iload_n d_L_log_3 rfl rfl ?_
  refine V_iload_n d_L_log_4 rfl rfl ?_
  obtain ⟨q1, hq1, hf⟩ := ob hf
  cases q1 with
  | inl e9 =>
    obtain ⟨k9, μ9⟩ := e9
    replace hf := elimL hf
    by_cases cx5_0 : k9 = 4
    · subst cx5_0
      replace hf := iteT rfl hf
      refine B_callVXt (kc' := 1) (ks' := 6) (s_X11_log hG hq1) k_0 clX11 m_X11_log kv_RL_123 d_L_log_5 rfl (Nat.le_of_ble_eq_true rfl) ⟨rfl, rfl, Nat.le_of_ble_eq_true rfl, Nat.le_of_ble_eq_true rfl, Nat.le_of_ble_eq_true rfl⟩ (fun n => ?_)
      refine VX_catch [] (0, 10, 13, 26) [] rfl (fun z hz => absurd hz List.not_mem_nil) (by decide) (by decide) w_927 (List.mem_of_getElem? (i := 3) rfl) (fun q9 => ?_)
      refine V_astore (ls' := [_, _, _, _, _]) d_L_log_13 rfl rfl ?_
      refine V_iconst (v := 1) d_L_log_15 ic_1 ?_
      cases hf
      exact R_i hK d_L_log_16 (Nat.le_of_ble_eq_true rfl) (Nat.le_of_ble_eq_true rfl)
    replace hf := iteF cx5_0 hf
    cases hf
  | inr v2 =>
    replace hf := elimR hf
    refine B_callVX1 (kc' := 1) (ks' := 6) (s_X11_log hG hq1) k_0 clX11 m_X11_log kv_RL_123 d_L_log_5 rfl (Nat.le_of_ble_eq_true rfl) ⟨rfl, rfl, Nat.le_of_ble_eq_true rfl, Nat.le_of_ble_eq_true rfl, Nat.le_of_ble_eq_true rfl⟩ (fun n => ?_)
    refine V_i2l d_L_log_8 ?_
    obtain ⟨μ3, hμ3, hf⟩ := ob hf
    refine B_last k_275 hμ3 d_L_log_9 ?_
    refine V_goto (tgt := 17) d_L_log_10 (by decide) ?_
    refine V_iconst (v := 0) d_L_log_17 ic_0 ?_
    cases hf
    exact R_i hK d_L_log_18 (Nat.le_of_ble_eq_true rfl) (Nat.le_of_ble_eq_true rfl)
theorem s_L_log {G : Gl} (hG : G.1.stackTraces = false) {μ : Mem} {p1 : Int32} {p2 : Int32} {r : (Int32 × Mem)} (hf : f_L_log μ p1 p2 = some r) : RtH G yL_log F_L_log (some .int) [.ref (G.2.1 + 0), .int p1, .int p2, .ref (G.2.1 + 275)] μ (some (.int r.1)) r.2 := fun n => Sd.ofH hG ⟨by decide +kernel, rfl⟩ rfl (Nat.le_of_ble_eq_true rfl) rfl (fun C hK => s_L_log_e hG hf hK)
