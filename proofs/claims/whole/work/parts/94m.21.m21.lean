theorem d_X2_liveOn_0 : decode cX2_liveOn 0 = .ok (.iconst 0, 1) := by decide +kernel
theorem d_X2_liveOn_1 : decode cX2_liveOn 1 = .ok (.istore 4, 2) := by decide +kernel
theorem d_X2_liveOn_3 : decode cX2_liveOn 3 = .ok (.iconst 0, 1) := by decide +kernel
theorem d_X2_liveOn_4 : decode cX2_liveOn 4 = .ok (.istore 5, 2) := by decide +kernel
theorem d_X2_liveOn_6 : decode cX2_liveOn 6 = .ok (.iload 5, 2) := by decide +kernel
theorem d_X2_liveOn_8 : decode cX2_liveOn 8 = .ok (.iload_n 1, 1) := by decide +kernel
theorem d_X2_liveOn_9 : decode cX2_liveOn 9 = .ok (.if_icmp .ge 142, 3) := by decide +kernel
theorem d_X2_liveOn_12 : decode cX2_liveOn 12 = .ok (.iload 4, 2) := by decide +kernel
theorem d_X2_liveOn_14 : decode cX2_liveOn 14 = .ok (.aload_n 0, 1) := by decide +kernel
theorem d_X2_liveOn_15 : decode cX2_liveOn 15 = .ok (.aload_n 2, 1) := by decide +kernel
theorem d_X2_liveOn_16 : decode cX2_liveOn 16 = .ok (.iload_n 3, 1) := by decide +kernel
theorem d_X2_liveOn_17 : decode cX2_liveOn 17 = .ok (.invokevirtual 102, 3) := by decide +kernel
theorem d_X2_liveOn_20 : decode cX2_liveOn 20 = .ok (.iadd, 1) := by decide +kernel
theorem d_X2_liveOn_21 : decode cX2_liveOn 21 = .ok (.istore 4, 2) := by decide +kernel
theorem d_X2_liveOn_23 : decode cX2_liveOn 23 = .ok (.iconst 0, 1) := by decide +kernel
theorem d_X2_liveOn_24 : decode cX2_liveOn 24 = .ok (.istore 6, 2) := by decide +kernel
theorem d_X2_liveOn_26 : decode cX2_liveOn 26 = .ok (.iload 6, 2) := by decide +kernel
theorem d_X2_liveOn_28 : decode cX2_liveOn 28 = .ok (.iconst 2, 1) := by decide +kernel
theorem d_X2_liveOn_29 : decode cX2_liveOn 29 = .ok (.aload_n 0, 1) := by decide +kernel
theorem d_X2_liveOn_30 : decode cX2_liveOn 30 = .ok (.getfield 9, 3) := by decide +kernel
theorem d_X2_liveOn_33 : decode cX2_liveOn 33 = .ok (.imul, 1) := by decide +kernel
theorem d_X2_liveOn_34 : decode cX2_liveOn 34 = .ok (.if_icmp .ge 46, 3) := by decide +kernel
theorem d_X2_liveOn_37 : decode cX2_liveOn 37 = .ok (.aload_n 0, 1) := by decide +kernel
theorem d_X2_liveOn_38 : decode cX2_liveOn 38 = .ok (.iload 6, 2) := by decide +kernel
theorem d_X2_liveOn_40 : decode cX2_liveOn 40 = .ok (.invokevirtual 106, 3) := by decide +kernel
theorem d_X2_liveOn_43 : decode cX2_liveOn 43 = .ok (.ifCond .eq 31, 3) := by decide +kernel
theorem d_X2_liveOn_46 : decode cX2_liveOn 46 = .ok (.aload_n 0, 1) := by decide +kernel
theorem d_X2_liveOn_47 : decode cX2_liveOn 47 = .ok (.getfield 52, 3) := by decide +kernel
theorem d_X2_liveOn_50 : decode cX2_liveOn 50 = .ok (.iload 6, 2) := by decide +kernel
theorem d_X2_liveOn_52 : decode cX2_liveOn 52 = .ok (.sipush 999, 3) := by decide +kernel
theorem d_X2_liveOn_55 : decode cX2_liveOn 55 = .ok (.aload_n 0, 1) := by decide +kernel
theorem d_X2_liveOn_56 : decode cX2_liveOn 56 = .ok (.getfield 52, 3) := by decide +kernel
theorem d_X2_liveOn_59 : decode cX2_liveOn 59 = .ok (.iload 6, 2) := by decide +kernel
theorem d_X2_liveOn_61 : decode cX2_liveOn 61 = .ok (.iaload, 1) := by decide +kernel
theorem d_X2_liveOn_62 : decode cX2_liveOn 62 = .ok (.aload_n 0, 1) := by decide +kernel
theorem d_X2_liveOn_63 : decode cX2_liveOn 63 = .ok (.iload 6, 2) := by decide +kernel
theorem d_X2_liveOn_65 : decode cX2_liveOn 65 = .ok (.aload_n 2, 1) := by decide +kernel
theorem d_X2_liveOn_66 : decode cX2_liveOn 66 = .ok (.invokevirtual 110, 3) := by decide +kernel
theorem d_X2_liveOn_69 : decode cX2_liveOn 69 = .ok (.iadd, 1) := by decide +kernel
theorem d_X2_liveOn_70 : decode cX2_liveOn 70 = .ok (.invokestatic 96, 3) := by decide +kernel
theorem d_X2_liveOn_73 : decode cX2_liveOn 73 = .ok (.iastore, 1) := by decide +kernel
theorem d_X2_liveOn_74 : decode cX2_liveOn 74 = .ok (.iinc 6 1, 3) := by decide +kernel
theorem d_X2_liveOn_77 : decode cX2_liveOn 77 = .ok (.goto (-51), 3) := by decide +kernel
theorem d_X2_liveOn_80 : decode cX2_liveOn 80 = .ok (.iconst 0, 1) := by decide +kernel
theorem d_X2_liveOn_81 : decode cX2_liveOn 81 = .ok (.istore 6, 2) := by decide +kernel
theorem d_X2_liveOn_83 : decode cX2_liveOn 83 = .ok (.iload 6, 2) := by decide +kernel
theorem d_X2_liveOn_85 : decode cX2_liveOn 85 = .ok (.iconst 2, 1) := by decide +kernel
theorem d_X2_liveOn_86 : decode cX2_liveOn 86 = .ok (.aload_n 0, 1) := by decide +kernel
theorem d_X2_liveOn_87 : decode cX2_liveOn 87 = .ok (.getfield 9, 3) := by decide +kernel
theorem d_X2_liveOn_90 : decode cX2_liveOn 90 = .ok (.imul, 1) := by decide +kernel
theorem d_X2_liveOn_91 : decode cX2_liveOn 91 = .ok (.if_icmp .ge 38, 3) := by decide +kernel
theorem d_X2_liveOn_94 : decode cX2_liveOn 94 = .ok (.aload_n 0, 1) := by decide +kernel
theorem d_X2_liveOn_95 : decode cX2_liveOn 95 = .ok (.iload 6, 2) := by decide +kernel
theorem d_X2_liveOn_97 : decode cX2_liveOn 97 = .ok (.invokevirtual 106, 3) := by decide +kernel
theorem d_X2_liveOn_100 : decode cX2_liveOn 100 = .ok (.ifCond .eq 23, 3) := by decide +kernel
theorem d_X2_liveOn_103 : decode cX2_liveOn 103 = .ok (.aload_n 0, 1) := by decide +kernel
theorem d_X2_liveOn_104 : decode cX2_liveOn 104 = .ok (.getfield 58, 3) := by decide +kernel
theorem d_X2_liveOn_107 : decode cX2_liveOn 107 = .ok (.iload 6, 2) := by decide +kernel
theorem d_X2_liveOn_109 : decode cX2_liveOn 109 = .ok (.iaload, 1) := by decide +kernel
theorem d_X2_liveOn_110 : decode cX2_liveOn 110 = .ok (.aload_n 0, 1) := by decide +kernel
theorem d_X2_liveOn_111 : decode cX2_liveOn 111 = .ok (.getfield 18, 3) := by decide +kernel
theorem d_X2_liveOn_114 : decode cX2_liveOn 114 = .ok (.if_icmp .gt 9, 3) := by decide +kernel
theorem d_X2_liveOn_117 : decode cX2_liveOn 117 = .ok (.aload_n 0, 1) := by decide +kernel
theorem d_X2_liveOn_118 : decode cX2_liveOn 118 = .ok (.iload 6, 2) := by decide +kernel
theorem d_X2_liveOn_120 : decode cX2_liveOn 120 = .ok (.invokevirtual 114, 3) := by decide +kernel
theorem d_X2_liveOn_123 : decode cX2_liveOn 123 = .ok (.iinc 6 1, 3) := by decide +kernel
theorem d_X2_liveOn_126 : decode cX2_liveOn 126 = .ok (.goto (-43), 3) := by decide +kernel
theorem d_X2_liveOn_129 : decode cX2_liveOn 129 = .ok (.aload_n 0, 1) := by decide +kernel
theorem d_X2_liveOn_130 : decode cX2_liveOn 130 = .ok (.sipush 9999, 3) := by decide +kernel
theorem d_X2_liveOn_133 : decode cX2_liveOn 133 = .ok (.aload_n 0, 1) := by decide +kernel
theorem d_X2_liveOn_134 : decode cX2_liveOn 134 = .ok (.getfield 18, 3) := by decide +kernel
theorem d_X2_liveOn_137 : decode cX2_liveOn 137 = .ok (.iconst 1, 1) := by decide +kernel
theorem d_X2_liveOn_138 : decode cX2_liveOn 138 = .ok (.iadd, 1) := by decide +kernel
theorem d_X2_liveOn_139 : decode cX2_liveOn 139 = .ok (.invokestatic 96, 3) := by decide +kernel
theorem d_X2_liveOn_142 : decode cX2_liveOn 142 = .ok (.putfield 18, 3) := by decide +kernel
theorem d_X2_liveOn_145 : decode cX2_liveOn 145 = .ok (.iinc 5 1, 3) := by decide +kernel
theorem d_X2_liveOn_148 : decode cX2_liveOn 148 = .ok (.goto (-142), 3) := by decide +kernel
theorem d_X2_liveOn_151 : decode cX2_liveOn 151 = .ok (.aload_n 0, 1) := by decide +kernel
theorem d_X2_liveOn_152 : decode cX2_liveOn 152 = .ok (.dup, 1) := by decide +kernel
theorem d_X2_liveOn_153 : decode cX2_liveOn 153 = .ok (.getfield 27, 3) := by decide +kernel
theorem d_X2_liveOn_156 : decode cX2_liveOn 156 = .ok (.iload 4, 2) := by decide +kernel
theorem d_X2_liveOn_158 : decode cX2_liveOn 158 = .ok (.iadd, 1) := by decide +kernel
theorem d_X2_liveOn_159 : decode cX2_liveOn 159 = .ok (.putfield 27, 3) := by decide +kernel
theorem d_X2_liveOn_162 : decode cX2_liveOn 162 = .ok (.iload 4, 2) := by decide +kernel
theorem d_X2_liveOn_164 : decode cX2_liveOn 164 = .ok (.ireturn, 1) := by decide +kernel
theorem s_X2_liveOn_j74_26 {G : Gl} (hG : G.1.stackTraces = false) {C : Cx} {n : Nat} {μ : Mem} {a0 : Nat} {a2 : Nat} {l1 : Int32} {l3 : Bool} {l4 : Int32} {l5 : Int32} {l6 : Int32} (ha0 : a0 ∈ landL) (ha2 : a2 ∈ lawL) {y : ((Int32 × Mem) ⊕ Mem)} (hf : f_X2_liveOn_j74_26 μ a0 a2 l1 l3 l4 l5 l6 = some y) (hK : (∀ z', y = .inl z' → ∀ n, V G C F_X2_liveOn 26 [some (.ref (G.2.1 + a0)), some (.int l1), some (.ref (G.2.1 + a2)), some (.int (b2i l3)), some (.int l4), some (.int l5), some (.int z'.1)] [] (pic G z'.2) n 0 0) ∧ (∀ x', y = .inr x' → ∀ n, V G C F_X2_liveOn 80 [some (.ref (G.2.1 + a0)), some (.int l1), some (.ref (G.2.1 + a2)), some (.int (b2i l3)), some (.int l4), some (.int l5), none] [] (pic G x') n 0 0)) : V G C F_X2_liveOn 74 [some (.ref (G.2.1 + a0)), some (.int l1), some (.ref (G.2.1 + a2)), some (.int (b2i l3)), some (.int l4), some (.int l5), some (.int l6)] [] (pic G μ) n 0 0 := by
  unfold f_X2_liveOn_j74_26 at hf
  refine V_iinc (v := (l6 + 1)) (ls' := [_, _, _, _, _, _, _]) d_X2_liveOn_74 rfl (by rw [ic_1]) rfl ?_
  refine V_goto (tgt := 26) d_X2_liveOn_77 (by decide) ?_
  refine V_less (ls' := [some _, some _, some _, some _, some _, some _, some _]) ⟨rfl, rfl, rfl, rfl, rfl, rfl, rfl, trivial⟩ ?_
  cases hf
  exact hK.1 _ rfl _
theorem s_X2_liveOn_b26 {G : Gl} (hG : G.1.stackTraces = false) {C : Cx} {n : Nat} {μ : Mem} {a0 : Nat} {a2 : Nat} {l1 : Int32} {l3 : Bool} {l4 : Int32} {l5 : Int32} {l6 : Int32} (ha0 : a0 ∈ landL) (ha2 : a2 ∈ lawL) {y : ((Int32 × Mem) ⊕ Mem)} (hf : f_X2_liveOn_b26 μ a0 a2 l1 l3 l4 l5 l6 = some y) (hK : (∀ z', y = .inl z' → ∀ n, V G C F_X2_liveOn 26 [some (.ref (G.2.1 + a0)), some (.int l1), some (.ref (G.2.1 + a2)), some (.int (b2i l3)), some (.int l4), some (.int l5), some (.int z'.1)] [] (pic G z'.2) n 0 0) ∧ (∀ x', y = .inr x' → ∀ n, V G C F_X2_liveOn 80 [some (.ref (G.2.1 + a0)), some (.int l1), some (.ref (G.2.1 + a2)), some (.int (b2i l3)), some (.int l4), some (.int l5), none] [] (pic G x') n 0 0)) : V G C F_X2_liveOn 26 [some (.ref (G.2.1 + a0)), some (.int l1), some (.ref (G.2.1 + a2)), some (.int (b2i l3)), some (.int l4), some (.int l5), some (.int l6)] [] (pic G μ) n 0 0 := by
  unfold f_X2_liveOn_b26 at hf
  refine V_iload d_X2_liveOn_26 rfl ?_
  refine V_iconst (v := 2) d_X2_liveOn_28 ic_2 ?_
  refine V_aload_n d_X2_liveOn_29 rfl rfl ?_
  refine B_get (kLand _ ha0) fl_RX2_9 d_X2_liveOn_30 g_2_0 ?_
  refine V_imul d_X2_liveOn_33 ?_
  refine V_icmp_ge (tgt := 80) d_X2_liveOn_34 (by decide) (fun c34 => ?_) (fun c34 => ?_)
  · replace hf := iteT c34 hf
    refine V_less (ls' := [some _, some _, some _, some _, some _, some _, none]) ⟨rfl, rfl, rfl, rfl, rfl, rfl, trivial⟩ ?_
    cases hf
    exact hK.2 _ rfl _
  · replace hf := iteF c34 hf
    refine V_aload_n d_X2_liveOn_37 rfl rfl ?_
    refine V_iload d_X2_liveOn_38 rfl ?_
    obtain ⟨t1, ht1, hf⟩ := ob hf
    refine B_callV1 (s_X2_isPledged hG ha0 ht1) (kLand _ ha0) clX2 m_X2_isPledged kv_RX2_106 d_X2_liveOn_40 rfl (Nat.le_of_ble_eq_true rfl) ⟨rfl, rfl, Nat.le_of_ble_eq_true rfl, Nat.le_of_ble_eq_true rfl, Nat.le_of_ble_eq_true rfl⟩ (fun n => ?_)
    refine V_if_eq (tgt := 74) d_X2_liveOn_43 (by decide) (fun c43 => ?_) (fun c43 => ?_)
    · replace hf := iteF (b2i_nt (b2i_eq0 c43)) hf
      refine V_less (ls' := [some _, some _, some _, some _, some _, some _, some _]) ⟨rfl, rfl, rfl, rfl, rfl, rfl, rfl, trivial⟩ ?_
      exact s_X2_liveOn_j74_26 hG ha0 ha2 hf hK
    · replace hf := iteT (b2i_ne0 c43) hf
      refine V_aload_n d_X2_liveOn_46 rfl rfl ?_
      refine B_get (kLand _ ha0) fl_RX2_52 d_X2_liveOn_47 g_2_13 ?_
      refine V_iload d_X2_liveOn_50 rfl ?_
      refine V_sipush (v := 999) d_X2_liveOn_52 sp_999 ?_
      refine V_aload_n d_X2_liveOn_55 rfl rfl ?_
      refine B_get (kLand _ ha0) fl_RX2_52 d_X2_liveOn_56 g_2_13 ?_
      refine V_iload d_X2_liveOn_59 rfl ?_
      obtain ⟨t2, ht2, hf⟩ := ob hf
      refine B_iald (kLand_8 _ ha0) ht2 d_X2_liveOn_61 ?_
      refine V_aload_n d_X2_liveOn_62 rfl rfl ?_
      refine V_iload d_X2_liveOn_63 rfl ?_
      refine V_aload_n d_X2_liveOn_65 rfl rfl ?_
      obtain ⟨q3, hq3, hf⟩ := ob hf
      refine B_callV1 (s_X2_growthOf hG ha0 ha2 hq3) (kLand _ ha0) clX2 m_X2_growthOf kv_RX2_110 d_X2_liveOn_66 rfl (Nat.le_of_ble_eq_true rfl) ⟨rfl, rfl, Nat.le_of_ble_eq_true rfl, Nat.le_of_ble_eq_true rfl, Nat.le_of_ble_eq_true rfl⟩ (fun n => ?_)
      refine V_iadd d_X2_liveOn_69 ?_
      obtain ⟨t4, ht4, hf⟩ := ob hf
      refine B_callS1 (s_J9_min_7cf53 hG ht4) m_J9_min_7cf53 ks_RX2_96 d_X2_liveOn_70 rfl (Nat.le_of_ble_eq_true rfl) ⟨rfl, rfl, Nat.le_of_ble_eq_true rfl, Nat.le_of_ble_eq_true rfl, Nat.le_of_ble_eq_true rfl⟩ (fun n => ?_)
      obtain ⟨μ5, hμ5, hf⟩ := ob hf
      refine B_iast (kLand_8 _ ha0) hμ5 d_X2_liveOn_73 ?_
      refine V_less (ls' := [some _, some _, some _, some _, some _, some _, some _]) ⟨rfl, rfl, rfl, rfl, rfl, rfl, rfl, trivial⟩ ?_
      exact s_X2_liveOn_j74_26 hG ha0 ha2 hf hK
theorem s_X2_liveOn_j123_83 {G : Gl} (hG : G.1.stackTraces = false) {C : Cx} {n : Nat} {μ : Mem} {a0 : Nat} {a2 : Nat} {l1 : Int32} {l3 : Bool} {l4 : Int32} {l5 : Int32} {l6 : Int32} (ha0 : a0 ∈ landL) (ha2 : a2 ∈ lawL) {y : ((Int32 × Mem) ⊕ Mem)} (hf : f_X2_liveOn_j123_83 μ a0 a2 l1 l3 l4 l5 l6 = some y) (hK : (∀ z', y = .inl z' → ∀ n, V G C F_X2_liveOn 83 [some (.ref (G.2.1 + a0)), some (.int l1), some (.ref (G.2.1 + a2)), some (.int (b2i l3)), some (.int l4), some (.int l5), some (.int z'.1)] [] (pic G z'.2) n 0 0) ∧ (∀ x', y = .inr x' → ∀ n, V G C F_X2_liveOn 129 [some (.ref (G.2.1 + a0)), some (.int l1), some (.ref (G.2.1 + a2)), some (.int (b2i l3)), some (.int l4), some (.int l5), none] [] (pic G x') n 0 0)) : V G C F_X2_liveOn 123 [some (.ref (G.2.1 + a0)), some (.int l1), some (.ref (G.2.1 + a2)), some (.int (b2i l3)), some (.int l4), some (.int l5), some (.int l6)] [] (pic G μ) n 0 0 := by
  unfold f_X2_liveOn_j123_83 at hf
  refine V_iinc (v := (l6 + 1)) (ls' := [_, _, _, _, _, _, _]) d_X2_liveOn_123 rfl (by rw [ic_1]) rfl ?_
  refine V_goto (tgt := 83) d_X2_liveOn_126 (by decide) ?_
  refine V_less (ls' := [some _, some _, some _, some _, some _, some _, some _]) ⟨rfl, rfl, rfl, rfl, rfl, rfl, rfl, trivial⟩ ?_
  cases hf
  exact hK.1 _ rfl _
theorem s_X2_liveOn_b83 {G : Gl} (hG : G.1.stackTraces = false) {C : Cx} {n : Nat} {μ : Mem} {a0 : Nat} {a2 : Nat} {l1 : Int32} {l3 : Bool} {l4 : Int32} {l5 : Int32} {l6 : Int32} (ha0 : a0 ∈ landL) (ha2 : a2 ∈ lawL) {y : ((Int32 × Mem) ⊕ Mem)} (hf : f_X2_liveOn_b83 μ a0 a2 l1 l3 l4 l5 l6 = some y) (hK : (∀ z', y = .inl z' → ∀ n, V G C F_X2_liveOn 83 [some (.ref (G.2.1 + a0)), some (.int l1), some (.ref (G.2.1 + a2)), some (.int (b2i l3)), some (.int l4), some (.int l5), some (.int z'.1)] [] (pic G z'.2) n 0 0) ∧ (∀ x', y = .inr x' → ∀ n, V G C F_X2_liveOn 129 [some (.ref (G.2.1 + a0)), some (.int l1), some (.ref (G.2.1 + a2)), some (.int (b2i l3)), some (.int l4), some (.int l5), none] [] (pic G x') n 0 0)) : V G C F_X2_liveOn 83 [some (.ref (G.2.1 + a0)), some (.int l1), some (.ref (G.2.1 + a2)), some (.int (b2i l3)), some (.int l4), some (.int l5), some (.int l6)] [] (pic G μ) n 0 0 := by
  unfold f_X2_liveOn_b83 at hf
  refine V_iload d_X2_liveOn_83 rfl ?_
  refine V_iconst (v := 2) d_X2_liveOn_85 ic_2 ?_
  refine V_aload_n d_X2_liveOn_86 rfl rfl ?_
  refine B_get (kLand _ ha0) fl_RX2_9 d_X2_liveOn_87 g_2_0 ?_
  refine V_imul d_X2_liveOn_90 ?_
  refine V_icmp_ge (tgt := 129) d_X2_liveOn_91 (by decide) (fun c91 => ?_) (fun c91 => ?_)
  · replace hf := iteT c91 hf
    refine V_less (ls' := [some _, some _, some _, some _, some _, some _, none]) ⟨rfl, rfl, rfl, rfl, rfl, rfl, trivial⟩ ?_
    cases hf
    exact hK.2 _ rfl _
  · replace hf := iteF c91 hf
    refine V_aload_n d_X2_liveOn_94 rfl rfl ?_
    refine V_iload d_X2_liveOn_95 rfl ?_
    obtain ⟨t1, ht1, hf⟩ := ob hf
    refine B_callV1 (s_X2_isPledged hG ha0 ht1) (kLand _ ha0) clX2 m_X2_isPledged kv_RX2_106 d_X2_liveOn_97 rfl (Nat.le_of_ble_eq_true rfl) ⟨rfl, rfl, Nat.le_of_ble_eq_true rfl, Nat.le_of_ble_eq_true rfl, Nat.le_of_ble_eq_true rfl⟩ (fun n => ?_)
    refine V_if_eq (tgt := 123) d_X2_liveOn_100 (by decide) (fun c100 => ?_) (fun c100 => ?_)
    · replace hf := iteF (b2i_nt (b2i_eq0 c100)) hf
      refine V_less (ls' := [some _, some _, some _, some _, some _, some _, some _]) ⟨rfl, rfl, rfl, rfl, rfl, rfl, rfl, trivial⟩ ?_
      exact s_X2_liveOn_j123_83 hG ha0 ha2 hf hK
    · replace hf := iteT (b2i_ne0 c100) hf
      refine V_aload_n d_X2_liveOn_103 rfl rfl ?_
      refine B_get (kLand _ ha0) fl_RX2_58 d_X2_liveOn_104 g_2_15 ?_
      refine V_iload d_X2_liveOn_107 rfl ?_
      obtain ⟨t2, ht2, hf⟩ := ob hf
      refine B_iald (kLand_10 _ ha0) ht2 d_X2_liveOn_109 ?_
      refine V_aload_n d_X2_liveOn_110 rfl rfl ?_
      refine B_get (kLand _ ha0) fl_RX2_18 d_X2_liveOn_111 g_2_2 ?_
      refine V_icmp_gt (tgt := 123) d_X2_liveOn_114 (by decide) (fun c114 => ?_) (fun c114 => ?_)
      · replace hf := iteT c114 hf
        refine V_less (ls' := [some _, some _, some _, some _, some _, some _, some _]) ⟨rfl, rfl, rfl, rfl, rfl, rfl, rfl, trivial⟩ ?_
        exact s_X2_liveOn_j123_83 hG ha0 ha2 hf hK
      · replace hf := iteF c114 hf
        refine V_aload_n d_X2_liveOn_117 rfl rfl ?_
        refine V_iload d_X2_liveOn_118 rfl ?_
        obtain ⟨q3, hq3, hf⟩ := ob hf
        refine B_callV0 (s_X2_settle hG ha0 hq3) (kLand _ ha0) clX2 m_X2_settle kv_RX2_114 d_X2_liveOn_120 rfl (Nat.le_of_ble_eq_true rfl) ⟨rfl, rfl, Nat.le_of_ble_eq_true rfl, Nat.le_of_ble_eq_true rfl, Nat.le_of_ble_eq_true rfl⟩ (fun n => ?_)
        refine V_less (ls' := [some _, some _, some _, some _, some _, some _, some _]) ⟨rfl, rfl, rfl, rfl, rfl, rfl, rfl, trivial⟩ ?_
        exact s_X2_liveOn_j123_83 hG ha0 ha2 hf hK
theorem s_X2_liveOn_j129_6 {G : Gl} (hG : G.1.stackTraces = false) {C : Cx} {n : Nat} {μ : Mem} {a0 : Nat} {a2 : Nat} {l1 : Int32} {l3 : Bool} {l4 : Int32} {l5 : Int32} (ha0 : a0 ∈ landL) (ha2 : a2 ∈ lawL) {y : ((Int32 × Int32 × Mem) ⊕ (Int32 × Mem))} (hf : f_X2_liveOn_j129_6 μ a0 a2 l1 l3 l4 l5 = some y) (hK : (∀ z', y = .inl z' → ∀ n, V G C F_X2_liveOn 6 [some (.ref (G.2.1 + a0)), some (.int l1), some (.ref (G.2.1 + a2)), some (.int (b2i l3)), some (.int z'.1), some (.int z'.2.1), none] [] (pic G z'.2.2) n 0 0) ∧ (∀ x', y = .inr x' → ∀ n, V G C F_X2_liveOn 151 [some (.ref (G.2.1 + a0)), none, none, none, some (.int x'.1), none, none] [] (pic G x'.2) n 0 0)) : V G C F_X2_liveOn 129 [some (.ref (G.2.1 + a0)), some (.int l1), some (.ref (G.2.1 + a2)), some (.int (b2i l3)), some (.int l4), some (.int l5), none] [] (pic G μ) n 0 0 := by
  unfold f_X2_liveOn_j129_6 at hf
  refine V_aload_n d_X2_liveOn_129 rfl rfl ?_
  refine V_sipush (v := 9999) d_X2_liveOn_130 sp_9999 ?_
  refine V_aload_n d_X2_liveOn_133 rfl rfl ?_
  refine B_get (kLand _ ha0) fl_RX2_18 d_X2_liveOn_134 g_2_2 ?_
  refine V_iconst (v := 1) d_X2_liveOn_137 ic_1 ?_
  refine V_iadd d_X2_liveOn_138 ?_
  obtain ⟨t1, ht1, hf⟩ := ob hf
  refine B_callS1 (s_J9_min_7cf53 hG ht1) m_J9_min_7cf53 ks_RX2_96 d_X2_liveOn_139 rfl (Nat.le_of_ble_eq_true rfl) ⟨rfl, rfl, Nat.le_of_ble_eq_true rfl, Nat.le_of_ble_eq_true rfl, Nat.le_of_ble_eq_true rfl⟩ (fun n => ?_)
  refine B_putI (kLand _ ha0) fl_RX2_18 pt_2_2 (Nat.le_of_ble_eq_true rfl) p_2_2 d_X2_liveOn_142 ?_
  refine V_iinc (v := (l5 + 1)) (ls' := [_, _, _, _, _, _, _]) d_X2_liveOn_145 rfl (by rw [ic_1]) rfl ?_
  refine V_goto (tgt := 6) d_X2_liveOn_148 (by decide) ?_
  refine V_less (ls' := [some _, some _, some _, some _, some _, some _, none]) ⟨rfl, rfl, rfl, rfl, rfl, rfl, trivial⟩ ?_
  cases hf
  exact hK.1 _ rfl _
theorem s_X2_liveOn_l83 {G : Gl} (hG : G.1.stackTraces = false) {C : Cx} {n : Nat} {μ : Mem} {a0 : Nat} {a2 : Nat} {l1 : Int32} {l3 : Bool} {l4 : Int32} {l5 : Int32} {l6 : Int32} (ha0 : a0 ∈ landL) (ha2 : a2 ∈ lawL) {y : ((Int32 × Int32 × Mem) ⊕ (Int32 × Mem))} (hf : f_X2_liveOn_l83 μ a0 a2 l1 l3 l4 l5 l6 = some y) (hK : (∀ z', y = .inl z' → ∀ n, V G C F_X2_liveOn 6 [some (.ref (G.2.1 + a0)), some (.int l1), some (.ref (G.2.1 + a2)), some (.int (b2i l3)), some (.int z'.1), some (.int z'.2.1), none] [] (pic G z'.2.2) n 0 0) ∧ (∀ x', y = .inr x' → ∀ n, V G C F_X2_liveOn 151 [some (.ref (G.2.1 + a0)), none, none, none, some (.int x'.1), none, none] [] (pic G x'.2) n 0 0)) : V G C F_X2_liveOn 83 [some (.ref (G.2.1 + a0)), some (.int l1), some (.ref (G.2.1 + a2)), some (.int (b2i l3)), some (.int l4), some (.int l5), some (.int l6)] [] (pic G μ) n 0 0 := by
  unfold f_X2_liveOn_l83 at hf
  obtain ⟨t, hl, hf⟩ := ob hf
  refine loopV (P := fun z => ∀ n, V G C F_X2_liveOn 83 [some (.ref (G.2.1 + a0)), some (.int l1), some (.ref (G.2.1 + a2)), some (.int (b2i l3)), some (.int l4), some (.int l5), some (.int z.1)] [] (pic G z.2) n 0 0) (t := t) ?_ _ _ hl n
  intro z y' hy hI hT n
  refine s_X2_liveOn_b83 hG ha0 ha2 hy ⟨hI, fun x9 ex => ?_⟩
  have ex2 := hT x9 ex
  subst ex2
  intro n
  exact s_X2_liveOn_j129_6 hG ha0 ha2 hf hK
theorem s_X2_liveOn_j80_6 {G : Gl} (hG : G.1.stackTraces = false) {C : Cx} {n : Nat} {μ : Mem} {a0 : Nat} {a2 : Nat} {l1 : Int32} {l3 : Bool} {l4 : Int32} {l5 : Int32} (ha0 : a0 ∈ landL) (ha2 : a2 ∈ lawL) {y : ((Int32 × Int32 × Mem) ⊕ (Int32 × Mem))} (hf : f_X2_liveOn_j80_6 μ a0 a2 l1 l3 l4 l5 = some y) (hK : (∀ z', y = .inl z' → ∀ n, V G C F_X2_liveOn 6 [some (.ref (G.2.1 + a0)), some (.int l1), some (.ref (G.2.1 + a2)), some (.int (b2i l3)), some (.int z'.1), some (.int z'.2.1), none] [] (pic G z'.2.2) n 0 0) ∧ (∀ x', y = .inr x' → ∀ n, V G C F_X2_liveOn 151 [some (.ref (G.2.1 + a0)), none, none, none, some (.int x'.1), none, none] [] (pic G x'.2) n 0 0)) : V G C F_X2_liveOn 80 [some (.ref (G.2.1 + a0)), some (.int l1), some (.ref (G.2.1 + a2)), some (.int (b2i l3)), some (.int l4), some (.int l5), none] [] (pic G μ) n 0 0 := by
  unfold f_X2_liveOn_j80_6 at hf
  refine V_iconst (v := 0) d_X2_liveOn_80 ic_0 ?_
  refine V_istore (ls' := [_, _, _, _, _, _, _]) d_X2_liveOn_81 rfl rfl ?_
  refine V_less (ls' := [some _, some _, some _, some _, some _, some _, some _]) ⟨rfl, rfl, rfl, rfl, rfl, rfl, rfl, trivial⟩ ?_
  exact s_X2_liveOn_l83 hG ha0 ha2 hf hK
theorem s_X2_liveOn_l26 {G : Gl} (hG : G.1.stackTraces = false) {C : Cx} {n : Nat} {μ : Mem} {a0 : Nat} {a2 : Nat} {l1 : Int32} {l3 : Bool} {l4 : Int32} {l5 : Int32} {l6 : Int32} (ha0 : a0 ∈ landL) (ha2 : a2 ∈ lawL) {y : ((Int32 × Int32 × Mem) ⊕ (Int32 × Mem))} (hf : f_X2_liveOn_l26 μ a0 a2 l1 l3 l4 l5 l6 = some y) (hK : (∀ z', y = .inl z' → ∀ n, V G C F_X2_liveOn 6 [some (.ref (G.2.1 + a0)), some (.int l1), some (.ref (G.2.1 + a2)), some (.int (b2i l3)), some (.int z'.1), some (.int z'.2.1), none] [] (pic G z'.2.2) n 0 0) ∧ (∀ x', y = .inr x' → ∀ n, V G C F_X2_liveOn 151 [some (.ref (G.2.1 + a0)), none, none, none, some (.int x'.1), none, none] [] (pic G x'.2) n 0 0)) : V G C F_X2_liveOn 26 [some (.ref (G.2.1 + a0)), some (.int l1), some (.ref (G.2.1 + a2)), some (.int (b2i l3)), some (.int l4), some (.int l5), some (.int l6)] [] (pic G μ) n 0 0 := by
  unfold f_X2_liveOn_l26 at hf
  obtain ⟨t, hl, hf⟩ := ob hf
  refine loopV (P := fun z => ∀ n, V G C F_X2_liveOn 26 [some (.ref (G.2.1 + a0)), some (.int l1), some (.ref (G.2.1 + a2)), some (.int (b2i l3)), some (.int l4), some (.int l5), some (.int z.1)] [] (pic G z.2) n 0 0) (t := t) ?_ _ _ hl n
  intro z y' hy hI hT n
  refine s_X2_liveOn_b26 hG ha0 ha2 hy ⟨hI, fun x9 ex => ?_⟩
  have ex2 := hT x9 ex
  subst ex2
  intro n
  exact s_X2_liveOn_j80_6 hG ha0 ha2 hf hK
theorem s_X2_liveOn_b6 {G : Gl} (hG : G.1.stackTraces = false) {C : Cx} {n : Nat} {μ : Mem} {a0 : Nat} {a2 : Nat} {l1 : Int32} {l3 : Bool} {l4 : Int32} {l5 : Int32} (ha0 : a0 ∈ landL) (ha2 : a2 ∈ lawL) {y : ((Int32 × Int32 × Mem) ⊕ (Int32 × Mem))} (hf : f_X2_liveOn_b6 μ a0 a2 l1 l3 l4 l5 = some y) (hK : (∀ z', y = .inl z' → ∀ n, V G C F_X2_liveOn 6 [some (.ref (G.2.1 + a0)), some (.int l1), some (.ref (G.2.1 + a2)), some (.int (b2i l3)), some (.int z'.1), some (.int z'.2.1), none] [] (pic G z'.2.2) n 0 0) ∧ (∀ x', y = .inr x' → ∀ n, V G C F_X2_liveOn 151 [some (.ref (G.2.1 + a0)), none, none, none, some (.int x'.1), none, none] [] (pic G x'.2) n 0 0)) : V G C F_X2_liveOn 6 [some (.ref (G.2.1 + a0)), some (.int l1), some (.ref (G.2.1 + a2)), some (.int (b2i l3)), some (.int l4), some (.int l5), none] [] (pic G μ) n 0 0 := by
  unfold f_X2_liveOn_b6 at hf
  refine V_iload d_X2_liveOn_6 rfl ?_
  refine V_iload_n d_X2_liveOn_8 rfl rfl ?_
  refine V_icmp_ge (tgt := 151) d_X2_liveOn_9 (by decide) (fun c9 => ?_) (fun c9 => ?_)
  · replace hf := iteT c9 hf
    refine V_less (ls' := [some _, none, none, none, some _, none, none]) ⟨rfl, rfl, trivial⟩ ?_
    cases hf
    exact hK.2 _ rfl _
  · replace hf := iteF c9 hf
    refine V_iload d_X2_liveOn_12 rfl ?_
    refine V_aload_n d_X2_liveOn_14 rfl rfl ?_
    refine V_aload_n d_X2_liveOn_15 rfl rfl ?_
    refine V_iload_n d_X2_liveOn_16 rfl rfl ?_
    obtain ⟨q1, hq1, hf⟩ := ob hf
    refine B_callV1 (s_X2_walkAll hG ha0 ha2 hq1) (kLand _ ha0) clX2 m_X2_walkAll kv_RX2_102 d_X2_liveOn_17 rfl (Nat.le_of_ble_eq_true rfl) ⟨rfl, rfl, Nat.le_of_ble_eq_true rfl, Nat.le_of_ble_eq_true rfl, Nat.le_of_ble_eq_true rfl⟩ (fun n => ?_)
    refine V_iadd d_X2_liveOn_20 ?_
    refine V_istore (ls' := [_, _, _, _, _, _, _]) d_X2_liveOn_21 rfl rfl ?_
    refine V_iconst (v := 0) d_X2_liveOn_23 ic_0 ?_
    refine V_istore (ls' := [_, _, _, _, _, _, _]) d_X2_liveOn_24 rfl rfl ?_
    refine V_less (ls' := [some _, some _, some _, some _, some _, some _, some _]) ⟨rfl, rfl, rfl, rfl, rfl, rfl, rfl, trivial⟩ ?_
    exact s_X2_liveOn_l26 hG ha0 ha2 hf hK
theorem s_X2_liveOn_j151 {G : Gl} (hG : G.1.stackTraces = false) {C : Cx} {n : Nat} {μ : Mem} {a0 : Nat} {a2 : Nat} {l4 : Int32} (ha0 : a0 ∈ landL) (ha2 : a2 ∈ lawL) {r : (Int32 × Mem)} (hf : f_X2_liveOn_j151 μ a0 a2 l4 = some r) (hK : FinR G C F_X2_liveOn (some .int) (some (.int r.1)) r.2) : V G C F_X2_liveOn 151 [some (.ref (G.2.1 + a0)), none, none, none, some (.int l4), none, none] [] (pic G μ) n 0 0 := by
  unfold f_X2_liveOn_j151 at hf
  refine V_aload_n d_X2_liveOn_151 rfl rfl ?_
  refine V_dup d_X2_liveOn_152 rfl ?_
  refine B_get (kLand _ ha0) fl_RX2_27 d_X2_liveOn_153 g_2_5 ?_
  refine V_iload d_X2_liveOn_156 rfl ?_
  refine V_iadd d_X2_liveOn_158 ?_
  refine B_putI (kLand _ ha0) fl_RX2_27 pt_2_5 (Nat.le_of_ble_eq_true rfl) p_2_5 d_X2_liveOn_159 ?_
  refine V_iload d_X2_liveOn_162 rfl ?_
  cases hf
  exact R_i hK d_X2_liveOn_164 (Nat.le_of_ble_eq_true rfl) (Nat.le_of_ble_eq_true rfl)
theorem s_X2_liveOn_l6 {G : Gl} (hG : G.1.stackTraces = false) {C : Cx} {n : Nat} {μ : Mem} {a0 : Nat} {a2 : Nat} {l1 : Int32} {l3 : Bool} {l4 : Int32} {l5 : Int32} (ha0 : a0 ∈ landL) (ha2 : a2 ∈ lawL) {r : (Int32 × Mem)} (hf : f_X2_liveOn_l6 μ a0 a2 l1 l3 l4 l5 = some r) (hK : FinR G C F_X2_liveOn (some .int) (some (.int r.1)) r.2) : V G C F_X2_liveOn 6 [some (.ref (G.2.1 + a0)), some (.int l1), some (.ref (G.2.1 + a2)), some (.int (b2i l3)), some (.int l4), some (.int l5), none] [] (pic G μ) n 0 0 := by
  unfold f_X2_liveOn_l6 at hf
  obtain ⟨t, hl, hf⟩ := ob hf
  refine loopV (P := fun z => ∀ n, V G C F_X2_liveOn 6 [some (.ref (G.2.1 + a0)), some (.int l1), some (.ref (G.2.1 + a2)), some (.int (b2i l3)), some (.int z.1), some (.int z.2.1), none] [] (pic G z.2.2) n 0 0) (t := t) ?_ _ _ hl n
  intro z y' hy hI hT n
  refine s_X2_liveOn_b6 hG ha0 ha2 hy ⟨hI, fun x9 ex => ?_⟩
  have ex2 := hT x9 ex
  subst ex2
  intro n
  exact s_X2_liveOn_j151 hG ha0 ha2 hf hK
theorem s_X2_liveOn_e {G : Gl} (hG : G.1.stackTraces = false) {C : Cx} {n : Nat} {μ : Mem} {a0 : Nat} {p1 : Int32} {a2 : Nat} {p3 : Bool} (ha0 : a0 ∈ landL) (ha2 : a2 ∈ lawL) {r : (Int32 × Mem)} (hf : f_X2_liveOn μ a0 p1 a2 p3 = some r) (hK : FinR G C F_X2_liveOn (some .int) (some (.int r.1)) r.2) : V G C F_X2_liveOn 0 [some (.ref (G.2.1 + a0)), some (.int p1), some (.ref (G.2.1 + a2)), some (.int (b2i p3)), none, none, none] [] (pic G μ) n 0 0 := by
  unfold f_X2_liveOn at hf
  refine V_iconst (v := 0) d_X2_liveOn_0 ic_0 ?_
  refine V_istore (ls' := [_, _, _, _, _, _, _]) d_X2_liveOn_1 rfl rfl ?_
  refine V_iconst (v := 0) d_X2_liveOn_3 ic_0 ?_
  refine V_istore (ls' := [_, _, _, _, _, _, _]) d_X2_liveOn_4 rfl rfl ?_
  refine V_less (ls' := [some _, some _, some _, some _, some _, some _, none]) ⟨rfl, rfl, rfl, rfl, rfl, rfl, trivial⟩ ?_
  exact s_X2_liveOn_l6 hG ha0 ha2 hf hK
theorem s_X2_liveOn {G : Gl} (hG : G.1.stackTraces = false) {μ : Mem} {a0 : Nat} {p1 : Int32} {a2 : Nat} {p3 : Bool} (ha0 : a0 ∈ landL) (ha2 : a2 ∈ lawL) {r : (Int32 × Mem)} (hf : f_X2_liveOn μ a0 p1 a2 p3 = some r) : Rt G yX2_liveOn F_X2_liveOn (some .int) [.ref (G.2.1 + a0), .int p1, .ref (G.2.1 + a2), .int (b2i p3)] μ (some (.int r.1)) r.2 := fun n => Sd.of hG ⟨by decide +kernel, rfl, rfl⟩ rfl (Nat.le_of_ble_eq_true rfl) rfl (fun C hK => s_X2_liveOn_e hG ha0 ha2 hf hK)
theorem d_X2_lacesThatAre_0 : decode cX2_lacesThatAre 0 = .ok (.iconst 0, 1) := by decide +kernel
theorem d_X2_lacesThatAre_1 : decode cX2_lacesThatAre 1 = .ok (.istore_n 2, 1) := by decide +kernel
theorem d_X2_lacesThatAre_2 : decode cX2_lacesThatAre 2 = .ok (.iconst 0, 1) := by decide +kernel
theorem d_X2_lacesThatAre_3 : decode cX2_lacesThatAre 3 = .ok (.istore_n 3, 1) := by decide +kernel
theorem d_X2_lacesThatAre_4 : decode cX2_lacesThatAre 4 = .ok (.iload_n 3, 1) := by decide +kernel
theorem d_X2_lacesThatAre_5 : decode cX2_lacesThatAre 5 = .ok (.iconst 2, 1) := by decide +kernel
theorem d_X2_lacesThatAre_6 : decode cX2_lacesThatAre 6 = .ok (.aload_n 0, 1) := by decide +kernel
theorem d_X2_lacesThatAre_7 : decode cX2_lacesThatAre 7 = .ok (.getfield 9, 3) := by decide +kernel
theorem d_X2_lacesThatAre_10 : decode cX2_lacesThatAre 10 = .ok (.imul, 1) := by decide +kernel
theorem d_X2_lacesThatAre_11 : decode cX2_lacesThatAre 11 = .ok (.if_icmp .ge 25, 3) := by decide +kernel
theorem d_X2_lacesThatAre_14 : decode cX2_lacesThatAre 14 = .ok (.aload_n 0, 1) := by decide +kernel
theorem d_X2_lacesThatAre_15 : decode cX2_lacesThatAre 15 = .ok (.getfield 46, 3) := by decide +kernel
theorem d_X2_lacesThatAre_18 : decode cX2_lacesThatAre 18 = .ok (.iload_n 3, 1) := by decide +kernel
theorem d_X2_lacesThatAre_19 : decode cX2_lacesThatAre 19 = .ok (.iaload, 1) := by decide +kernel
theorem d_X2_lacesThatAre_20 : decode cX2_lacesThatAre 20 = .ok (.iload_n 1, 1) := by decide +kernel
theorem d_X2_lacesThatAre_21 : decode cX2_lacesThatAre 21 = .ok (.if_icmp .ne 9, 3) := by decide +kernel
theorem d_X2_lacesThatAre_24 : decode cX2_lacesThatAre 24 = .ok (.iload_n 2, 1) := by decide +kernel
theorem d_X2_lacesThatAre_25 : decode cX2_lacesThatAre 25 = .ok (.iconst 1, 1) := by decide +kernel
theorem d_X2_lacesThatAre_26 : decode cX2_lacesThatAre 26 = .ok (.iload_n 3, 1) := by decide +kernel
theorem d_X2_lacesThatAre_27 : decode cX2_lacesThatAre 27 = .ok (.ishl, 1) := by decide +kernel
theorem d_X2_lacesThatAre_28 : decode cX2_lacesThatAre 28 = .ok (.ior, 1) := by decide +kernel
theorem d_X2_lacesThatAre_29 : decode cX2_lacesThatAre 29 = .ok (.istore_n 2, 1) := by decide +kernel
theorem d_X2_lacesThatAre_30 : decode cX2_lacesThatAre 30 = .ok (.iinc 3 1, 3) := by decide +kernel
theorem d_X2_lacesThatAre_33 : decode cX2_lacesThatAre 33 = .ok (.goto (-29), 3) := by decide +kernel
theorem d_X2_lacesThatAre_36 : decode cX2_lacesThatAre 36 = .ok (.iload_n 2, 1) := by decide +kernel
theorem d_X2_lacesThatAre_37 : decode cX2_lacesThatAre 37 = .ok (.ireturn, 1) := by decide +kernel
theorem s_X2_lacesThatAre_b4 {G : Gl} (hG : G.1.stackTraces = false) {C : Cx} {n : Nat} {μ : Mem} {a0 : Nat} {l1 : Int32} {l2 : Int32} {l3 : Int32} (ha0 : a0 ∈ landL) {y : ((Int32 × Int32) ⊕ Int32)} (hf : f_X2_lacesThatAre_b4 μ a0 l1 l2 l3 = some y) (hK : (∀ z', y = .inl z' → ∀ n, V G C F_X2_lacesThatAre 4 [some (.ref (G.2.1 + a0)), some (.int l1), some (.int z'.1), some (.int z'.2)] [] (pic G μ) n 0 0) ∧ (∀ x', y = .inr x' → ∀ n, V G C F_X2_lacesThatAre 36 [none, none, some (.int x'), none] [] (pic G μ) n 0 0)) : V G C F_X2_lacesThatAre 4 [some (.ref (G.2.1 + a0)), some (.int l1), some (.int l2), some (.int l3)] [] (pic G μ) n 0 0 := by
  unfold f_X2_lacesThatAre_b4 at hf
  refine V_iload_n d_X2_lacesThatAre_4 rfl rfl ?_
  refine V_iconst (v := 2) d_X2_lacesThatAre_5 ic_2 ?_
  refine V_aload_n d_X2_lacesThatAre_6 rfl rfl ?_
  refine B_get (kLand _ ha0) fl_RX2_9 d_X2_lacesThatAre_7 g_2_0 ?_
  refine V_imul d_X2_lacesThatAre_10 ?_
  refine V_icmp_ge (tgt := 36) d_X2_lacesThatAre_11 (by decide) (fun c11 => ?_) (fun c11 => ?_)
  · replace hf := iteT c11 hf
    refine V_less (ls' := [none, none, some _, none]) ⟨rfl, trivial⟩ ?_
    cases hf
    exact hK.2 _ rfl _
  · replace hf := iteF c11 hf
    refine V_aload_n d_X2_lacesThatAre_14 rfl rfl ?_
    refine B_get (kLand _ ha0) fl_RX2_46 d_X2_lacesThatAre_15 g_2_11 ?_
    refine V_iload_n d_X2_lacesThatAre_18 rfl rfl ?_
    obtain ⟨t1, ht1, hf⟩ := ob hf
    refine B_iald (kLand_6 _ ha0) ht1 d_X2_lacesThatAre_19 ?_
    refine V_iload_n d_X2_lacesThatAre_20 rfl rfl ?_
    have hJj2 : ∀ j2 : Int32, j2 = (if t1 = l1 then ((l2 ||| (1 <<< (l3 &&& 31))) : Int32) else l2) → V G C F_X2_lacesThatAre 30 [some (.ref (G.2.1 + a0)), some (.int l1), some (.int j2), some (.int l3)] [] (pic G μ) n 0 0 := by
      intro j2 ej2
      subst ej2
      refine V_iinc (v := (l3 + 1)) (ls' := [_, _, _, _]) d_X2_lacesThatAre_30 rfl (by rw [ic_1]) rfl ?_
      refine V_goto (tgt := 4) d_X2_lacesThatAre_33 (by decide) ?_
      refine V_less (ls' := [some _, some _, some _, some _]) ⟨rfl, rfl, rfl, rfl, trivial⟩ ?_
      cases hf
      exact hK.1 _ rfl _
    refine V_icmp_ne (tgt := 30) d_X2_lacesThatAre_21 (by decide) (fun c21 => ?_) (fun c21 => ?_)
    · refine V_less (ls' := [some _, some _, some _, some _]) ⟨rfl, rfl, rfl, rfl, trivial⟩ ?_
      exact hJj2 l2 (by rw [if_neg c21])
    · refine V_iload_n d_X2_lacesThatAre_24 rfl rfl ?_
      refine V_iconst (v := 1) d_X2_lacesThatAre_25 ic_1 ?_
      refine V_iload_n d_X2_lacesThatAre_26 rfl rfl ?_
      refine V_ishl d_X2_lacesThatAre_27 ?_
      refine V_ior d_X2_lacesThatAre_28 ?_
      refine V_istore_n (ls' := [_, _, _, _]) d_X2_lacesThatAre_29 rfl rfl rfl ?_
      refine V_less (ls' := [some _, some _, some _, some _]) ⟨rfl, rfl, rfl, rfl, trivial⟩ ?_
      exact hJj2 (l2 ||| (1 <<< (l3 &&& 31))) (by rw [if_pos c21])
theorem s_X2_lacesThatAre_j36 {G : Gl} (hG : G.1.stackTraces = false) {C : Cx} {n : Nat} {μ : Mem} {a0 : Nat} {l2 : Int32} (ha0 : a0 ∈ landL) {r : Int32} (hf : f_X2_lacesThatAre_j36 μ a0 l2 = some r) (hK : FinR G C F_X2_lacesThatAre (some .int) (some (.int r)) μ) : V G C F_X2_lacesThatAre 36 [none, none, some (.int l2), none] [] (pic G μ) n 0 0 := by
  unfold f_X2_lacesThatAre_j36 at hf
  refine V_iload_n d_X2_lacesThatAre_36 rfl rfl ?_
  cases hf
  exact R_i hK d_X2_lacesThatAre_37 (Nat.le_of_ble_eq_true rfl) (Nat.le_of_ble_eq_true rfl)
theorem s_X2_lacesThatAre_l4 {G : Gl} (hG : G.1.stackTraces = false) {C : Cx} {n : Nat} {μ : Mem} {a0 : Nat} {l1 : Int32} {l2 : Int32} {l3 : Int32} (ha0 : a0 ∈ landL) {r : Int32} (hf : f_X2_lacesThatAre_l4 μ a0 l1 l2 l3 = some r) (hK : FinR G C F_X2_lacesThatAre (some .int) (some (.int r)) μ) : V G C F_X2_lacesThatAre 4 [some (.ref (G.2.1 + a0)), some (.int l1), some (.int l2), some (.int l3)] [] (pic G μ) n 0 0 := by
  unfold f_X2_lacesThatAre_l4 at hf
  obtain ⟨t, hl, hf⟩ := ob hf
  refine loopV (P := fun z => ∀ n, V G C F_X2_lacesThatAre 4 [some (.ref (G.2.1 + a0)), some (.int l1), some (.int z.1), some (.int z.2)] [] (pic G μ) n 0 0) (t := t) ?_ _ _ hl n
  intro z y' hy hI hT n
  refine s_X2_lacesThatAre_b4 hG ha0 hy ⟨hI, fun x9 ex => ?_⟩
  have ex2 := hT x9 ex
  subst ex2
  intro n
  exact s_X2_lacesThatAre_j36 hG ha0 hf hK
theorem s_X2_lacesThatAre_e {G : Gl} (hG : G.1.stackTraces = false) {C : Cx} {n : Nat} {μ : Mem} {a0 : Nat} {p1 : Int32} (ha0 : a0 ∈ landL) {r : Int32} (hf : f_X2_lacesThatAre μ a0 p1 = some r) (hK : FinR G C F_X2_lacesThatAre (some .int) (some (.int r)) μ) : V G C F_X2_lacesThatAre 0 [some (.ref (G.2.1 + a0)), some (.int p1), none, none] [] (pic G μ) n 0 0 := by
  unfold f_X2_lacesThatAre at hf
  refine V_iconst (v := 0) d_X2_lacesThatAre_0 ic_0 ?_
  refine V_istore_n (ls' := [_, _, _, _]) d_X2_lacesThatAre_1 rfl rfl rfl ?_
  refine V_iconst (v := 0) d_X2_lacesThatAre_2 ic_0 ?_
  refine V_istore_n (ls' := [_, _, _, _]) d_X2_lacesThatAre_3 rfl rfl rfl ?_
  refine V_less (ls' := [some _, some _, some _, some _]) ⟨rfl, rfl, rfl, rfl, trivial⟩ ?_
  exact s_X2_lacesThatAre_l4 hG ha0 hf hK
theorem s_X2_lacesThatAre {G : Gl} (hG : G.1.stackTraces = false) {μ : Mem} {a0 : Nat} {p1 : Int32} (ha0 : a0 ∈ landL) {r : Int32} (hf : f_X2_lacesThatAre μ a0 p1 = some r) : Rt G yX2_lacesThatAre F_X2_lacesThatAre (some .int) [.ref (G.2.1 + a0), .int p1] μ (some (.int r)) μ := fun n => Sd.of hG ⟨by decide +kernel, rfl, rfl⟩ rfl (Nat.le_of_ble_eq_true rfl) rfl (fun C hK => s_X2_lacesThatAre_e hG ha0 hf hK)
theorem d_X11_lacesOf_0 : decode cX11_lacesOf 0 = .ok (.iconst 3, 1) := by decide +kernel
theorem d_X11_lacesOf_1 : decode cX11_lacesOf 1 = .ok (.iconst 2, 1) := by decide +kernel
theorem d_X11_lacesOf_2 : decode cX11_lacesOf 2 = .ok (.iload_n 0, 1) := by decide +kernel
theorem d_X11_lacesOf_3 : decode cX11_lacesOf 3 = .ok (.imul, 1) := by decide +kernel
theorem d_X11_lacesOf_4 : decode cX11_lacesOf 4 = .ok (.ishl, 1) := by decide +kernel
theorem d_X11_lacesOf_5 : decode cX11_lacesOf 5 = .ok (.ireturn, 1) := by decide +kernel
theorem s_X11_lacesOf_e {G : Gl} (hG : G.1.stackTraces = false) {C : Cx} {n : Nat} {μ : Mem} {p0 : Int32} {r : Int32} (hf : f_X11_lacesOf μ p0 = some r) (hK : FinR G C F_X11_lacesOf (some .int) (some (.int r)) μ) : V G C F_X11_lacesOf 0 [some (.int p0)] [] (pic G μ) n 0 0 := by
  unfold f_X11_lacesOf at hf
  refine V_iconst (v := 3) d_X11_lacesOf_0 ic_3 ?_
  refine V_iconst (v := 2) d_X11_lacesOf_1 ic_2 ?_
  refine V_iload_n d_X11_lacesOf_2 rfl rfl ?_
  refine V_imul d_X11_lacesOf_3 ?_
  refine V_ishl d_X11_lacesOf_4 ?_
  cases hf
  exact R_i hK d_X11_lacesOf_5 (Nat.le_of_ble_eq_true rfl) (Nat.le_of_ble_eq_true rfl)
theorem s_X11_lacesOf {G : Gl} (hG : G.1.stackTraces = false) {μ : Mem} {p0 : Int32} {r : Int32} (hf : f_X11_lacesOf μ p0 = some r) : Rt G yX11_lacesOf F_X11_lacesOf (some .int) [.int p0] μ (some (.int r)) μ := fun n => Sd.of hG ⟨by decide +kernel, rfl, rfl⟩ rfl (Nat.le_of_ble_eq_true rfl) rfl (fun C hK => s_X11_lacesOf_e hG hf hK)
theorem d_X11_hasBit_0 : decode cX11_hasBit 0 = .ok (.iload_n 0, 1) := by decide +kernel
theorem d_X11_hasBit_1 : decode cX11_hasBit 1 = .ok (.iload_n 1, 1) := by decide +kernel
theorem d_X11_hasBit_2 : decode cX11_hasBit 2 = .ok (.ishr, 1) := by decide +kernel
theorem d_X11_hasBit_3 : decode cX11_hasBit 3 = .ok (.iconst 1, 1) := by decide +kernel
theorem d_X11_hasBit_4 : decode cX11_hasBit 4 = .ok (.iand, 1) := by decide +kernel
theorem d_X11_hasBit_5 : decode cX11_hasBit 5 = .ok (.ifCond .eq 7, 3) := by decide +kernel
theorem d_X11_hasBit_8 : decode cX11_hasBit 8 = .ok (.iconst 1, 1) := by decide +kernel
theorem d_X11_hasBit_9 : decode cX11_hasBit 9 = .ok (.goto 4, 3) := by decide +kernel
theorem d_X11_hasBit_12 : decode cX11_hasBit 12 = .ok (.iconst 0, 1) := by decide +kernel
theorem d_X11_hasBit_13 : decode cX11_hasBit 13 = .ok (.ireturn, 1) := by decide +kernel
theorem s_X11_hasBit_e {G : Gl} (hG : G.1.stackTraces = false) {C : Cx} {n : Nat} {μ : Mem} {p0 : Int32} {p1 : Int32} {r : Bool} (hf : f_X11_hasBit μ p0 p1 = some r) (hK : FinR G C F_X11_hasBit (some .boolean) (some (.int (b2i r))) μ) : V G C F_X11_hasBit 0 [some (.int p0), some (.int p1)] [] (pic G μ) n 0 0 := by
  unfold f_X11_hasBit at hf
  refine V_iload_n d_X11_hasBit_0 rfl rfl ?_
  refine V_iload_n d_X11_hasBit_1 rfl rfl ?_
  refine V_ishr d_X11_hasBit_2 ?_
  refine V_iconst (v := 1) d_X11_hasBit_3 ic_1 ?_
  refine V_iand d_X11_hasBit_4 ?_
  have hJj1 : ∀ j1 : Bool, j1 = (if ((p0 >>> (p1 &&& 31)) &&& 1) = 0 then (false : Bool) else true) → V G C F_X11_hasBit 13 [none, none] [.int (b2i j1)] (pic G μ) n 0 0 := by
    intro j1 ej1
    subst ej1
    cases hf
    exact R_z hK d_X11_hasBit_13 (Nat.le_of_ble_eq_true rfl) (Nat.le_of_ble_eq_true rfl)
  refine V_if_eq (tgt := 12) d_X11_hasBit_5 (by decide) (fun c5 => ?_) (fun c5 => ?_)
  · refine V_iconst (v := 0) d_X11_hasBit_12 ic_0 ?_
    refine V_less (ls' := [none, none]) trivial ?_
    exact hJj1 false (by rw [if_pos c5])
  · refine V_iconst (v := 1) d_X11_hasBit_8 ic_1 ?_
    refine V_goto (tgt := 13) d_X11_hasBit_9 (by decide) ?_
    refine V_less (ls' := [none, none]) trivial ?_
    exact hJj1 true (by rw [if_neg c5])
theorem s_X11_hasBit {G : Gl} (hG : G.1.stackTraces = false) {μ : Mem} {p0 : Int32} {p1 : Int32} {r : Bool} (hf : f_X11_hasBit μ p0 p1 = some r) : Rt G yX11_hasBit F_X11_hasBit (some .boolean) [.int p0, .int p1] μ (some (.int (b2i r))) μ := fun n => Sd.of hG ⟨by decide +kernel, rfl, rfl⟩ rfl (Nat.le_of_ble_eq_true rfl) rfl (fun C hK => s_X11_hasBit_e hG hf hK)
theorem d_X2_amountOf_0 : decode cX2_amountOf 0 = .ok (.iconst 0, 1) := by decide +kernel
theorem d_X2_amountOf_1 : decode cX2_amountOf 1 = .ok (.istore_n 2, 1) := by decide +kernel
theorem d_X2_amountOf_2 : decode cX2_amountOf 2 = .ok (.iconst 0, 1) := by decide +kernel
theorem d_X2_amountOf_3 : decode cX2_amountOf 3 = .ok (.istore_n 3, 1) := by decide +kernel
theorem d_X2_amountOf_4 : decode cX2_amountOf 4 = .ok (.iload_n 3, 1) := by decide +kernel
theorem d_X2_amountOf_5 : decode cX2_amountOf 5 = .ok (.iconst 2, 1) := by decide +kernel
theorem d_X2_amountOf_6 : decode cX2_amountOf 6 = .ok (.aload_n 0, 1) := by decide +kernel
theorem d_X2_amountOf_7 : decode cX2_amountOf 7 = .ok (.getfield 9, 3) := by decide +kernel
theorem d_X2_amountOf_10 : decode cX2_amountOf 10 = .ok (.imul, 1) := by decide +kernel
theorem d_X2_amountOf_11 : decode cX2_amountOf 11 = .ok (.if_icmp .ge 26, 3) := by decide +kernel
theorem d_X2_amountOf_14 : decode cX2_amountOf 14 = .ok (.iload_n 1, 1) := by decide +kernel
theorem d_X2_amountOf_15 : decode cX2_amountOf 15 = .ok (.iload_n 3, 1) := by decide +kernel
theorem d_X2_amountOf_16 : decode cX2_amountOf 16 = .ok (.invokestatic 155, 3) := by decide +kernel
theorem d_X2_amountOf_19 : decode cX2_amountOf 19 = .ok (.ifCond .eq 12, 3) := by decide +kernel
theorem d_X2_amountOf_22 : decode cX2_amountOf 22 = .ok (.iload_n 2, 1) := by decide +kernel
theorem d_X2_amountOf_23 : decode cX2_amountOf 23 = .ok (.aload_n 0, 1) := by decide +kernel
theorem d_X2_amountOf_24 : decode cX2_amountOf 24 = .ok (.getfield 52, 3) := by decide +kernel
theorem d_X2_amountOf_27 : decode cX2_amountOf 27 = .ok (.iload_n 3, 1) := by decide +kernel
theorem d_X2_amountOf_28 : decode cX2_amountOf 28 = .ok (.iaload, 1) := by decide +kernel
theorem d_X2_amountOf_29 : decode cX2_amountOf 29 = .ok (.iadd, 1) := by decide +kernel
theorem d_X2_amountOf_30 : decode cX2_amountOf 30 = .ok (.istore_n 2, 1) := by decide +kernel
theorem d_X2_amountOf_31 : decode cX2_amountOf 31 = .ok (.iinc 3 1, 3) := by decide +kernel
theorem d_X2_amountOf_34 : decode cX2_amountOf 34 = .ok (.goto (-30), 3) := by decide +kernel
theorem d_X2_amountOf_37 : decode cX2_amountOf 37 = .ok (.iload_n 2, 1) := by decide +kernel
theorem d_X2_amountOf_38 : decode cX2_amountOf 38 = .ok (.ireturn, 1) := by decide +kernel
theorem s_X2_amountOf_j31_4 {G : Gl} (hG : G.1.stackTraces = false) {C : Cx} {n : Nat} {μ : Mem} {a0 : Nat} {l1 : Int32} {l2 : Int32} {l3 : Int32} (ha0 : a0 ∈ landL) {y : ((Int32 × Int32) ⊕ Int32)} (hf : f_X2_amountOf_j31_4 μ a0 l1 l2 l3 = some y) (hK : (∀ z', y = .inl z' → ∀ n, V G C F_X2_amountOf 4 [some (.ref (G.2.1 + a0)), some (.int l1), some (.int z'.1), some (.int z'.2)] [] (pic G μ) n 0 0) ∧ (∀ x', y = .inr x' → ∀ n, V G C F_X2_amountOf 37 [none, none, some (.int x'), none] [] (pic G μ) n 0 0)) : V G C F_X2_amountOf 31 [some (.ref (G.2.1 + a0)), some (.int l1), some (.int l2), some (.int l3)] [] (pic G μ) n 0 0 := by
  unfold f_X2_amountOf_j31_4 at hf
  refine V_iinc (v := (l3 + 1)) (ls' := [_, _, _, _]) d_X2_amountOf_31 rfl (by rw [ic_1]) rfl ?_
  refine V_goto (tgt := 4) d_X2_amountOf_34 (by decide) ?_
  refine V_less (ls' := [some _, some _, some _, some _]) ⟨rfl, rfl, rfl, rfl, trivial⟩ ?_
  cases hf
  exact hK.1 _ rfl _
theorem s_X2_amountOf_b4 {G : Gl} (hG : G.1.stackTraces = false) {C : Cx} {n : Nat} {μ : Mem} {a0 : Nat} {l1 : Int32} {l2 : Int32} {l3 : Int32} (ha0 : a0 ∈ landL) {y : ((Int32 × Int32) ⊕ Int32)} (hf : f_X2_amountOf_b4 μ a0 l1 l2 l3 = some y) (hK : (∀ z', y = .inl z' → ∀ n, V G C F_X2_amountOf 4 [some (.ref (G.2.1 + a0)), some (.int l1), some (.int z'.1), some (.int z'.2)] [] (pic G μ) n 0 0) ∧ (∀ x', y = .inr x' → ∀ n, V G C F_X2_amountOf 37 [none, none, some (.int x'), none] [] (pic G μ) n 0 0)) : V G C F_X2_amountOf 4 [some (.ref (G.2.1 + a0)), some (.int l1), some (.int l2), some (.int l3)] [] (pic G μ) n 0 0 := by
  unfold f_X2_amountOf_b4 at hf
  refine V_iload_n d_X2_amountOf_4 rfl rfl ?_
  refine V_iconst (v := 2) d_X2_amountOf_5 ic_2 ?_
  refine V_aload_n d_X2_amountOf_6 rfl rfl ?_
  refine B_get (kLand _ ha0) fl_RX2_9 d_X2_amountOf_7 g_2_0 ?_
  refine V_imul d_X2_amountOf_10 ?_
  refine V_icmp_ge (tgt := 37) d_X2_amountOf_11 (by decide) (fun c11 => ?_) (fun c11 => ?_)
  · replace hf := iteT c11 hf
    refine V_less (ls' := [none, none, some _, none]) ⟨rfl, trivial⟩ ?_
    cases hf
    exact hK.2 _ rfl _
  · replace hf := iteF c11 hf
    refine V_iload_n d_X2_amountOf_14 rfl rfl ?_
    refine V_iload_n d_X2_amountOf_15 rfl rfl ?_
    obtain ⟨t1, ht1, hf⟩ := ob hf
    refine B_callSN1 (s_X11_hasBit hG ht1) m_X11_hasBit ks_RX2_155 d_X2_amountOf_16 rfl (Nat.le_of_ble_eq_true rfl) ⟨rfl, rfl, Nat.le_of_ble_eq_true rfl, Nat.le_of_ble_eq_true rfl, Nat.le_of_ble_eq_true rfl⟩ (fun n => ?_)
    refine V_if_eq (tgt := 31) d_X2_amountOf_19 (by decide) (fun c19 => ?_) (fun c19 => ?_)
    · replace hf := iteF (b2i_nt (b2i_eq0 c19)) hf
      refine V_less (ls' := [some _, some _, some _, some _]) ⟨rfl, rfl, rfl, rfl, trivial⟩ ?_
      exact s_X2_amountOf_j31_4 hG ha0 hf hK
    · replace hf := iteT (b2i_ne0 c19) hf
      refine V_iload_n d_X2_amountOf_22 rfl rfl ?_
      refine V_aload_n d_X2_amountOf_23 rfl rfl ?_
      refine B_get (kLand _ ha0) fl_RX2_52 d_X2_amountOf_24 g_2_13 ?_
      refine V_iload_n d_X2_amountOf_27 rfl rfl ?_
      obtain ⟨t2, ht2, hf⟩ := ob hf
      refine B_iald (kLand_8 _ ha0) ht2 d_X2_amountOf_28 ?_
      refine V_iadd d_X2_amountOf_29 ?_
      refine V_istore_n (ls' := [_, _, _, _]) d_X2_amountOf_30 rfl rfl rfl ?_
      refine V_less (ls' := [some _, some _, some _, some _]) ⟨rfl, rfl, rfl, rfl, trivial⟩ ?_
      exact s_X2_amountOf_j31_4 hG ha0 hf hK
theorem s_X2_amountOf_j37 {G : Gl} (hG : G.1.stackTraces = false) {C : Cx} {n : Nat} {μ : Mem} {a0 : Nat} {l2 : Int32} (ha0 : a0 ∈ landL) {r : Int32} (hf : f_X2_amountOf_j37 μ a0 l2 = some r) (hK : FinR G C F_X2_amountOf (some .int) (some (.int r)) μ) : V G C F_X2_amountOf 37 [none, none, some (.int l2), none] [] (pic G μ) n 0 0 := by
  unfold f_X2_amountOf_j37 at hf
  refine V_iload_n d_X2_amountOf_37 rfl rfl ?_
  cases hf
  exact R_i hK d_X2_amountOf_38 (Nat.le_of_ble_eq_true rfl) (Nat.le_of_ble_eq_true rfl)
theorem s_X2_amountOf_l4 {G : Gl} (hG : G.1.stackTraces = false) {C : Cx} {n : Nat} {μ : Mem} {a0 : Nat} {l1 : Int32} {l2 : Int32} {l3 : Int32} (ha0 : a0 ∈ landL) {r : Int32} (hf : f_X2_amountOf_l4 μ a0 l1 l2 l3 = some r) (hK : FinR G C F_X2_amountOf (some .int) (some (.int r)) μ) : V G C F_X2_amountOf 4 [some (.ref (G.2.1 + a0)), some (.int l1), some (.int l2), some (.int l3)] [] (pic G μ) n 0 0 := by
  unfold f_X2_amountOf_l4 at hf
  obtain ⟨t, hl, hf⟩ := ob hf
  refine loopV (P := fun z => ∀ n, V G C F_X2_amountOf 4 [some (.ref (G.2.1 + a0)), some (.int l1), some (.int z.1), some (.int z.2)] [] (pic G μ) n 0 0) (t := t) ?_ _ _ hl n
  intro z y' hy hI hT n
  refine s_X2_amountOf_b4 hG ha0 hy ⟨hI, fun x9 ex => ?_⟩
  have ex2 := hT x9 ex
  subst ex2
  intro n
  exact s_X2_amountOf_j37 hG ha0 hf hK
theorem s_X2_amountOf_e {G : Gl} (hG : G.1.stackTraces = false) {C : Cx} {n : Nat} {μ : Mem} {a0 : Nat} {p1 : Int32} (ha0 : a0 ∈ landL) {r : Int32} (hf : f_X2_amountOf μ a0 p1 = some r) (hK : FinR G C F_X2_amountOf (some .int) (some (.int r)) μ) : V G C F_X2_amountOf 0 [some (.ref (G.2.1 + a0)), some (.int p1), none, none] [] (pic G μ) n 0 0 := by
  unfold f_X2_amountOf at hf
  refine V_iconst (v := 0) d_X2_amountOf_0 ic_0 ?_
  refine V_istore_n (ls' := [_, _, _, _]) d_X2_amountOf_1 rfl rfl rfl ?_
  refine V_iconst (v := 0) d_X2_amountOf_2 ic_0 ?_
  refine V_istore_n (ls' := [_, _, _, _]) d_X2_amountOf_3 rfl rfl rfl ?_
  refine V_less (ls' := [some _, some _, some _, some _]) ⟨rfl, rfl, rfl, rfl, trivial⟩ ?_
  exact s_X2_amountOf_l4 hG ha0 hf hK
theorem s_X2_amountOf {G : Gl} (hG : G.1.stackTraces = false) {μ : Mem} {a0 : Nat} {p1 : Int32} (ha0 : a0 ∈ landL) {r : Int32} (hf : f_X2_amountOf μ a0 p1 = some r) : Rt G yX2_amountOf F_X2_amountOf (some .int) [.ref (G.2.1 + a0), .int p1] μ (some (.int r)) μ := fun n => Sd.of hG ⟨by decide +kernel, rfl, rfl⟩ rfl (Nat.le_of_ble_eq_true rfl) rfl (fun C hK => s_X2_amountOf_e hG ha0 hf hK)
theorem d_X2_owedBy_0 : decode cX2_owedBy 0 = .ok (.aload_n 0, 1) := by decide +kernel
theorem d_X2_owedBy_1 : decode cX2_owedBy 1 = .ok (.iload_n 1, 1) := by decide +kernel
theorem d_X2_owedBy_2 : decode cX2_owedBy 2 = .ok (.invokestatic 146, 3) := by decide +kernel
theorem d_X2_owedBy_5 : decode cX2_owedBy 5 = .ok (.invokevirtual 149, 3) := by decide +kernel
theorem d_X2_owedBy_8 : decode cX2_owedBy 8 = .ok (.ireturn, 1) := by decide +kernel
theorem s_X2_owedBy_e {G : Gl} (hG : G.1.stackTraces = false) {C : Cx} {n : Nat} {μ : Mem} {a0 : Nat} {p1 : Int32} (ha0 : a0 ∈ landL) {r : Int32} (hf : f_X2_owedBy μ a0 p1 = some r) (hK : FinR G C F_X2_owedBy (some .int) (some (.int r)) μ) : V G C F_X2_owedBy 0 [some (.ref (G.2.1 + a0)), some (.int p1)] [] (pic G μ) n 0 0 := by
  unfold f_X2_owedBy at hf
  refine V_aload_n d_X2_owedBy_0 rfl rfl ?_
  refine V_iload_n d_X2_owedBy_1 rfl rfl ?_
  obtain ⟨t1, ht1, hf⟩ := ob hf
  refine B_callSN1 (s_X11_lacesOf hG ht1) m_X11_lacesOf ks_RX2_146 d_X2_owedBy_2 rfl (Nat.le_of_ble_eq_true rfl) ⟨rfl, rfl, Nat.le_of_ble_eq_true rfl, Nat.le_of_ble_eq_true rfl, Nat.le_of_ble_eq_true rfl⟩ (fun n => ?_)
  obtain ⟨t2, ht2, hf⟩ := ob hf
  refine B_callV1 (s_X2_amountOf hG ha0 ht2) (kLand _ ha0) clX2 m_X2_amountOf kv_RX2_149 d_X2_owedBy_5 rfl (Nat.le_of_ble_eq_true rfl) ⟨rfl, rfl, Nat.le_of_ble_eq_true rfl, Nat.le_of_ble_eq_true rfl, Nat.le_of_ble_eq_true rfl⟩ (fun n => ?_)
  cases hf
  exact R_i hK d_X2_owedBy_8 (Nat.le_of_ble_eq_true rfl) (Nat.le_of_ble_eq_true rfl)
theorem s_X2_owedBy {G : Gl} (hG : G.1.stackTraces = false) {μ : Mem} {a0 : Nat} {p1 : Int32} (ha0 : a0 ∈ landL) {r : Int32} (hf : f_X2_owedBy μ a0 p1 = some r) : Rt G yX2_owedBy F_X2_owedBy (some .int) [.ref (G.2.1 + a0), .int p1] μ (some (.int r)) μ := fun n => Sd.of hG ⟨by decide +kernel, rfl, rfl⟩ rfl (Nat.le_of_ble_eq_true rfl) rfl (fun C hK => s_X2_owedBy_e hG ha0 hf hK)
theorem d_X2_dueTo_0 : decode cX2_dueTo 0 = .ok (.aload_n 0, 1) := by decide +kernel
theorem d_X2_dueTo_1 : decode cX2_dueTo 1 = .ok (.aload_n 0, 1) := by decide +kernel
theorem d_X2_dueTo_2 : decode cX2_dueTo 2 = .ok (.iload_n 1, 1) := by decide +kernel
theorem d_X2_dueTo_3 : decode cX2_dueTo 3 = .ok (.invokevirtual 152, 3) := by decide +kernel
theorem d_X2_dueTo_6 : decode cX2_dueTo 6 = .ok (.invokevirtual 149, 3) := by decide +kernel
theorem d_X2_dueTo_9 : decode cX2_dueTo 9 = .ok (.ireturn, 1) := by decide +kernel
theorem s_X2_dueTo_e {G : Gl} (hG : G.1.stackTraces = false) {C : Cx} {n : Nat} {μ : Mem} {a0 : Nat} {p1 : Int32} (ha0 : a0 ∈ landL) {r : Int32} (hf : f_X2_dueTo μ a0 p1 = some r) (hK : FinR G C F_X2_dueTo (some .int) (some (.int r)) μ) : V G C F_X2_dueTo 0 [some (.ref (G.2.1 + a0)), some (.int p1)] [] (pic G μ) n 0 0 := by
  unfold f_X2_dueTo at hf
  refine V_aload_n d_X2_dueTo_0 rfl rfl ?_
  refine V_aload_n d_X2_dueTo_1 rfl rfl ?_
  refine V_iload_n d_X2_dueTo_2 rfl rfl ?_
  obtain ⟨t1, ht1, hf⟩ := ob hf
  refine B_callV1 (s_X2_heldBy hG ha0 ht1) (kLand _ ha0) clX2 m_X2_heldBy kv_RX2_152 d_X2_dueTo_3 rfl (Nat.le_of_ble_eq_true rfl) ⟨rfl, rfl, Nat.le_of_ble_eq_true rfl, Nat.le_of_ble_eq_true rfl, Nat.le_of_ble_eq_true rfl⟩ (fun n => ?_)
  obtain ⟨t2, ht2, hf⟩ := ob hf
  refine B_callV1 (s_X2_amountOf hG ha0 ht2) (kLand _ ha0) clX2 m_X2_amountOf kv_RX2_149 d_X2_dueTo_6 rfl (Nat.le_of_ble_eq_true rfl) ⟨rfl, rfl, Nat.le_of_ble_eq_true rfl, Nat.le_of_ble_eq_true rfl, Nat.le_of_ble_eq_true rfl⟩ (fun n => ?_)
  cases hf
  exact R_i hK d_X2_dueTo_9 (Nat.le_of_ble_eq_true rfl) (Nat.le_of_ble_eq_true rfl)
theorem s_X2_dueTo {G : Gl} (hG : G.1.stackTraces = false) {μ : Mem} {a0 : Nat} {p1 : Int32} (ha0 : a0 ∈ landL) {r : Int32} (hf : f_X2_dueTo μ a0 p1 = some r) : Rt G yX2_dueTo F_X2_dueTo (some .int) [.ref (G.2.1 + a0), .int p1] μ (some (.int r)) μ := fun n => Sd.of hG ⟨by decide +kernel, rfl, rfl⟩ rfl (Nat.le_of_ble_eq_true rfl) rfl (fun C hK => s_X2_dueTo_e hG ha0 hf hK)
theorem d_X2_allPurses_0 : decode cX2_allPurses 0 = .ok (.iconst 0, 1) := by decide +kernel
theorem d_X2_allPurses_1 : decode cX2_allPurses 1 = .ok (.istore_n 1, 1) := by decide +kernel
theorem d_X2_allPurses_2 : decode cX2_allPurses 2 = .ok (.iconst 0, 1) := by decide +kernel
theorem d_X2_allPurses_3 : decode cX2_allPurses 3 = .ok (.istore_n 2, 1) := by decide +kernel
theorem d_X2_allPurses_4 : decode cX2_allPurses 4 = .ok (.iload_n 2, 1) := by decide +kernel
theorem d_X2_allPurses_5 : decode cX2_allPurses 5 = .ok (.aload_n 0, 1) := by decide +kernel
theorem d_X2_allPurses_6 : decode cX2_allPurses 6 = .ok (.getfield 9, 3) := by decide +kernel
theorem d_X2_allPurses_9 : decode cX2_allPurses 9 = .ok (.if_icmp .ge 18, 3) := by decide +kernel
theorem d_X2_allPurses_12 : decode cX2_allPurses 12 = .ok (.iload_n 1, 1) := by decide +kernel
theorem d_X2_allPurses_13 : decode cX2_allPurses 13 = .ok (.aload_n 0, 1) := by decide +kernel
theorem d_X2_allPurses_14 : decode cX2_allPurses 14 = .ok (.getfield 30, 3) := by decide +kernel
theorem d_X2_allPurses_17 : decode cX2_allPurses 17 = .ok (.iload_n 2, 1) := by decide +kernel
theorem d_X2_allPurses_18 : decode cX2_allPurses 18 = .ok (.iaload, 1) := by decide +kernel
theorem d_X2_allPurses_19 : decode cX2_allPurses 19 = .ok (.iadd, 1) := by decide +kernel
theorem d_X2_allPurses_20 : decode cX2_allPurses 20 = .ok (.istore_n 1, 1) := by decide +kernel
theorem d_X2_allPurses_21 : decode cX2_allPurses 21 = .ok (.iinc 2 1, 3) := by decide +kernel
theorem d_X2_allPurses_24 : decode cX2_allPurses 24 = .ok (.goto (-20), 3) := by decide +kernel
theorem d_X2_allPurses_27 : decode cX2_allPurses 27 = .ok (.iload_n 1, 1) := by decide +kernel
theorem d_X2_allPurses_28 : decode cX2_allPurses 28 = .ok (.ireturn, 1) := by decide +kernel
theorem s_X2_allPurses_b4 {G : Gl} (hG : G.1.stackTraces = false) {C : Cx} {n : Nat} {μ : Mem} {a0 : Nat} {l1 : Int32} {l2 : Int32} (ha0 : a0 ∈ landL) {y : ((Int32 × Int32) ⊕ Int32)} (hf : f_X2_allPurses_b4 μ a0 l1 l2 = some y) (hK : (∀ z', y = .inl z' → ∀ n, V G C F_X2_allPurses 4 [some (.ref (G.2.1 + a0)), some (.int z'.1), some (.int z'.2)] [] (pic G μ) n 0 0) ∧ (∀ x', y = .inr x' → ∀ n, V G C F_X2_allPurses 27 [none, some (.int x'), none] [] (pic G μ) n 0 0)) : V G C F_X2_allPurses 4 [some (.ref (G.2.1 + a0)), some (.int l1), some (.int l2)] [] (pic G μ) n 0 0 := by
  unfold f_X2_allPurses_b4 at hf
  refine V_iload_n d_X2_allPurses_4 rfl rfl ?_
  refine V_aload_n d_X2_allPurses_5 rfl rfl ?_
  refine B_get (kLand _ ha0) fl_RX2_9 d_X2_allPurses_6 g_2_0 ?_
  refine V_icmp_ge (tgt := 27) d_X2_allPurses_9 (by decide) (fun c9 => ?_) (fun c9 => ?_)
  · replace hf := iteT c9 hf
    refine V_less (ls' := [none, some _, none]) ⟨rfl, trivial⟩ ?_
    cases hf
    exact hK.2 _ rfl _
  · replace hf := iteF c9 hf
    refine V_iload_n d_X2_allPurses_12 rfl rfl ?_
    refine V_aload_n d_X2_allPurses_13 rfl rfl ?_
    refine B_get (kLand _ ha0) fl_RX2_30 d_X2_allPurses_14 g_2_6 ?_
    refine V_iload_n d_X2_allPurses_17 rfl rfl ?_
    obtain ⟨t1, ht1, hf⟩ := ob hf
    refine B_iald (kLand_1 _ ha0) ht1 d_X2_allPurses_18 ?_
    refine V_iadd d_X2_allPurses_19 ?_
    refine V_istore_n (ls' := [_, _, _]) d_X2_allPurses_20 rfl rfl rfl ?_
    refine V_iinc (v := (l2 + 1)) (ls' := [_, _, _]) d_X2_allPurses_21 rfl (by rw [ic_1]) rfl ?_
    refine V_goto (tgt := 4) d_X2_allPurses_24 (by decide) ?_
    refine V_less (ls' := [some _, some _, some _]) ⟨rfl, rfl, rfl, trivial⟩ ?_
    cases hf
    exact hK.1 _ rfl _
theorem s_X2_allPurses_j27 {G : Gl} (hG : G.1.stackTraces = false) {C : Cx} {n : Nat} {μ : Mem} {a0 : Nat} {l1 : Int32} (ha0 : a0 ∈ landL) {r : Int32} (hf : f_X2_allPurses_j27 μ a0 l1 = some r) (hK : FinR G C F_X2_allPurses (some .int) (some (.int r)) μ) : V G C F_X2_allPurses 27 [none, some (.int l1), none] [] (pic G μ) n 0 0 := by
  unfold f_X2_allPurses_j27 at hf
  refine V_iload_n d_X2_allPurses_27 rfl rfl ?_
  cases hf
  exact R_i hK d_X2_allPurses_28 (Nat.le_of_ble_eq_true rfl) (Nat.le_of_ble_eq_true rfl)
theorem s_X2_allPurses_l4 {G : Gl} (hG : G.1.stackTraces = false) {C : Cx} {n : Nat} {μ : Mem} {a0 : Nat} {l1 : Int32} {l2 : Int32} (ha0 : a0 ∈ landL) {r : Int32} (hf : f_X2_allPurses_l4 μ a0 l1 l2 = some r) (hK : FinR G C F_X2_allPurses (some .int) (some (.int r)) μ) : V G C F_X2_allPurses 4 [some (.ref (G.2.1 + a0)), some (.int l1), some (.int l2)] [] (pic G μ) n 0 0 := by
  unfold f_X2_allPurses_l4 at hf
  obtain ⟨t, hl, hf⟩ := ob hf
  refine loopV (P := fun z => ∀ n, V G C F_X2_allPurses 4 [some (.ref (G.2.1 + a0)), some (.int z.1), some (.int z.2)] [] (pic G μ) n 0 0) (t := t) ?_ _ _ hl n
  intro z y' hy hI hT n
  refine s_X2_allPurses_b4 hG ha0 hy ⟨hI, fun x9 ex => ?_⟩
  have ex2 := hT x9 ex
  subst ex2
  intro n
  exact s_X2_allPurses_j27 hG ha0 hf hK
theorem s_X2_allPurses_e {G : Gl} (hG : G.1.stackTraces = false) {C : Cx} {n : Nat} {μ : Mem} {a0 : Nat} (ha0 : a0 ∈ landL) {r : Int32} (hf : f_X2_allPurses μ a0 = some r) (hK : FinR G C F_X2_allPurses (some .int) (some (.int r)) μ) : V G C F_X2_allPurses 0 [some (.ref (G.2.1 + a0)), none, none] [] (pic G μ) n 0 0 := by
  unfold f_X2_allPurses at hf
  refine V_iconst (v := 0) d_X2_allPurses_0 ic_0 ?_
  refine V_istore_n (ls' := [_, _, _]) d_X2_allPurses_1 rfl rfl rfl ?_
  refine V_iconst (v := 0) d_X2_allPurses_2 ic_0 ?_
  refine V_istore_n (ls' := [_, _, _]) d_X2_allPurses_3 rfl rfl rfl ?_
  refine V_less (ls' := [some _, some _, some _]) ⟨rfl, rfl, rfl, trivial⟩ ?_
  exact s_X2_allPurses_l4 hG ha0 hf hK
theorem s_X2_allPurses {G : Gl} (hG : G.1.stackTraces = false) {μ : Mem} {a0 : Nat} (ha0 : a0 ∈ landL) {r : Int32} (hf : f_X2_allPurses μ a0 = some r) : Rt G yX2_allPurses F_X2_allPurses (some .int) [.ref (G.2.1 + a0)] μ (some (.int r)) μ := fun n => Sd.of hG ⟨by decide +kernel, rfl, rfl⟩ rfl (Nat.le_of_ble_eq_true rfl) rfl (fun C hK => s_X2_allPurses_e hG ha0 hf hK)
theorem d_X2_shareOf_0 : decode cX2_shareOf 0 = .ok (.aload_n 0, 1) := by decide +kernel
theorem d_X2_shareOf_1 : decode cX2_shareOf 1 = .ok (.iconst 2, 1) := by decide +kernel
theorem d_X2_shareOf_2 : decode cX2_shareOf 2 = .ok (.invokevirtual 159, 3) := by decide +kernel
theorem d_X2_shareOf_5 : decode cX2_shareOf 5 = .ok (.istore_n 2, 1) := by decide +kernel
theorem d_X2_shareOf_6 : decode cX2_shareOf 6 = .ok (.iload_n 2, 1) := by decide +kernel
theorem d_X2_shareOf_7 : decode cX2_shareOf 7 = .ok (.invokestatic 141, 3) := by decide +kernel
theorem d_X2_shareOf_10 : decode cX2_shareOf 10 = .ok (.istore_n 3, 1) := by decide +kernel
theorem d_X2_shareOf_11 : decode cX2_shareOf 11 = .ok (.iload_n 3, 1) := by decide +kernel
theorem d_X2_shareOf_12 : decode cX2_shareOf 12 = .ok (.ifCond .ne 7, 3) := by decide +kernel
theorem d_X2_shareOf_15 : decode cX2_shareOf 15 = .ok (.iconst 0, 1) := by decide +kernel
theorem d_X2_shareOf_16 : decode cX2_shareOf 16 = .ok (.goto 18, 3) := by decide +kernel
theorem d_X2_shareOf_19 : decode cX2_shareOf 19 = .ok (.bipush 100, 2) := by decide +kernel
theorem d_X2_shareOf_21 : decode cX2_shareOf 21 = .ok (.iload_n 2, 1) := by decide +kernel
theorem d_X2_shareOf_22 : decode cX2_shareOf 22 = .ok (.aload_n 0, 1) := by decide +kernel
theorem d_X2_shareOf_23 : decode cX2_shareOf 23 = .ok (.iload_n 1, 1) := by decide +kernel
theorem d_X2_shareOf_24 : decode cX2_shareOf 24 = .ok (.invokevirtual 152, 3) := by decide +kernel
theorem d_X2_shareOf_27 : decode cX2_shareOf 27 = .ok (.iand, 1) := by decide +kernel
theorem d_X2_shareOf_28 : decode cX2_shareOf 28 = .ok (.invokestatic 141, 3) := by decide +kernel
theorem d_X2_shareOf_31 : decode cX2_shareOf 31 = .ok (.imul, 1) := by decide +kernel
theorem d_X2_shareOf_32 : decode cX2_shareOf 32 = .ok (.iload_n 3, 1) := by decide +kernel
theorem d_X2_shareOf_33 : decode cX2_shareOf 33 = .ok (.idiv, 1) := by decide +kernel
theorem d_X2_shareOf_34 : decode cX2_shareOf 34 = .ok (.ireturn, 1) := by decide +kernel
theorem s_X2_shareOf_j34 {G : Gl} (hG : G.1.stackTraces = false) {C : Cx} {n : Nat} {μ : Mem} {a0 : Nat} {k0 : Int32} (ha0 : a0 ∈ landL) {r : Int32} (hf : f_X2_shareOf_j34 μ a0 k0 = some r) (hK : FinR G C F_X2_shareOf (some .int) (some (.int r)) μ) : V G C F_X2_shareOf 34 [none, none, none, none] [.int k0] (pic G μ) n 0 0 := by
  unfold f_X2_shareOf_j34 at hf
  cases hf
  exact R_i hK d_X2_shareOf_34 (Nat.le_of_ble_eq_true rfl) (Nat.le_of_ble_eq_true rfl)
theorem s_X2_shareOf_e {G : Gl} (hG : G.1.stackTraces = false) {C : Cx} {n : Nat} {μ : Mem} {a0 : Nat} {p1 : Int32} (ha0 : a0 ∈ landL) {r : Int32} (hf : f_X2_shareOf μ a0 p1 = some r) (hK : FinR G C F_X2_shareOf (some .int) (some (.int r)) μ) : V G C F_X2_shareOf 0 [some (.ref (G.2.1 + a0)), some (.int p1), none, none] [] (pic G μ) n 0 0 := by
  unfold f_X2_shareOf at hf
  refine V_aload_n d_X2_shareOf_0 rfl rfl ?_
  refine V_iconst (v := 2) d_X2_shareOf_1 ic_2 ?_
  obtain ⟨t1, ht1, hf⟩ := ob hf
  refine B_callV1 (s_X2_lacesThatAre hG ha0 ht1) (kLand _ ha0) clX2 m_X2_lacesThatAre kv_RX2_159 d_X2_shareOf_2 rfl (Nat.le_of_ble_eq_true rfl) ⟨rfl, rfl, Nat.le_of_ble_eq_true rfl, Nat.le_of_ble_eq_true rfl, Nat.le_of_ble_eq_true rfl⟩ (fun n => ?_)
  refine V_istore_n (ls' := [_, _, _, _]) d_X2_shareOf_5 rfl rfl rfl ?_
  refine V_iload_n d_X2_shareOf_6 rfl rfl ?_
  obtain ⟨t2, ht2, hf⟩ := ob hf
  refine B_callS1 (s_J6_bitCount_0f7a4 hG ht2) m_J6_bitCount_0f7a4 ks_RX2_141 d_X2_shareOf_7 rfl (Nat.le_of_ble_eq_true rfl) ⟨rfl, rfl, Nat.le_of_ble_eq_true rfl, Nat.le_of_ble_eq_true rfl, Nat.le_of_ble_eq_true rfl⟩ (fun n => ?_)
  refine V_istore_n (ls' := [_, _, _, _]) d_X2_shareOf_10 rfl rfl rfl ?_
  refine V_iload_n d_X2_shareOf_11 rfl rfl ?_
  refine V_if_ne (tgt := 19) d_X2_shareOf_12 (by decide) (fun c12 => ?_) (fun c12 => ?_)
  · replace hf := iteF c12 hf
    refine V_bipush (v := 100) d_X2_shareOf_19 bp_100 ?_
    refine V_iload_n d_X2_shareOf_21 rfl rfl ?_
    refine V_aload_n d_X2_shareOf_22 rfl rfl ?_
    refine V_iload_n d_X2_shareOf_23 rfl rfl ?_
    obtain ⟨t3, ht3, hf⟩ := ob hf
    refine B_callV1 (s_X2_heldBy hG ha0 ht3) (kLand _ ha0) clX2 m_X2_heldBy kv_RX2_152 d_X2_shareOf_24 rfl (Nat.le_of_ble_eq_true rfl) ⟨rfl, rfl, Nat.le_of_ble_eq_true rfl, Nat.le_of_ble_eq_true rfl, Nat.le_of_ble_eq_true rfl⟩ (fun n => ?_)
    refine V_iand d_X2_shareOf_27 ?_
    obtain ⟨t4, ht4, hf⟩ := ob hf
    refine B_callS1 (s_J6_bitCount_0f7a4 hG ht4) m_J6_bitCount_0f7a4 ks_RX2_141 d_X2_shareOf_28 rfl (Nat.le_of_ble_eq_true rfl) ⟨rfl, rfl, Nat.le_of_ble_eq_true rfl, Nat.le_of_ble_eq_true rfl, Nat.le_of_ble_eq_true rfl⟩ (fun n => ?_)
    refine V_imul d_X2_shareOf_31 ?_
    refine V_iload_n d_X2_shareOf_32 rfl rfl ?_
    obtain ⟨t5, ht5, hf⟩ := ob hf
    obtain ⟨gt5, ht5⟩ := dv_some ht5
    refine V_idiv d_X2_shareOf_33 gt5 ?_
    rw [ht5]
    refine V_less (ls' := [none, none, none, none]) trivial ?_
    exact s_X2_shareOf_j34 hG ha0 hf hK
  · replace hf := iteT c12 hf
    refine V_iconst (v := 0) d_X2_shareOf_15 ic_0 ?_
    refine V_goto (tgt := 34) d_X2_shareOf_16 (by decide) ?_
    refine V_less (ls' := [none, none, none, none]) trivial ?_
    exact s_X2_shareOf_j34 hG ha0 hf hK
theorem s_X2_shareOf {G : Gl} (hG : G.1.stackTraces = false) {μ : Mem} {a0 : Nat} {p1 : Int32} (ha0 : a0 ∈ landL) {r : Int32} (hf : f_X2_shareOf μ a0 p1 = some r) : Rt G yX2_shareOf F_X2_shareOf (some .int) [.ref (G.2.1 + a0), .int p1] μ (some (.int r)) μ := fun n => Sd.of hG ⟨by decide +kernel, rfl, rfl⟩ rfl (Nat.le_of_ble_eq_true rfl) rfl (fun C hK => s_X2_shareOf_e hG ha0 hf hK)
theorem d_X2_hangingOn_0 : decode cX2_hangingOn 0 = .ok (.iconst 0, 1) := by decide +kernel
theorem d_X2_hangingOn_1 : decode cX2_hangingOn 1 = .ok (.istore_n 2, 1) := by decide +kernel
theorem d_X2_hangingOn_2 : decode cX2_hangingOn 2 = .ok (.iconst 0, 1) := by decide +kernel
theorem d_X2_hangingOn_3 : decode cX2_hangingOn 3 = .ok (.istore_n 3, 1) := by decide +kernel
theorem d_X2_hangingOn_4 : decode cX2_hangingOn 4 = .ok (.iload_n 3, 1) := by decide +kernel
theorem d_X2_hangingOn_5 : decode cX2_hangingOn 5 = .ok (.iconst 2, 1) := by decide +kernel
theorem d_X2_hangingOn_6 : decode cX2_hangingOn 6 = .ok (.aload_n 0, 1) := by decide +kernel
theorem d_X2_hangingOn_7 : decode cX2_hangingOn 7 = .ok (.getfield 9, 3) := by decide +kernel
theorem d_X2_hangingOn_10 : decode cX2_hangingOn 10 = .ok (.imul, 1) := by decide +kernel
theorem d_X2_hangingOn_11 : decode cX2_hangingOn 11 = .ok (.if_icmp .ge 25, 3) := by decide +kernel
theorem d_X2_hangingOn_14 : decode cX2_hangingOn 14 = .ok (.aload_n 0, 1) := by decide +kernel
theorem d_X2_hangingOn_15 : decode cX2_hangingOn 15 = .ok (.getfield 61, 3) := by decide +kernel
theorem d_X2_hangingOn_18 : decode cX2_hangingOn 18 = .ok (.iload_n 3, 1) := by decide +kernel
theorem d_X2_hangingOn_19 : decode cX2_hangingOn 19 = .ok (.iaload, 1) := by decide +kernel
theorem d_X2_hangingOn_20 : decode cX2_hangingOn 20 = .ok (.iload_n 1, 1) := by decide +kernel
theorem d_X2_hangingOn_21 : decode cX2_hangingOn 21 = .ok (.if_icmp .ne 9, 3) := by decide +kernel
theorem d_X2_hangingOn_24 : decode cX2_hangingOn 24 = .ok (.iload_n 2, 1) := by decide +kernel
theorem d_X2_hangingOn_25 : decode cX2_hangingOn 25 = .ok (.iconst 1, 1) := by decide +kernel
theorem d_X2_hangingOn_26 : decode cX2_hangingOn 26 = .ok (.iload_n 3, 1) := by decide +kernel
theorem d_X2_hangingOn_27 : decode cX2_hangingOn 27 = .ok (.ishl, 1) := by decide +kernel
theorem d_X2_hangingOn_28 : decode cX2_hangingOn 28 = .ok (.ior, 1) := by decide +kernel
theorem d_X2_hangingOn_29 : decode cX2_hangingOn 29 = .ok (.istore_n 2, 1) := by decide +kernel
theorem d_X2_hangingOn_30 : decode cX2_hangingOn 30 = .ok (.iinc 3 1, 3) := by decide +kernel
theorem d_X2_hangingOn_33 : decode cX2_hangingOn 33 = .ok (.goto (-29), 3) := by decide +kernel
theorem d_X2_hangingOn_36 : decode cX2_hangingOn 36 = .ok (.iload_n 2, 1) := by decide +kernel
theorem d_X2_hangingOn_37 : decode cX2_hangingOn 37 = .ok (.ireturn, 1) := by decide +kernel
theorem s_X2_hangingOn_b4 {G : Gl} (hG : G.1.stackTraces = false) {C : Cx} {n : Nat} {μ : Mem} {a0 : Nat} {l1 : Int32} {l2 : Int32} {l3 : Int32} (ha0 : a0 ∈ landL) {y : ((Int32 × Int32) ⊕ Int32)} (hf : f_X2_hangingOn_b4 μ a0 l1 l2 l3 = some y) (hK : (∀ z', y = .inl z' → ∀ n, V G C F_X2_hangingOn 4 [some (.ref (G.2.1 + a0)), some (.int l1), some (.int z'.1), some (.int z'.2)] [] (pic G μ) n 0 0) ∧ (∀ x', y = .inr x' → ∀ n, V G C F_X2_hangingOn 36 [none, none, some (.int x'), none] [] (pic G μ) n 0 0)) : V G C F_X2_hangingOn 4 [some (.ref (G.2.1 + a0)), some (.int l1), some (.int l2), some (.int l3)] [] (pic G μ) n 0 0 := by
  unfold f_X2_hangingOn_b4 at hf
  refine V_iload_n d_X2_hangingOn_4 rfl rfl ?_
  refine V_iconst (v := 2) d_X2_hangingOn_5 ic_2 ?_
  refine V_aload_n d_X2_hangingOn_6 rfl rfl ?_
  refine B_get (kLand _ ha0) fl_RX2_9 d_X2_hangingOn_7 g_2_0 ?_
  refine V_imul d_X2_hangingOn_10 ?_
  refine V_icmp_ge (tgt := 36) d_X2_hangingOn_11 (by decide) (fun c11 => ?_) (fun c11 => ?_)
  · replace hf := iteT c11 hf
    refine V_less (ls' := [none, none, some _, none]) ⟨rfl, trivial⟩ ?_
    cases hf
    exact hK.2 _ rfl _
  · replace hf := iteF c11 hf
    refine V_aload_n d_X2_hangingOn_14 rfl rfl ?_
    refine B_get (kLand _ ha0) fl_RX2_61 d_X2_hangingOn_15 g_2_16 ?_
    refine V_iload_n d_X2_hangingOn_18 rfl rfl ?_
    obtain ⟨t1, ht1, hf⟩ := ob hf
    refine B_iald (kLand_11 _ ha0) ht1 d_X2_hangingOn_19 ?_
    refine V_iload_n d_X2_hangingOn_20 rfl rfl ?_
    have hJj2 : ∀ j2 : Int32, j2 = (if t1 = l1 then ((l2 ||| (1 <<< (l3 &&& 31))) : Int32) else l2) → V G C F_X2_hangingOn 30 [some (.ref (G.2.1 + a0)), some (.int l1), some (.int j2), some (.int l3)] [] (pic G μ) n 0 0 := by
      intro j2 ej2
      subst ej2
      refine V_iinc (v := (l3 + 1)) (ls' := [_, _, _, _]) d_X2_hangingOn_30 rfl (by rw [ic_1]) rfl ?_
      refine V_goto (tgt := 4) d_X2_hangingOn_33 (by decide) ?_
      refine V_less (ls' := [some _, some _, some _, some _]) ⟨rfl, rfl, rfl, rfl, trivial⟩ ?_
      cases hf
      exact hK.1 _ rfl _
    refine V_icmp_ne (tgt := 30) d_X2_hangingOn_21 (by decide) (fun c21 => ?_) (fun c21 => ?_)
    · refine V_less (ls' := [some _, some _, some _, some _]) ⟨rfl, rfl, rfl, rfl, trivial⟩ ?_
      exact hJj2 l2 (by rw [if_neg c21])
    · refine V_iload_n d_X2_hangingOn_24 rfl rfl ?_
      refine V_iconst (v := 1) d_X2_hangingOn_25 ic_1 ?_
      refine V_iload_n d_X2_hangingOn_26 rfl rfl ?_
      refine V_ishl d_X2_hangingOn_27 ?_
      refine V_ior d_X2_hangingOn_28 ?_
      refine V_istore_n (ls' := [_, _, _, _]) d_X2_hangingOn_29 rfl rfl rfl ?_
      refine V_less (ls' := [some _, some _, some _, some _]) ⟨rfl, rfl, rfl, rfl, trivial⟩ ?_
      exact hJj2 (l2 ||| (1 <<< (l3 &&& 31))) (by rw [if_pos c21])
theorem s_X2_hangingOn_j36 {G : Gl} (hG : G.1.stackTraces = false) {C : Cx} {n : Nat} {μ : Mem} {a0 : Nat} {l2 : Int32} (ha0 : a0 ∈ landL) {r : Int32} (hf : f_X2_hangingOn_j36 μ a0 l2 = some r) (hK : FinR G C F_X2_hangingOn (some .int) (some (.int r)) μ) : V G C F_X2_hangingOn 36 [none, none, some (.int l2), none] [] (pic G μ) n 0 0 := by
  unfold f_X2_hangingOn_j36 at hf
  refine V_iload_n d_X2_hangingOn_36 rfl rfl ?_
  cases hf
  exact R_i hK d_X2_hangingOn_37 (Nat.le_of_ble_eq_true rfl) (Nat.le_of_ble_eq_true rfl)
theorem s_X2_hangingOn_l4 {G : Gl} (hG : G.1.stackTraces = false) {C : Cx} {n : Nat} {μ : Mem} {a0 : Nat} {l1 : Int32} {l2 : Int32} {l3 : Int32} (ha0 : a0 ∈ landL) {r : Int32} (hf : f_X2_hangingOn_l4 μ a0 l1 l2 l3 = some r) (hK : FinR G C F_X2_hangingOn (some .int) (some (.int r)) μ) : V G C F_X2_hangingOn 4 [some (.ref (G.2.1 + a0)), some (.int l1), some (.int l2), some (.int l3)] [] (pic G μ) n 0 0 := by
  unfold f_X2_hangingOn_l4 at hf
  obtain ⟨t, hl, hf⟩ := ob hf
  refine loopV (P := fun z => ∀ n, V G C F_X2_hangingOn 4 [some (.ref (G.2.1 + a0)), some (.int l1), some (.int z.1), some (.int z.2)] [] (pic G μ) n 0 0) (t := t) ?_ _ _ hl n
  intro z y' hy hI hT n
  refine s_X2_hangingOn_b4 hG ha0 hy ⟨hI, fun x9 ex => ?_⟩
  have ex2 := hT x9 ex
  subst ex2
  intro n
  exact s_X2_hangingOn_j36 hG ha0 hf hK
theorem s_X2_hangingOn_e {G : Gl} (hG : G.1.stackTraces = false) {C : Cx} {n : Nat} {μ : Mem} {a0 : Nat} {p1 : Int32} (ha0 : a0 ∈ landL) {r : Int32} (hf : f_X2_hangingOn μ a0 p1 = some r) (hK : FinR G C F_X2_hangingOn (some .int) (some (.int r)) μ) : V G C F_X2_hangingOn 0 [some (.ref (G.2.1 + a0)), some (.int p1), none, none] [] (pic G μ) n 0 0 := by
  unfold f_X2_hangingOn at hf
  refine V_iconst (v := 0) d_X2_hangingOn_0 ic_0 ?_
  refine V_istore_n (ls' := [_, _, _, _]) d_X2_hangingOn_1 rfl rfl rfl ?_
  refine V_iconst (v := 0) d_X2_hangingOn_2 ic_0 ?_
  refine V_istore_n (ls' := [_, _, _, _]) d_X2_hangingOn_3 rfl rfl rfl ?_
  refine V_less (ls' := [some _, some _, some _, some _]) ⟨rfl, rfl, rfl, rfl, trivial⟩ ?_
  exact s_X2_hangingOn_l4 hG ha0 hf hK
theorem s_X2_hangingOn {G : Gl} (hG : G.1.stackTraces = false) {μ : Mem} {a0 : Nat} {p1 : Int32} (ha0 : a0 ∈ landL) {r : Int32} (hf : f_X2_hangingOn μ a0 p1 = some r) : Rt G yX2_hangingOn F_X2_hangingOn (some .int) [.ref (G.2.1 + a0), .int p1] μ (some (.int r)) μ := fun n => Sd.of hG ⟨by decide +kernel, rfl, rfl⟩ rfl (Nat.le_of_ble_eq_true rfl) rfl (fun C hK => s_X2_hangingOn_e hG ha0 hf hK)
theorem d_X2_creditorOf_0 : decode cX2_creditorOf 0 = .ok (.aload_n 0, 1) := by decide +kernel
theorem d_X2_creditorOf_1 : decode cX2_creditorOf 1 = .ok (.iload_n 1, 1) := by decide +kernel
theorem d_X2_creditorOf_2 : decode cX2_creditorOf 2 = .ok (.invokevirtual 106, 3) := by decide +kernel
theorem d_X2_creditorOf_5 : decode cX2_creditorOf 5 = .ok (.ifCond .eq 14, 3) := by decide +kernel
theorem d_X2_creditorOf_8 : decode cX2_creditorOf 8 = .ok (.iconst 1, 1) := by decide +kernel
theorem d_X2_creditorOf_9 : decode cX2_creditorOf 9 = .ok (.aload_n 0, 1) := by decide +kernel
theorem d_X2_creditorOf_10 : decode cX2_creditorOf 10 = .ok (.getfield 49, 3) := by decide +kernel
theorem d_X2_creditorOf_13 : decode cX2_creditorOf 13 = .ok (.iload_n 1, 1) := by decide +kernel
theorem d_X2_creditorOf_14 : decode cX2_creditorOf 14 = .ok (.iaload, 1) := by decide +kernel
theorem d_X2_creditorOf_15 : decode cX2_creditorOf 15 = .ok (.ishl, 1) := by decide +kernel
theorem d_X2_creditorOf_16 : decode cX2_creditorOf 16 = .ok (.goto 4, 3) := by decide +kernel
theorem d_X2_creditorOf_19 : decode cX2_creditorOf 19 = .ok (.iconst 0, 1) := by decide +kernel
theorem d_X2_creditorOf_20 : decode cX2_creditorOf 20 = .ok (.ireturn, 1) := by decide +kernel
theorem s_X2_creditorOf_j20 {G : Gl} (hG : G.1.stackTraces = false) {C : Cx} {n : Nat} {μ : Mem} {a0 : Nat} {k0 : Int32} (ha0 : a0 ∈ landL) {r : Int32} (hf : f_X2_creditorOf_j20 μ a0 k0 = some r) (hK : FinR G C F_X2_creditorOf (some .int) (some (.int r)) μ) : V G C F_X2_creditorOf 20 [none, none] [.int k0] (pic G μ) n 0 0 := by
  unfold f_X2_creditorOf_j20 at hf
  cases hf
  exact R_i hK d_X2_creditorOf_20 (Nat.le_of_ble_eq_true rfl) (Nat.le_of_ble_eq_true rfl)
theorem s_X2_creditorOf_e {G : Gl} (hG : G.1.stackTraces = false) {C : Cx} {n : Nat} {μ : Mem} {a0 : Nat} {p1 : Int32} (ha0 : a0 ∈ landL) {r : Int32} (hf : f_X2_creditorOf μ a0 p1 = some r) (hK : FinR G C F_X2_creditorOf (some .int) (some (.int r)) μ) : V G C F_X2_creditorOf 0 [some (.ref (G.2.1 + a0)), some (.int p1)] [] (pic G μ) n 0 0 := by
  unfold f_X2_creditorOf at hf
  refine V_aload_n d_X2_creditorOf_0 rfl rfl ?_
  refine V_iload_n d_X2_creditorOf_1 rfl rfl ?_
  obtain ⟨t1, ht1, hf⟩ := ob hf
  refine B_callV1 (s_X2_isPledged hG ha0 ht1) (kLand _ ha0) clX2 m_X2_isPledged kv_RX2_106 d_X2_creditorOf_2 rfl (Nat.le_of_ble_eq_true rfl) ⟨rfl, rfl, Nat.le_of_ble_eq_true rfl, Nat.le_of_ble_eq_true rfl, Nat.le_of_ble_eq_true rfl⟩ (fun n => ?_)
  refine V_if_eq (tgt := 19) d_X2_creditorOf_5 (by decide) (fun c5 => ?_) (fun c5 => ?_)
  · replace hf := iteF (b2i_nt (b2i_eq0 c5)) hf
    refine V_iconst (v := 0) d_X2_creditorOf_19 ic_0 ?_
    refine V_less (ls' := [none, none]) trivial ?_
    exact s_X2_creditorOf_j20 hG ha0 hf hK
  · replace hf := iteT (b2i_ne0 c5) hf
    refine V_iconst (v := 1) d_X2_creditorOf_8 ic_1 ?_
    refine V_aload_n d_X2_creditorOf_9 rfl rfl ?_
    refine B_get (kLand _ ha0) fl_RX2_49 d_X2_creditorOf_10 g_2_12 ?_
    refine V_iload_n d_X2_creditorOf_13 rfl rfl ?_
    obtain ⟨t2, ht2, hf⟩ := ob hf
    refine B_iald (kLand_7 _ ha0) ht2 d_X2_creditorOf_14 ?_
    refine V_ishl d_X2_creditorOf_15 ?_
    refine V_goto (tgt := 20) d_X2_creditorOf_16 (by decide) ?_
    refine V_less (ls' := [none, none]) trivial ?_
    exact s_X2_creditorOf_j20 hG ha0 hf hK
theorem s_X2_creditorOf {G : Gl} (hG : G.1.stackTraces = false) {μ : Mem} {a0 : Nat} {p1 : Int32} (ha0 : a0 ∈ landL) {r : Int32} (hf : f_X2_creditorOf μ a0 p1 = some r) : Rt G yX2_creditorOf F_X2_creditorOf (some .int) [.ref (G.2.1 + a0), .int p1] μ (some (.int r)) μ := fun n => Sd.of hG ⟨by decide +kernel, rfl, rfl⟩ rfl (Nat.le_of_ble_eq_true rfl) rfl (fun C hK => s_X2_creditorOf_e hG ha0 hf hK)
theorem d_X2_directCreditorsOf_0 : decode cX2_directCreditorsOf 0 = .ok (.aload_n 0, 1) := by decide +kernel
theorem d_X2_directCreditorsOf_1 : decode cX2_directCreditorsOf 1 = .ok (.iconst 2, 1) := by decide +kernel
theorem d_X2_directCreditorsOf_2 : decode cX2_directCreditorsOf 2 = .ok (.iload_n 1, 1) := by decide +kernel
theorem d_X2_directCreditorsOf_3 : decode cX2_directCreditorsOf 3 = .ok (.imul, 1) := by decide +kernel
theorem d_X2_directCreditorsOf_4 : decode cX2_directCreditorsOf 4 = .ok (.invokevirtual 195, 3) := by decide +kernel
theorem d_X2_directCreditorsOf_7 : decode cX2_directCreditorsOf 7 = .ok (.aload_n 0, 1) := by decide +kernel
theorem d_X2_directCreditorsOf_8 : decode cX2_directCreditorsOf 8 = .ok (.iconst 2, 1) := by decide +kernel
theorem d_X2_directCreditorsOf_9 : decode cX2_directCreditorsOf 9 = .ok (.iload_n 1, 1) := by decide +kernel
theorem d_X2_directCreditorsOf_10 : decode cX2_directCreditorsOf 10 = .ok (.imul, 1) := by decide +kernel
theorem d_X2_directCreditorsOf_11 : decode cX2_directCreditorsOf 11 = .ok (.iconst 1, 1) := by decide +kernel
theorem d_X2_directCreditorsOf_12 : decode cX2_directCreditorsOf 12 = .ok (.iadd, 1) := by decide +kernel
theorem d_X2_directCreditorsOf_13 : decode cX2_directCreditorsOf 13 = .ok (.invokevirtual 195, 3) := by decide +kernel
theorem d_X2_directCreditorsOf_16 : decode cX2_directCreditorsOf 16 = .ok (.ior, 1) := by decide +kernel
theorem d_X2_directCreditorsOf_17 : decode cX2_directCreditorsOf 17 = .ok (.ireturn, 1) := by decide +kernel
theorem s_X2_directCreditorsOf_e {G : Gl} (hG : G.1.stackTraces = false) {C : Cx} {n : Nat} {μ : Mem} {a0 : Nat} {p1 : Int32} (ha0 : a0 ∈ landL) {r : Int32} (hf : f_X2_directCreditorsOf μ a0 p1 = some r) (hK : FinR G C F_X2_directCreditorsOf (some .int) (some (.int r)) μ) : V G C F_X2_directCreditorsOf 0 [some (.ref (G.2.1 + a0)), some (.int p1)] [] (pic G μ) n 0 0 := by
  unfold f_X2_directCreditorsOf at hf
  refine V_aload_n d_X2_directCreditorsOf_0 rfl rfl ?_
  refine V_iconst (v := 2) d_X2_directCreditorsOf_1 ic_2 ?_
  refine V_iload_n d_X2_directCreditorsOf_2 rfl rfl ?_
  refine V_imul d_X2_directCreditorsOf_3 ?_
  obtain ⟨t1, ht1, hf⟩ := ob hf
  refine B_callV1 (s_X2_creditorOf hG ha0 ht1) (kLand _ ha0) clX2 m_X2_creditorOf kv_RX2_195 d_X2_directCreditorsOf_4 rfl (Nat.le_of_ble_eq_true rfl) ⟨rfl, rfl, Nat.le_of_ble_eq_true rfl, Nat.le_of_ble_eq_true rfl, Nat.le_of_ble_eq_true rfl⟩ (fun n => ?_)
  refine V_aload_n d_X2_directCreditorsOf_7 rfl rfl ?_
  refine V_iconst (v := 2) d_X2_directCreditorsOf_8 ic_2 ?_
  refine V_iload_n d_X2_directCreditorsOf_9 rfl rfl ?_
  refine V_imul d_X2_directCreditorsOf_10 ?_
  refine V_iconst (v := 1) d_X2_directCreditorsOf_11 ic_1 ?_
  refine V_iadd d_X2_directCreditorsOf_12 ?_
  obtain ⟨t2, ht2, hf⟩ := ob hf
  refine B_callV1 (s_X2_creditorOf hG ha0 ht2) (kLand _ ha0) clX2 m_X2_creditorOf kv_RX2_195 d_X2_directCreditorsOf_13 rfl (Nat.le_of_ble_eq_true rfl) ⟨rfl, rfl, Nat.le_of_ble_eq_true rfl, Nat.le_of_ble_eq_true rfl, Nat.le_of_ble_eq_true rfl⟩ (fun n => ?_)
  refine V_ior d_X2_directCreditorsOf_16 ?_
  cases hf
  exact R_i hK d_X2_directCreditorsOf_17 (Nat.le_of_ble_eq_true rfl) (Nat.le_of_ble_eq_true rfl)
theorem s_X2_directCreditorsOf {G : Gl} (hG : G.1.stackTraces = false) {μ : Mem} {a0 : Nat} {p1 : Int32} (ha0 : a0 ∈ landL) {r : Int32} (hf : f_X2_directCreditorsOf μ a0 p1 = some r) : Rt G yX2_directCreditorsOf F_X2_directCreditorsOf (some .int) [.ref (G.2.1 + a0), .int p1] μ (some (.int r)) μ := fun n => Sd.of hG ⟨by decide +kernel, rfl, rfl⟩ rfl (Nat.le_of_ble_eq_true rfl) rfl (fun C hK => s_X2_directCreditorsOf_e hG ha0 hf hK)
theorem d_X2_creditorsOf_0 : decode cX2_creditorsOf 0 = .ok (.aload_n 0, 1) := by decide +kernel
theorem d_X2_creditorsOf_1 : decode cX2_creditorsOf 1 = .ok (.iload_n 1, 1) := by decide +kernel
theorem d_X2_creditorsOf_2 : decode cX2_creditorsOf 2 = .ok (.invokevirtual 162, 3) := by decide +kernel
theorem d_X2_creditorsOf_5 : decode cX2_creditorsOf 5 = .ok (.istore_n 2, 1) := by decide +kernel
theorem d_X2_creditorsOf_6 : decode cX2_creditorsOf 6 = .ok (.iconst 0, 1) := by decide +kernel
theorem d_X2_creditorsOf_7 : decode cX2_creditorsOf 7 = .ok (.istore_n 3, 1) := by decide +kernel
theorem d_X2_creditorsOf_8 : decode cX2_creditorsOf 8 = .ok (.iload_n 3, 1) := by decide +kernel
theorem d_X2_creditorsOf_9 : decode cX2_creditorsOf 9 = .ok (.aload_n 0, 1) := by decide +kernel
theorem d_X2_creditorsOf_10 : decode cX2_creditorsOf 10 = .ok (.getfield 9, 3) := by decide +kernel
theorem d_X2_creditorsOf_13 : decode cX2_creditorsOf 13 = .ok (.if_icmp .ge 45, 3) := by decide +kernel
theorem d_X2_creditorsOf_16 : decode cX2_creditorsOf 16 = .ok (.iconst 0, 1) := by decide +kernel
theorem d_X2_creditorsOf_17 : decode cX2_creditorsOf 17 = .ok (.istore 4, 2) := by decide +kernel
theorem d_X2_creditorsOf_19 : decode cX2_creditorsOf 19 = .ok (.iload 4, 2) := by decide +kernel
theorem d_X2_creditorsOf_21 : decode cX2_creditorsOf 21 = .ok (.aload_n 0, 1) := by decide +kernel
theorem d_X2_creditorsOf_22 : decode cX2_creditorsOf 22 = .ok (.getfield 9, 3) := by decide +kernel
theorem d_X2_creditorsOf_25 : decode cX2_creditorsOf 25 = .ok (.if_icmp .ge 27, 3) := by decide +kernel
theorem d_X2_creditorsOf_28 : decode cX2_creditorsOf 28 = .ok (.iload_n 2, 1) := by decide +kernel
theorem d_X2_creditorsOf_29 : decode cX2_creditorsOf 29 = .ok (.iload 4, 2) := by decide +kernel
theorem d_X2_creditorsOf_31 : decode cX2_creditorsOf 31 = .ok (.invokestatic 155, 3) := by decide +kernel
theorem d_X2_creditorsOf_34 : decode cX2_creditorsOf 34 = .ok (.ifCond .eq 12, 3) := by decide +kernel
theorem d_X2_creditorsOf_37 : decode cX2_creditorsOf 37 = .ok (.iload_n 2, 1) := by decide +kernel
theorem d_X2_creditorsOf_38 : decode cX2_creditorsOf 38 = .ok (.aload_n 0, 1) := by decide +kernel
theorem d_X2_creditorsOf_39 : decode cX2_creditorsOf 39 = .ok (.iload 4, 2) := by decide +kernel
theorem d_X2_creditorsOf_41 : decode cX2_creditorsOf 41 = .ok (.invokevirtual 162, 3) := by decide +kernel
theorem d_X2_creditorsOf_44 : decode cX2_creditorsOf 44 = .ok (.ior, 1) := by decide +kernel
theorem d_X2_creditorsOf_45 : decode cX2_creditorsOf 45 = .ok (.istore_n 2, 1) := by decide +kernel
theorem d_X2_creditorsOf_46 : decode cX2_creditorsOf 46 = .ok (.iinc 4 1, 3) := by decide +kernel
theorem d_X2_creditorsOf_49 : decode cX2_creditorsOf 49 = .ok (.goto (-30), 3) := by decide +kernel
theorem d_X2_creditorsOf_52 : decode cX2_creditorsOf 52 = .ok (.iinc 3 1, 3) := by decide +kernel
theorem d_X2_creditorsOf_55 : decode cX2_creditorsOf 55 = .ok (.goto (-47), 3) := by decide +kernel
theorem d_X2_creditorsOf_58 : decode cX2_creditorsOf 58 = .ok (.iload_n 2, 1) := by decide +kernel
theorem d_X2_creditorsOf_59 : decode cX2_creditorsOf 59 = .ok (.ireturn, 1) := by decide +kernel
theorem s_X2_creditorsOf_j46_19 {G : Gl} (hG : G.1.stackTraces = false) {C : Cx} {n : Nat} {μ : Mem} {a0 : Nat} {l2 : Int32} {l3 : Int32} {l4 : Int32} (ha0 : a0 ∈ landL) {y : ((Int32 × Int32) ⊕ Int32)} (hf : f_X2_creditorsOf_j46_19 μ a0 l2 l3 l4 = some y) (hK : (∀ z', y = .inl z' → ∀ n, V G C F_X2_creditorsOf 19 [some (.ref (G.2.1 + a0)), none, some (.int z'.1), some (.int l3), some (.int z'.2)] [] (pic G μ) n 0 0) ∧ (∀ x', y = .inr x' → ∀ n, V G C F_X2_creditorsOf 52 [some (.ref (G.2.1 + a0)), none, some (.int x'), some (.int l3), none] [] (pic G μ) n 0 0)) : V G C F_X2_creditorsOf 46 [some (.ref (G.2.1 + a0)), none, some (.int l2), some (.int l3), some (.int l4)] [] (pic G μ) n 0 0 := by
  unfold f_X2_creditorsOf_j46_19 at hf
  refine V_iinc (v := (l4 + 1)) (ls' := [_, _, _, _, _]) d_X2_creditorsOf_46 rfl (by rw [ic_1]) rfl ?_
  refine V_goto (tgt := 19) d_X2_creditorsOf_49 (by decide) ?_
  refine V_less (ls' := [some _, none, some _, some _, some _]) ⟨rfl, rfl, rfl, rfl, trivial⟩ ?_
  cases hf
  exact hK.1 _ rfl _
theorem s_X2_creditorsOf_b19 {G : Gl} (hG : G.1.stackTraces = false) {C : Cx} {n : Nat} {μ : Mem} {a0 : Nat} {l2 : Int32} {l3 : Int32} {l4 : Int32} (ha0 : a0 ∈ landL) {y : ((Int32 × Int32) ⊕ Int32)} (hf : f_X2_creditorsOf_b19 μ a0 l2 l3 l4 = some y) (hK : (∀ z', y = .inl z' → ∀ n, V G C F_X2_creditorsOf 19 [some (.ref (G.2.1 + a0)), none, some (.int z'.1), some (.int l3), some (.int z'.2)] [] (pic G μ) n 0 0) ∧ (∀ x', y = .inr x' → ∀ n, V G C F_X2_creditorsOf 52 [some (.ref (G.2.1 + a0)), none, some (.int x'), some (.int l3), none] [] (pic G μ) n 0 0)) : V G C F_X2_creditorsOf 19 [some (.ref (G.2.1 + a0)), none, some (.int l2), some (.int l3), some (.int l4)] [] (pic G μ) n 0 0 := by
  unfold f_X2_creditorsOf_b19 at hf
  refine V_iload d_X2_creditorsOf_19 rfl ?_
  refine V_aload_n d_X2_creditorsOf_21 rfl rfl ?_
  refine B_get (kLand _ ha0) fl_RX2_9 d_X2_creditorsOf_22 g_2_0 ?_
  refine V_icmp_ge (tgt := 52) d_X2_creditorsOf_25 (by decide) (fun c25 => ?_) (fun c25 => ?_)
  · replace hf := iteT c25 hf
    refine V_less (ls' := [some _, none, some _, some _, none]) ⟨rfl, rfl, rfl, trivial⟩ ?_
    cases hf
    exact hK.2 _ rfl _
  · replace hf := iteF c25 hf
    refine V_iload_n d_X2_creditorsOf_28 rfl rfl ?_
    refine V_iload d_X2_creditorsOf_29 rfl ?_
    obtain ⟨t1, ht1, hf⟩ := ob hf
    refine B_callSN1 (s_X11_hasBit hG ht1) m_X11_hasBit ks_RX2_155 d_X2_creditorsOf_31 rfl (Nat.le_of_ble_eq_true rfl) ⟨rfl, rfl, Nat.le_of_ble_eq_true rfl, Nat.le_of_ble_eq_true rfl, Nat.le_of_ble_eq_true rfl⟩ (fun n => ?_)
    refine V_if_eq (tgt := 46) d_X2_creditorsOf_34 (by decide) (fun c34 => ?_) (fun c34 => ?_)
    · replace hf := iteF (b2i_nt (b2i_eq0 c34)) hf
      refine V_less (ls' := [some _, none, some _, some _, some _]) ⟨rfl, rfl, rfl, rfl, trivial⟩ ?_
      exact s_X2_creditorsOf_j46_19 hG ha0 hf hK
    · replace hf := iteT (b2i_ne0 c34) hf
      refine V_iload_n d_X2_creditorsOf_37 rfl rfl ?_
      refine V_aload_n d_X2_creditorsOf_38 rfl rfl ?_
      refine V_iload d_X2_creditorsOf_39 rfl ?_
      obtain ⟨t2, ht2, hf⟩ := ob hf
      refine B_callV1 (s_X2_directCreditorsOf hG ha0 ht2) (kLand _ ha0) clX2 m_X2_directCreditorsOf kv_RX2_162 d_X2_creditorsOf_41 rfl (Nat.le_of_ble_eq_true rfl) ⟨rfl, rfl, Nat.le_of_ble_eq_true rfl, Nat.le_of_ble_eq_true rfl, Nat.le_of_ble_eq_true rfl⟩ (fun n => ?_)
      refine V_ior d_X2_creditorsOf_44 ?_
      refine V_istore_n (ls' := [_, _, _, _, _]) d_X2_creditorsOf_45 rfl rfl rfl ?_
      refine V_less (ls' := [some _, none, some _, some _, some _]) ⟨rfl, rfl, rfl, rfl, trivial⟩ ?_
      exact s_X2_creditorsOf_j46_19 hG ha0 hf hK
theorem s_X2_creditorsOf_j52_8 {G : Gl} (hG : G.1.stackTraces = false) {C : Cx} {n : Nat} {μ : Mem} {a0 : Nat} {l2 : Int32} {l3 : Int32} (ha0 : a0 ∈ landL) {y : ((Int32 × Int32) ⊕ Int32)} (hf : f_X2_creditorsOf_j52_8 μ a0 l2 l3 = some y) (hK : (∀ z', y = .inl z' → ∀ n, V G C F_X2_creditorsOf 8 [some (.ref (G.2.1 + a0)), none, some (.int z'.1), some (.int z'.2), none] [] (pic G μ) n 0 0) ∧ (∀ x', y = .inr x' → ∀ n, V G C F_X2_creditorsOf 58 [none, none, some (.int x'), none, none] [] (pic G μ) n 0 0)) : V G C F_X2_creditorsOf 52 [some (.ref (G.2.1 + a0)), none, some (.int l2), some (.int l3), none] [] (pic G μ) n 0 0 := by
  unfold f_X2_creditorsOf_j52_8 at hf
  refine V_iinc (v := (l3 + 1)) (ls' := [_, _, _, _, _]) d_X2_creditorsOf_52 rfl (by rw [ic_1]) rfl ?_
  refine V_goto (tgt := 8) d_X2_creditorsOf_55 (by decide) ?_
  refine V_less (ls' := [some _, none, some _, some _, none]) ⟨rfl, rfl, rfl, trivial⟩ ?_
  cases hf
  exact hK.1 _ rfl _
theorem s_X2_creditorsOf_l19 {G : Gl} (hG : G.1.stackTraces = false) {C : Cx} {n : Nat} {μ : Mem} {a0 : Nat} {l2 : Int32} {l3 : Int32} {l4 : Int32} (ha0 : a0 ∈ landL) {y : ((Int32 × Int32) ⊕ Int32)} (hf : f_X2_creditorsOf_l19 μ a0 l2 l3 l4 = some y) (hK : (∀ z', y = .inl z' → ∀ n, V G C F_X2_creditorsOf 8 [some (.ref (G.2.1 + a0)), none, some (.int z'.1), some (.int z'.2), none] [] (pic G μ) n 0 0) ∧ (∀ x', y = .inr x' → ∀ n, V G C F_X2_creditorsOf 58 [none, none, some (.int x'), none, none] [] (pic G μ) n 0 0)) : V G C F_X2_creditorsOf 19 [some (.ref (G.2.1 + a0)), none, some (.int l2), some (.int l3), some (.int l4)] [] (pic G μ) n 0 0 := by
  unfold f_X2_creditorsOf_l19 at hf
  obtain ⟨t, hl, hf⟩ := ob hf
  refine loopV (P := fun z => ∀ n, V G C F_X2_creditorsOf 19 [some (.ref (G.2.1 + a0)), none, some (.int z.1), some (.int l3), some (.int z.2)] [] (pic G μ) n 0 0) (t := t) ?_ _ _ hl n
  intro z y' hy hI hT n
  refine s_X2_creditorsOf_b19 hG ha0 hy ⟨hI, fun x9 ex => ?_⟩
  have ex2 := hT x9 ex
  subst ex2
  intro n
  exact s_X2_creditorsOf_j52_8 hG ha0 hf hK
theorem s_X2_creditorsOf_b8 {G : Gl} (hG : G.1.stackTraces = false) {C : Cx} {n : Nat} {μ : Mem} {a0 : Nat} {l2 : Int32} {l3 : Int32} (ha0 : a0 ∈ landL) {y : ((Int32 × Int32) ⊕ Int32)} (hf : f_X2_creditorsOf_b8 μ a0 l2 l3 = some y) (hK : (∀ z', y = .inl z' → ∀ n, V G C F_X2_creditorsOf 8 [some (.ref (G.2.1 + a0)), none, some (.int z'.1), some (.int z'.2), none] [] (pic G μ) n 0 0) ∧ (∀ x', y = .inr x' → ∀ n, V G C F_X2_creditorsOf 58 [none, none, some (.int x'), none, none] [] (pic G μ) n 0 0)) : V G C F_X2_creditorsOf 8 [some (.ref (G.2.1 + a0)), none, some (.int l2), some (.int l3), none] [] (pic G μ) n 0 0 := by
  unfold f_X2_creditorsOf_b8 at hf
  refine V_iload_n d_X2_creditorsOf_8 rfl rfl ?_
  refine V_aload_n d_X2_creditorsOf_9 rfl rfl ?_
  refine B_get (kLand _ ha0) fl_RX2_9 d_X2_creditorsOf_10 g_2_0 ?_
  refine V_icmp_ge (tgt := 58) d_X2_creditorsOf_13 (by decide) (fun c13 => ?_) (fun c13 => ?_)
  · replace hf := iteT c13 hf
    refine V_less (ls' := [none, none, some _, none, none]) ⟨rfl, trivial⟩ ?_
    cases hf
    exact hK.2 _ rfl _
  · replace hf := iteF c13 hf
    refine V_iconst (v := 0) d_X2_creditorsOf_16 ic_0 ?_
    refine V_istore (ls' := [_, _, _, _, _]) d_X2_creditorsOf_17 rfl rfl ?_
    refine V_less (ls' := [some _, none, some _, some _, some _]) ⟨rfl, rfl, rfl, rfl, trivial⟩ ?_
    exact s_X2_creditorsOf_l19 hG ha0 hf hK
theorem s_X2_creditorsOf_j58 {G : Gl} (hG : G.1.stackTraces = false) {C : Cx} {n : Nat} {μ : Mem} {a0 : Nat} {l2 : Int32} (ha0 : a0 ∈ landL) {r : Int32} (hf : f_X2_creditorsOf_j58 μ a0 l2 = some r) (hK : FinR G C F_X2_creditorsOf (some .int) (some (.int r)) μ) : V G C F_X2_creditorsOf 58 [none, none, some (.int l2), none, none] [] (pic G μ) n 0 0 := by
  unfold f_X2_creditorsOf_j58 at hf
  refine V_iload_n d_X2_creditorsOf_58 rfl rfl ?_
  cases hf
  exact R_i hK d_X2_creditorsOf_59 (Nat.le_of_ble_eq_true rfl) (Nat.le_of_ble_eq_true rfl)
theorem s_X2_creditorsOf_l8 {G : Gl} (hG : G.1.stackTraces = false) {C : Cx} {n : Nat} {μ : Mem} {a0 : Nat} {l2 : Int32} {l3 : Int32} (ha0 : a0 ∈ landL) {r : Int32} (hf : f_X2_creditorsOf_l8 μ a0 l2 l3 = some r) (hK : FinR G C F_X2_creditorsOf (some .int) (some (.int r)) μ) : V G C F_X2_creditorsOf 8 [some (.ref (G.2.1 + a0)), none, some (.int l2), some (.int l3), none] [] (pic G μ) n 0 0 := by
  unfold f_X2_creditorsOf_l8 at hf
  obtain ⟨t, hl, hf⟩ := ob hf
  refine loopV (P := fun z => ∀ n, V G C F_X2_creditorsOf 8 [some (.ref (G.2.1 + a0)), none, some (.int z.1), some (.int z.2), none] [] (pic G μ) n 0 0) (t := t) ?_ _ _ hl n
  intro z y' hy hI hT n
  refine s_X2_creditorsOf_b8 hG ha0 hy ⟨hI, fun x9 ex => ?_⟩
  have ex2 := hT x9 ex
  subst ex2
  intro n
  exact s_X2_creditorsOf_j58 hG ha0 hf hK
theorem s_X2_creditorsOf_e {G : Gl} (hG : G.1.stackTraces = false) {C : Cx} {n : Nat} {μ : Mem} {a0 : Nat} {p1 : Int32} (ha0 : a0 ∈ landL) {r : Int32} (hf : f_X2_creditorsOf μ a0 p1 = some r) (hK : FinR G C F_X2_creditorsOf (some .int) (some (.int r)) μ) : V G C F_X2_creditorsOf 0 [some (.ref (G.2.1 + a0)), some (.int p1), none, none, none] [] (pic G μ) n 0 0 := by
  unfold f_X2_creditorsOf at hf
  refine V_aload_n d_X2_creditorsOf_0 rfl rfl ?_
  refine V_iload_n d_X2_creditorsOf_1 rfl rfl ?_
  obtain ⟨t1, ht1, hf⟩ := ob hf
  refine B_callV1 (s_X2_directCreditorsOf hG ha0 ht1) (kLand _ ha0) clX2 m_X2_directCreditorsOf kv_RX2_162 d_X2_creditorsOf_2 rfl (Nat.le_of_ble_eq_true rfl) ⟨rfl, rfl, Nat.le_of_ble_eq_true rfl, Nat.le_of_ble_eq_true rfl, Nat.le_of_ble_eq_true rfl⟩ (fun n => ?_)
  refine V_istore_n (ls' := [_, _, _, _, _]) d_X2_creditorsOf_5 rfl rfl rfl ?_
  refine V_iconst (v := 0) d_X2_creditorsOf_6 ic_0 ?_
  refine V_istore_n (ls' := [_, _, _, _, _]) d_X2_creditorsOf_7 rfl rfl rfl ?_
  refine V_less (ls' := [some _, none, some _, some _, none]) ⟨rfl, rfl, rfl, trivial⟩ ?_
  exact s_X2_creditorsOf_l8 hG ha0 hf hK
theorem s_X2_creditorsOf {G : Gl} (hG : G.1.stackTraces = false) {μ : Mem} {a0 : Nat} {p1 : Int32} (ha0 : a0 ∈ landL) {r : Int32} (hf : f_X2_creditorsOf μ a0 p1 = some r) : Rt G yX2_creditorsOf F_X2_creditorsOf (some .int) [.ref (G.2.1 + a0), .int p1] μ (some (.int r)) μ := fun n => Sd.of hG ⟨by decide +kernel, rfl, rfl⟩ rfl (Nat.le_of_ble_eq_true rfl) rfl (fun C hK => s_X2_creditorsOf_e hG ha0 hf hK)
theorem d_X2_laceFor_0 : decode cX2_laceFor 0 = .ok (.aload_n 0, 1) := by decide +kernel
theorem d_X2_laceFor_1 : decode cX2_laceFor 1 = .ok (.iload_n 1, 1) := by decide +kernel
theorem d_X2_laceFor_2 : decode cX2_laceFor 2 = .ok (.invokevirtual 106, 3) := by decide +kernel
theorem d_X2_laceFor_5 : decode cX2_laceFor 5 = .ok (.ifCond .eq 19, 3) := by decide +kernel
theorem d_X2_laceFor_8 : decode cX2_laceFor 8 = .ok (.aload_n 0, 1) := by decide +kernel
theorem d_X2_laceFor_9 : decode cX2_laceFor 9 = .ok (.getfield 49, 3) := by decide +kernel
theorem d_X2_laceFor_12 : decode cX2_laceFor 12 = .ok (.iload_n 1, 1) := by decide +kernel
theorem d_X2_laceFor_13 : decode cX2_laceFor 13 = .ok (.iaload, 1) := by decide +kernel
theorem d_X2_laceFor_14 : decode cX2_laceFor 14 = .ok (.iload_n 2, 1) := by decide +kernel
theorem d_X2_laceFor_15 : decode cX2_laceFor 15 = .ok (.if_icmp .ne 9, 3) := by decide +kernel
theorem d_X2_laceFor_18 : decode cX2_laceFor 18 = .ok (.iconst 1, 1) := by decide +kernel
theorem d_X2_laceFor_19 : decode cX2_laceFor 19 = .ok (.iload_n 1, 1) := by decide +kernel
theorem d_X2_laceFor_20 : decode cX2_laceFor 20 = .ok (.ishl, 1) := by decide +kernel
theorem d_X2_laceFor_21 : decode cX2_laceFor 21 = .ok (.goto 4, 3) := by decide +kernel
theorem d_X2_laceFor_24 : decode cX2_laceFor 24 = .ok (.iconst 0, 1) := by decide +kernel
theorem d_X2_laceFor_25 : decode cX2_laceFor 25 = .ok (.ireturn, 1) := by decide +kernel
theorem s_X2_laceFor_j25 {G : Gl} (hG : G.1.stackTraces = false) {C : Cx} {n : Nat} {μ : Mem} {a0 : Nat} {k0 : Int32} (ha0 : a0 ∈ landL) {r : Int32} (hf : f_X2_laceFor_j25 μ a0 k0 = some r) (hK : FinR G C F_X2_laceFor (some .int) (some (.int r)) μ) : V G C F_X2_laceFor 25 [none, none, none] [.int k0] (pic G μ) n 0 0 := by
  unfold f_X2_laceFor_j25 at hf
  cases hf
  exact R_i hK d_X2_laceFor_25 (Nat.le_of_ble_eq_true rfl) (Nat.le_of_ble_eq_true rfl)
theorem s_X2_laceFor_j24 {G : Gl} (hG : G.1.stackTraces = false) {C : Cx} {n : Nat} {μ : Mem} {a0 : Nat} (ha0 : a0 ∈ landL) {r : Int32} (hf : f_X2_laceFor_j24 μ a0 = some r) (hK : FinR G C F_X2_laceFor (some .int) (some (.int r)) μ) : V G C F_X2_laceFor 24 [none, none, none] [] (pic G μ) n 0 0 := by
  unfold f_X2_laceFor_j24 at hf
  refine V_iconst (v := 0) d_X2_laceFor_24 ic_0 ?_
  refine V_less (ls' := [none, none, none]) trivial ?_
  exact s_X2_laceFor_j25 hG ha0 hf hK
theorem s_X2_laceFor_e {G : Gl} (hG : G.1.stackTraces = false) {C : Cx} {n : Nat} {μ : Mem} {a0 : Nat} {p1 : Int32} {p2 : Int32} (ha0 : a0 ∈ landL) {r : Int32} (hf : f_X2_laceFor μ a0 p1 p2 = some r) (hK : FinR G C F_X2_laceFor (some .int) (some (.int r)) μ) : V G C F_X2_laceFor 0 [some (.ref (G.2.1 + a0)), some (.int p1), some (.int p2)] [] (pic G μ) n 0 0 := by
  unfold f_X2_laceFor at hf
  refine V_aload_n d_X2_laceFor_0 rfl rfl ?_
  refine V_iload_n d_X2_laceFor_1 rfl rfl ?_
  obtain ⟨t1, ht1, hf⟩ := ob hf
  refine B_callV1 (s_X2_isPledged hG ha0 ht1) (kLand _ ha0) clX2 m_X2_isPledged kv_RX2_106 d_X2_laceFor_2 rfl (Nat.le_of_ble_eq_true rfl) ⟨rfl, rfl, Nat.le_of_ble_eq_true rfl, Nat.le_of_ble_eq_true rfl, Nat.le_of_ble_eq_true rfl⟩ (fun n => ?_)
  refine V_if_eq (tgt := 24) d_X2_laceFor_5 (by decide) (fun c5 => ?_) (fun c5 => ?_)
  · replace hf := iteF (b2i_nt (b2i_eq0 c5)) hf
    refine V_less (ls' := [none, none, none]) trivial ?_
    exact s_X2_laceFor_j24 hG ha0 hf hK
  · replace hf := iteT (b2i_ne0 c5) hf
    refine V_aload_n d_X2_laceFor_8 rfl rfl ?_
    refine B_get (kLand _ ha0) fl_RX2_49 d_X2_laceFor_9 g_2_12 ?_
    refine V_iload_n d_X2_laceFor_12 rfl rfl ?_
    obtain ⟨t2, ht2, hf⟩ := ob hf
    refine B_iald (kLand_7 _ ha0) ht2 d_X2_laceFor_13 ?_
    refine V_iload_n d_X2_laceFor_14 rfl rfl ?_
    have hJj3 : ∀ j3 : Int32, j3 = (if t2 = p2 then ((1 <<< (p1 &&& 31)) : Int32) else 0) → V G C F_X2_laceFor 25 [none, none, none] [.int j3] (pic G μ) n 0 0 := by
      intro j3 ej3
      subst ej3
      cases hf
      exact R_i hK d_X2_laceFor_25 (Nat.le_of_ble_eq_true rfl) (Nat.le_of_ble_eq_true rfl)
    refine V_icmp_ne (tgt := 24) d_X2_laceFor_15 (by decide) (fun c15 => ?_) (fun c15 => ?_)
    · refine V_iconst (v := 0) d_X2_laceFor_24 ic_0 ?_
      refine V_less (ls' := [none, none, none]) trivial ?_
      exact hJj3 0 (by rw [if_neg c15])
    · refine V_iconst (v := 1) d_X2_laceFor_18 ic_1 ?_
      refine V_iload_n d_X2_laceFor_19 rfl rfl ?_
      refine V_ishl d_X2_laceFor_20 ?_
      refine V_goto (tgt := 25) d_X2_laceFor_21 (by decide) ?_
      refine V_less (ls' := [none, none, none]) trivial ?_
      exact hJj3 (1 <<< (p1 &&& 31)) (by rw [if_pos c15])
theorem s_X2_laceFor {G : Gl} (hG : G.1.stackTraces = false) {μ : Mem} {a0 : Nat} {p1 : Int32} {p2 : Int32} (ha0 : a0 ∈ landL) {r : Int32} (hf : f_X2_laceFor μ a0 p1 p2 = some r) : Rt G yX2_laceFor F_X2_laceFor (some .int) [.ref (G.2.1 + a0), .int p1, .int p2] μ (some (.int r)) μ := fun n => Sd.of hG ⟨by decide +kernel, rfl, rfl⟩ rfl (Nat.le_of_ble_eq_true rfl) rfl (fun C hK => s_X2_laceFor_e hG ha0 hf hK)
theorem d_X2_betterCall_0 : decode cX2_betterCall 0 = .ok (.aload_n 0, 1) := by decide +kernel
theorem d_X2_betterCall_1 : decode cX2_betterCall 1 = .ok (.iload_n 2, 1) := by decide +kernel
theorem d_X2_betterCall_2 : decode cX2_betterCall 2 = .ok (.invokevirtual 149, 3) := by decide +kernel
theorem d_X2_betterCall_5 : decode cX2_betterCall 5 = .ok (.istore 4, 2) := by decide +kernel
theorem d_X2_betterCall_7 : decode cX2_betterCall 7 = .ok (.iload 4, 2) := by decide +kernel
theorem d_X2_betterCall_9 : decode cX2_betterCall 9 = .ok (.iload_n 3, 1) := by decide +kernel
theorem d_X2_betterCall_10 : decode cX2_betterCall 10 = .ok (.if_icmp .gt 17, 3) := by decide +kernel
theorem d_X2_betterCall_13 : decode cX2_betterCall 13 = .ok (.iload 4, 2) := by decide +kernel
theorem d_X2_betterCall_15 : decode cX2_betterCall 15 = .ok (.aload_n 0, 1) := by decide +kernel
theorem d_X2_betterCall_16 : decode cX2_betterCall 16 = .ok (.iload_n 1, 1) := by decide +kernel
theorem d_X2_betterCall_17 : decode cX2_betterCall 17 = .ok (.invokevirtual 149, 3) := by decide +kernel
theorem d_X2_betterCall_20 : decode cX2_betterCall 20 = .ok (.if_icmp .le 7, 3) := by decide +kernel
theorem d_X2_betterCall_23 : decode cX2_betterCall 23 = .ok (.iload_n 2, 1) := by decide +kernel
theorem d_X2_betterCall_24 : decode cX2_betterCall 24 = .ok (.goto 4, 3) := by decide +kernel
theorem d_X2_betterCall_27 : decode cX2_betterCall 27 = .ok (.iload_n 1, 1) := by decide +kernel
theorem d_X2_betterCall_28 : decode cX2_betterCall 28 = .ok (.ireturn, 1) := by decide +kernel
theorem s_X2_betterCall_j28 {G : Gl} (hG : G.1.stackTraces = false) {C : Cx} {n : Nat} {μ : Mem} {a0 : Nat} {k0 : Int32} (ha0 : a0 ∈ landL) {r : Int32} (hf : f_X2_betterCall_j28 μ a0 k0 = some r) (hK : FinR G C F_X2_betterCall (some .int) (some (.int r)) μ) : V G C F_X2_betterCall 28 [none, none, none, none, none] [.int k0] (pic G μ) n 0 0 := by
  unfold f_X2_betterCall_j28 at hf
  cases hf
  exact R_i hK d_X2_betterCall_28 (Nat.le_of_ble_eq_true rfl) (Nat.le_of_ble_eq_true rfl)
theorem s_X2_betterCall_j27 {G : Gl} (hG : G.1.stackTraces = false) {C : Cx} {n : Nat} {μ : Mem} {a0 : Nat} {l1 : Int32} (ha0 : a0 ∈ landL) {r : Int32} (hf : f_X2_betterCall_j27 μ a0 l1 = some r) (hK : FinR G C F_X2_betterCall (some .int) (some (.int r)) μ) : V G C F_X2_betterCall 27 [none, some (.int l1), none, none, none] [] (pic G μ) n 0 0 := by
  unfold f_X2_betterCall_j27 at hf
  refine V_iload_n d_X2_betterCall_27 rfl rfl ?_
  refine V_less (ls' := [none, none, none, none, none]) trivial ?_
  exact s_X2_betterCall_j28 hG ha0 hf hK
theorem s_X2_betterCall_e {G : Gl} (hG : G.1.stackTraces = false) {C : Cx} {n : Nat} {μ : Mem} {a0 : Nat} {p1 : Int32} {p2 : Int32} {p3 : Int32} (ha0 : a0 ∈ landL) {r : Int32} (hf : f_X2_betterCall μ a0 p1 p2 p3 = some r) (hK : FinR G C F_X2_betterCall (some .int) (some (.int r)) μ) : V G C F_X2_betterCall 0 [some (.ref (G.2.1 + a0)), some (.int p1), some (.int p2), some (.int p3), none] [] (pic G μ) n 0 0 := by
  unfold f_X2_betterCall at hf
  refine V_aload_n d_X2_betterCall_0 rfl rfl ?_
  refine V_iload_n d_X2_betterCall_1 rfl rfl ?_
  obtain ⟨t1, ht1, hf⟩ := ob hf
  refine B_callV1 (s_X2_amountOf hG ha0 ht1) (kLand _ ha0) clX2 m_X2_amountOf kv_RX2_149 d_X2_betterCall_2 rfl (Nat.le_of_ble_eq_true rfl) ⟨rfl, rfl, Nat.le_of_ble_eq_true rfl, Nat.le_of_ble_eq_true rfl, Nat.le_of_ble_eq_true rfl⟩ (fun n => ?_)
  refine V_istore (ls' := [_, _, _, _, _]) d_X2_betterCall_5 rfl rfl ?_
  refine V_iload d_X2_betterCall_7 rfl ?_
  refine V_iload_n d_X2_betterCall_9 rfl rfl ?_
  refine V_icmp_gt (tgt := 27) d_X2_betterCall_10 (by decide) (fun c10 => ?_) (fun c10 => ?_)
  · replace hf := iteT c10 hf
    refine V_less (ls' := [none, some _, none, none, none]) ⟨rfl, trivial⟩ ?_
    exact s_X2_betterCall_j27 hG ha0 hf hK
  · replace hf := iteF c10 hf
    refine V_iload d_X2_betterCall_13 rfl ?_
    refine V_aload_n d_X2_betterCall_15 rfl rfl ?_
    refine V_iload_n d_X2_betterCall_16 rfl rfl ?_
    obtain ⟨t2, ht2, hf⟩ := ob hf
    refine B_callV1 (s_X2_amountOf hG ha0 ht2) (kLand _ ha0) clX2 m_X2_amountOf kv_RX2_149 d_X2_betterCall_17 rfl (Nat.le_of_ble_eq_true rfl) ⟨rfl, rfl, Nat.le_of_ble_eq_true rfl, Nat.le_of_ble_eq_true rfl, Nat.le_of_ble_eq_true rfl⟩ (fun n => ?_)
    have hJj3 : ∀ j3 : Int32, j3 = (if t1 ≤ t2 then (p1 : Int32) else p2) → V G C F_X2_betterCall 28 [none, none, none, none, none] [.int j3] (pic G μ) n 0 0 := by
      intro j3 ej3
      subst ej3
      cases hf
      exact R_i hK d_X2_betterCall_28 (Nat.le_of_ble_eq_true rfl) (Nat.le_of_ble_eq_true rfl)
    refine V_icmp_le (tgt := 27) d_X2_betterCall_20 (by decide) (fun c20 => ?_) (fun c20 => ?_)
    · refine V_iload_n d_X2_betterCall_27 rfl rfl ?_
      refine V_less (ls' := [none, none, none, none, none]) trivial ?_
      exact hJj3 p1 (by rw [if_pos c20])
    · refine V_iload_n d_X2_betterCall_23 rfl rfl ?_
      refine V_goto (tgt := 28) d_X2_betterCall_24 (by decide) ?_
      refine V_less (ls' := [none, none, none, none, none]) trivial ?_
      exact hJj3 p2 (by rw [if_neg c20])
theorem s_X2_betterCall {G : Gl} (hG : G.1.stackTraces = false) {μ : Mem} {a0 : Nat} {p1 : Int32} {p2 : Int32} {p3 : Int32} (ha0 : a0 ∈ landL) {r : Int32} (hf : f_X2_betterCall μ a0 p1 p2 p3 = some r) : Rt G yX2_betterCall F_X2_betterCall (some .int) [.ref (G.2.1 + a0), .int p1, .int p2, .int p3] μ (some (.int r)) μ := fun n => Sd.of hG ⟨by decide +kernel, rfl, rfl⟩ rfl (Nat.le_of_ble_eq_true rfl) rfl (fun C hK => s_X2_betterCall_e hG ha0 hf hK)
theorem d_X2_callable_0 : decode cX2_callable 0 = .ok (.aload_n 0, 1) := by decide +kernel
theorem d_X2_callable_1 : decode cX2_callable 1 = .ok (.iconst 2, 1) := by decide +kernel
theorem d_X2_callable_2 : decode cX2_callable 2 = .ok (.iload_n 2, 1) := by decide +kernel
theorem d_X2_callable_3 : decode cX2_callable 3 = .ok (.imul, 1) := by decide +kernel
theorem d_X2_callable_4 : decode cX2_callable 4 = .ok (.iload_n 1, 1) := by decide +kernel
theorem d_X2_callable_5 : decode cX2_callable 5 = .ok (.invokevirtual 165, 3) := by decide +kernel
theorem d_X2_callable_8 : decode cX2_callable 8 = .ok (.istore_n 3, 1) := by decide +kernel
theorem d_X2_callable_9 : decode cX2_callable 9 = .ok (.aload_n 0, 1) := by decide +kernel
theorem d_X2_callable_10 : decode cX2_callable 10 = .ok (.iconst 2, 1) := by decide +kernel
theorem d_X2_callable_11 : decode cX2_callable 11 = .ok (.iload_n 2, 1) := by decide +kernel
theorem d_X2_callable_12 : decode cX2_callable 12 = .ok (.imul, 1) := by decide +kernel
theorem d_X2_callable_13 : decode cX2_callable 13 = .ok (.iconst 1, 1) := by decide +kernel
theorem d_X2_callable_14 : decode cX2_callable 14 = .ok (.iadd, 1) := by decide +kernel
theorem d_X2_callable_15 : decode cX2_callable 15 = .ok (.iload_n 1, 1) := by decide +kernel
theorem d_X2_callable_16 : decode cX2_callable 16 = .ok (.invokevirtual 165, 3) := by decide +kernel
theorem d_X2_callable_19 : decode cX2_callable 19 = .ok (.istore 4, 2) := by decide +kernel
theorem d_X2_callable_21 : decode cX2_callable 21 = .ok (.iconst 0, 1) := by decide +kernel
theorem d_X2_callable_22 : decode cX2_callable 22 = .ok (.istore 5, 2) := by decide +kernel
theorem d_X2_callable_24 : decode cX2_callable 24 = .ok (.aload_n 0, 1) := by decide +kernel
theorem d_X2_callable_25 : decode cX2_callable 25 = .ok (.iload 5, 2) := by decide +kernel
theorem d_X2_callable_27 : decode cX2_callable 27 = .ok (.iload_n 3, 1) := by decide +kernel
theorem d_X2_callable_28 : decode cX2_callable 28 = .ok (.aload_n 0, 1) := by decide +kernel
theorem d_X2_callable_29 : decode cX2_callable 29 = .ok (.getfield 30, 3) := by decide +kernel
theorem d_X2_callable_32 : decode cX2_callable 32 = .ok (.iload_n 2, 1) := by decide +kernel
theorem d_X2_callable_33 : decode cX2_callable 33 = .ok (.iaload, 1) := by decide +kernel
theorem d_X2_callable_34 : decode cX2_callable 34 = .ok (.invokevirtual 168, 3) := by decide +kernel
theorem d_X2_callable_37 : decode cX2_callable 37 = .ok (.istore 5, 2) := by decide +kernel
theorem d_X2_callable_39 : decode cX2_callable 39 = .ok (.aload_n 0, 1) := by decide +kernel
theorem d_X2_callable_40 : decode cX2_callable 40 = .ok (.iload 5, 2) := by decide +kernel
theorem d_X2_callable_42 : decode cX2_callable 42 = .ok (.iload 4, 2) := by decide +kernel
theorem d_X2_callable_44 : decode cX2_callable 44 = .ok (.aload_n 0, 1) := by decide +kernel
theorem d_X2_callable_45 : decode cX2_callable 45 = .ok (.getfield 30, 3) := by decide +kernel
theorem d_X2_callable_48 : decode cX2_callable 48 = .ok (.iload_n 2, 1) := by decide +kernel
theorem d_X2_callable_49 : decode cX2_callable 49 = .ok (.iaload, 1) := by decide +kernel
theorem d_X2_callable_50 : decode cX2_callable 50 = .ok (.invokevirtual 168, 3) := by decide +kernel
theorem d_X2_callable_53 : decode cX2_callable 53 = .ok (.istore 5, 2) := by decide +kernel
theorem d_X2_callable_55 : decode cX2_callable 55 = .ok (.aload_n 0, 1) := by decide +kernel
theorem d_X2_callable_56 : decode cX2_callable 56 = .ok (.iload 5, 2) := by decide +kernel
theorem d_X2_callable_58 : decode cX2_callable 58 = .ok (.iload_n 3, 1) := by decide +kernel
theorem d_X2_callable_59 : decode cX2_callable 59 = .ok (.iload 4, 2) := by decide +kernel
theorem d_X2_callable_61 : decode cX2_callable 61 = .ok (.ior, 1) := by decide +kernel
theorem d_X2_callable_62 : decode cX2_callable 62 = .ok (.aload_n 0, 1) := by decide +kernel
theorem d_X2_callable_63 : decode cX2_callable 63 = .ok (.getfield 30, 3) := by decide +kernel
theorem d_X2_callable_66 : decode cX2_callable 66 = .ok (.iload_n 2, 1) := by decide +kernel
theorem d_X2_callable_67 : decode cX2_callable 67 = .ok (.iaload, 1) := by decide +kernel
theorem d_X2_callable_68 : decode cX2_callable 68 = .ok (.invokevirtual 168, 3) := by decide +kernel
theorem d_X2_callable_71 : decode cX2_callable 71 = .ok (.ireturn, 1) := by decide +kernel
theorem s_X2_callable_e {G : Gl} (hG : G.1.stackTraces = false) {C : Cx} {n : Nat} {μ : Mem} {a0 : Nat} {p1 : Int32} {p2 : Int32} (ha0 : a0 ∈ landL) {r : Int32} (hf : f_X2_callable μ a0 p1 p2 = some r) (hK : FinR G C F_X2_callable (some .int) (some (.int r)) μ) : V G C F_X2_callable 0 [some (.ref (G.2.1 + a0)), some (.int p1), some (.int p2), none, none, none] [] (pic G μ) n 0 0 := by
  unfold f_X2_callable at hf
  refine V_aload_n d_X2_callable_0 rfl rfl ?_
  refine V_iconst (v := 2) d_X2_callable_1 ic_2 ?_
  refine V_iload_n d_X2_callable_2 rfl rfl ?_
  refine V_imul d_X2_callable_3 ?_
  refine V_iload_n d_X2_callable_4 rfl rfl ?_
  obtain ⟨t1, ht1, hf⟩ := ob hf
  refine B_callV1 (s_X2_laceFor hG ha0 ht1) (kLand _ ha0) clX2 m_X2_laceFor kv_RX2_165 d_X2_callable_5 rfl (Nat.le_of_ble_eq_true rfl) ⟨rfl, rfl, Nat.le_of_ble_eq_true rfl, Nat.le_of_ble_eq_true rfl, Nat.le_of_ble_eq_true rfl⟩ (fun n => ?_)
  refine V_istore_n (ls' := [_, _, _, _, _, _]) d_X2_callable_8 rfl rfl rfl ?_
  refine V_aload_n d_X2_callable_9 rfl rfl ?_
  refine V_iconst (v := 2) d_X2_callable_10 ic_2 ?_
  refine V_iload_n d_X2_callable_11 rfl rfl ?_
  refine V_imul d_X2_callable_12 ?_
  refine V_iconst (v := 1) d_X2_callable_13 ic_1 ?_
  refine V_iadd d_X2_callable_14 ?_
  refine V_iload_n d_X2_callable_15 rfl rfl ?_
  obtain ⟨t2, ht2, hf⟩ := ob hf
  refine B_callV1 (s_X2_laceFor hG ha0 ht2) (kLand _ ha0) clX2 m_X2_laceFor kv_RX2_165 d_X2_callable_16 rfl (Nat.le_of_ble_eq_true rfl) ⟨rfl, rfl, Nat.le_of_ble_eq_true rfl, Nat.le_of_ble_eq_true rfl, Nat.le_of_ble_eq_true rfl⟩ (fun n => ?_)
  refine V_istore (ls' := [_, _, _, _, _, _]) d_X2_callable_19 rfl rfl ?_
  refine V_iconst (v := 0) d_X2_callable_21 ic_0 ?_
  refine V_istore (ls' := [_, _, _, _, _, _]) d_X2_callable_22 rfl rfl ?_
  refine V_aload_n d_X2_callable_24 rfl rfl ?_
  refine V_iload d_X2_callable_25 rfl ?_
  refine V_iload_n d_X2_callable_27 rfl rfl ?_
  refine V_aload_n d_X2_callable_28 rfl rfl ?_
  refine B_get (kLand _ ha0) fl_RX2_30 d_X2_callable_29 g_2_6 ?_
  refine V_iload_n d_X2_callable_32 rfl rfl ?_
  obtain ⟨t3, ht3, hf⟩ := ob hf
  refine B_iald (kLand_1 _ ha0) ht3 d_X2_callable_33 ?_
  obtain ⟨t4, ht4, hf⟩ := ob hf
  refine B_callV1 (s_X2_betterCall hG ha0 ht4) (kLand _ ha0) clX2 m_X2_betterCall kv_RX2_168 d_X2_callable_34 rfl (Nat.le_of_ble_eq_true rfl) ⟨rfl, rfl, Nat.le_of_ble_eq_true rfl, Nat.le_of_ble_eq_true rfl, Nat.le_of_ble_eq_true rfl⟩ (fun n => ?_)
  refine V_istore (ls' := [_, _, _, _, _, _]) d_X2_callable_37 rfl rfl ?_
  refine V_aload_n d_X2_callable_39 rfl rfl ?_
  refine V_iload d_X2_callable_40 rfl ?_
  refine V_iload d_X2_callable_42 rfl ?_
  refine V_aload_n d_X2_callable_44 rfl rfl ?_
  refine B_get (kLand _ ha0) fl_RX2_30 d_X2_callable_45 g_2_6 ?_
  refine V_iload_n d_X2_callable_48 rfl rfl ?_
  obtain ⟨t5, ht5, hf⟩ := ob hf
  refine B_iald (kLand_1 _ ha0) ht5 d_X2_callable_49 ?_
  obtain ⟨t6, ht6, hf⟩ := ob hf
  refine B_callV1 (s_X2_betterCall hG ha0 ht6) (kLand _ ha0) clX2 m_X2_betterCall kv_RX2_168 d_X2_callable_50 rfl (Nat.le_of_ble_eq_true rfl) ⟨rfl, rfl, Nat.le_of_ble_eq_true rfl, Nat.le_of_ble_eq_true rfl, Nat.le_of_ble_eq_true rfl⟩ (fun n => ?_)
  refine V_istore (ls' := [_, _, _, _, _, _]) d_X2_callable_53 rfl rfl ?_
  refine V_aload_n d_X2_callable_55 rfl rfl ?_
  refine V_iload d_X2_callable_56 rfl ?_
  refine V_iload_n d_X2_callable_58 rfl rfl ?_
  refine V_iload d_X2_callable_59 rfl ?_
  refine V_ior d_X2_callable_61 ?_
  refine V_aload_n d_X2_callable_62 rfl rfl ?_
  refine B_get (kLand _ ha0) fl_RX2_30 d_X2_callable_63 g_2_6 ?_
  refine V_iload_n d_X2_callable_66 rfl rfl ?_
  obtain ⟨t7, ht7, hf⟩ := ob hf
  refine B_iald (kLand_1 _ ha0) ht7 d_X2_callable_67 ?_
  obtain ⟨t8, ht8, hf⟩ := ob hf
  refine B_callV1 (s_X2_betterCall hG ha0 ht8) (kLand _ ha0) clX2 m_X2_betterCall kv_RX2_168 d_X2_callable_68 rfl (Nat.le_of_ble_eq_true rfl) ⟨rfl, rfl, Nat.le_of_ble_eq_true rfl, Nat.le_of_ble_eq_true rfl, Nat.le_of_ble_eq_true rfl⟩ (fun n => ?_)
  cases hf
  exact R_i hK d_X2_callable_71 (Nat.le_of_ble_eq_true rfl) (Nat.le_of_ble_eq_true rfl)
theorem s_X2_callable {G : Gl} (hG : G.1.stackTraces = false) {μ : Mem} {a0 : Nat} {p1 : Int32} {p2 : Int32} (ha0 : a0 ∈ landL) {r : Int32} (hf : f_X2_callable μ a0 p1 p2 = some r) : Rt G yX2_callable F_X2_callable (some .int) [.ref (G.2.1 + a0), .int p1, .int p2] μ (some (.int r)) μ := fun n => Sd.of hG ⟨by decide +kernel, rfl, rfl⟩ rfl (Nat.le_of_ble_eq_true rfl) rfl (fun C hK => s_X2_callable_e hG ha0 hf hK)
theorem d_X2_partiesOf_0 : decode cX2_partiesOf 0 = .ok (.iconst 1, 1) := by decide +kernel
theorem d_X2_partiesOf_1 : decode cX2_partiesOf 1 = .ok (.iload_n 1, 1) := by decide +kernel
theorem d_X2_partiesOf_2 : decode cX2_partiesOf 2 = .ok (.invokestatic 135, 3) := by decide +kernel
theorem d_X2_partiesOf_5 : decode cX2_partiesOf 5 = .ok (.ishl, 1) := by decide +kernel
theorem d_X2_partiesOf_6 : decode cX2_partiesOf 6 = .ok (.iconst 1, 1) := by decide +kernel
theorem d_X2_partiesOf_7 : decode cX2_partiesOf 7 = .ok (.aload_n 0, 1) := by decide +kernel
theorem d_X2_partiesOf_8 : decode cX2_partiesOf 8 = .ok (.getfield 49, 3) := by decide +kernel
theorem d_X2_partiesOf_11 : decode cX2_partiesOf 11 = .ok (.iload_n 1, 1) := by decide +kernel
theorem d_X2_partiesOf_12 : decode cX2_partiesOf 12 = .ok (.iaload, 1) := by decide +kernel
theorem d_X2_partiesOf_13 : decode cX2_partiesOf 13 = .ok (.ishl, 1) := by decide +kernel
theorem d_X2_partiesOf_14 : decode cX2_partiesOf 14 = .ok (.ior, 1) := by decide +kernel
theorem d_X2_partiesOf_15 : decode cX2_partiesOf 15 = .ok (.istore_n 2, 1) := by decide +kernel
theorem d_X2_partiesOf_16 : decode cX2_partiesOf 16 = .ok (.aload_n 0, 1) := by decide +kernel
theorem d_X2_partiesOf_17 : decode cX2_partiesOf 17 = .ok (.getfield 61, 3) := by decide +kernel
theorem d_X2_partiesOf_20 : decode cX2_partiesOf 20 = .ok (.iload_n 1, 1) := by decide +kernel
theorem d_X2_partiesOf_21 : decode cX2_partiesOf 21 = .ok (.iaload, 1) := by decide +kernel
theorem d_X2_partiesOf_22 : decode cX2_partiesOf 22 = .ok (.iconst (-1), 1) := by decide +kernel
theorem d_X2_partiesOf_23 : decode cX2_partiesOf 23 = .ok (.if_icmp .ne 7, 3) := by decide +kernel
theorem d_X2_partiesOf_26 : decode cX2_partiesOf 26 = .ok (.iload_n 2, 1) := by decide +kernel
theorem d_X2_partiesOf_27 : decode cX2_partiesOf 27 = .ok (.goto 13, 3) := by decide +kernel
theorem d_X2_partiesOf_30 : decode cX2_partiesOf 30 = .ok (.iload_n 2, 1) := by decide +kernel
theorem d_X2_partiesOf_31 : decode cX2_partiesOf 31 = .ok (.iconst 1, 1) := by decide +kernel
theorem d_X2_partiesOf_32 : decode cX2_partiesOf 32 = .ok (.aload_n 0, 1) := by decide +kernel
theorem d_X2_partiesOf_33 : decode cX2_partiesOf 33 = .ok (.getfield 61, 3) := by decide +kernel
theorem d_X2_partiesOf_36 : decode cX2_partiesOf 36 = .ok (.iload_n 1, 1) := by decide +kernel
theorem d_X2_partiesOf_37 : decode cX2_partiesOf 37 = .ok (.iaload, 1) := by decide +kernel
theorem d_X2_partiesOf_38 : decode cX2_partiesOf 38 = .ok (.ishl, 1) := by decide +kernel
theorem d_X2_partiesOf_39 : decode cX2_partiesOf 39 = .ok (.ior, 1) := by decide +kernel
theorem d_X2_partiesOf_40 : decode cX2_partiesOf 40 = .ok (.ireturn, 1) := by decide +kernel
theorem s_X2_partiesOf_j40 {G : Gl} (hG : G.1.stackTraces = false) {C : Cx} {n : Nat} {μ : Mem} {a0 : Nat} {k0 : Int32} (ha0 : a0 ∈ landL) {r : Int32} (hf : f_X2_partiesOf_j40 μ a0 k0 = some r) (hK : FinR G C F_X2_partiesOf (some .int) (some (.int r)) μ) : V G C F_X2_partiesOf 40 [none, none, none] [.int k0] (pic G μ) n 0 0 := by
  unfold f_X2_partiesOf_j40 at hf
  cases hf
  exact R_i hK d_X2_partiesOf_40 (Nat.le_of_ble_eq_true rfl) (Nat.le_of_ble_eq_true rfl)
theorem s_X2_partiesOf_e {G : Gl} (hG : G.1.stackTraces = false) {C : Cx} {n : Nat} {μ : Mem} {a0 : Nat} {p1 : Int32} (ha0 : a0 ∈ landL) {r : Int32} (hf : f_X2_partiesOf μ a0 p1 = some r) (hK : FinR G C F_X2_partiesOf (some .int) (some (.int r)) μ) : V G C F_X2_partiesOf 0 [some (.ref (G.2.1 + a0)), some (.int p1), none] [] (pic G μ) n 0 0 := by
  unfold f_X2_partiesOf at hf
  refine V_iconst (v := 1) d_X2_partiesOf_0 ic_1 ?_
  refine V_iload_n d_X2_partiesOf_1 rfl rfl ?_
  obtain ⟨t1, ht1, hf⟩ := ob hf
  refine B_callSN1 (s_X11_ownerOf hG ht1) m_X11_ownerOf ks_RX2_135 d_X2_partiesOf_2 rfl (Nat.le_of_ble_eq_true rfl) ⟨rfl, rfl, Nat.le_of_ble_eq_true rfl, Nat.le_of_ble_eq_true rfl, Nat.le_of_ble_eq_true rfl⟩ (fun n => ?_)
  refine V_ishl d_X2_partiesOf_5 ?_
  refine V_iconst (v := 1) d_X2_partiesOf_6 ic_1 ?_
  refine V_aload_n d_X2_partiesOf_7 rfl rfl ?_
  refine B_get (kLand _ ha0) fl_RX2_49 d_X2_partiesOf_8 g_2_12 ?_
  refine V_iload_n d_X2_partiesOf_11 rfl rfl ?_
  obtain ⟨t2, ht2, hf⟩ := ob hf
  refine B_iald (kLand_7 _ ha0) ht2 d_X2_partiesOf_12 ?_
  refine V_ishl d_X2_partiesOf_13 ?_
  refine V_ior d_X2_partiesOf_14 ?_
  refine V_istore_n (ls' := [_, _, _]) d_X2_partiesOf_15 rfl rfl rfl ?_
  refine V_aload_n d_X2_partiesOf_16 rfl rfl ?_
  refine B_get (kLand _ ha0) fl_RX2_61 d_X2_partiesOf_17 g_2_16 ?_
  refine V_iload_n d_X2_partiesOf_20 rfl rfl ?_
  obtain ⟨t3, ht3, hf⟩ := ob hf
  refine B_iald (kLand_11 _ ha0) ht3 d_X2_partiesOf_21 ?_
  refine V_iconst (v := (-1)) d_X2_partiesOf_22 ic_m1 ?_
  refine V_icmp_ne (tgt := 30) d_X2_partiesOf_23 (by decide) (fun c23 => ?_) (fun c23 => ?_)
  · replace hf := iteF c23 hf
    refine V_iload_n d_X2_partiesOf_30 rfl rfl ?_
    refine V_iconst (v := 1) d_X2_partiesOf_31 ic_1 ?_
    refine V_aload_n d_X2_partiesOf_32 rfl rfl ?_
    refine B_get (kLand _ ha0) fl_RX2_61 d_X2_partiesOf_33 g_2_16 ?_
    refine V_iload_n d_X2_partiesOf_36 rfl rfl ?_
    obtain ⟨t4, ht4, hf⟩ := ob hf
    refine B_iald (kLand_11 _ ha0) ht4 d_X2_partiesOf_37 ?_
    refine V_ishl d_X2_partiesOf_38 ?_
    refine V_ior d_X2_partiesOf_39 ?_
    refine V_less (ls' := [none, none, none]) trivial ?_
    exact s_X2_partiesOf_j40 hG ha0 hf hK
  · replace hf := iteT c23 hf
    refine V_iload_n d_X2_partiesOf_26 rfl rfl ?_
    refine V_goto (tgt := 40) d_X2_partiesOf_27 (by decide) ?_
    refine V_less (ls' := [none, none, none]) trivial ?_
    exact s_X2_partiesOf_j40 hG ha0 hf hK
theorem s_X2_partiesOf {G : Gl} (hG : G.1.stackTraces = false) {μ : Mem} {a0 : Nat} {p1 : Int32} (ha0 : a0 ∈ landL) {r : Int32} (hf : f_X2_partiesOf μ a0 p1 = some r) : Rt G yX2_partiesOf F_X2_partiesOf (some .int) [.ref (G.2.1 + a0), .int p1] μ (some (.int r)) μ := fun n => Sd.of hG ⟨by decide +kernel, rfl, rfl⟩ rfl (Nat.le_of_ble_eq_true rfl) rfl (fun C hK => s_X2_partiesOf_e hG ha0 hf hK)
theorem d_X2_isInEachPledge_0 : decode cX2_isInEachPledge 0 = .ok (.iconst 0, 1) := by decide +kernel
theorem d_X2_isInEachPledge_1 : decode cX2_isInEachPledge 1 = .ok (.istore_n 2, 1) := by decide +kernel
theorem d_X2_isInEachPledge_2 : decode cX2_isInEachPledge 2 = .ok (.iload_n 2, 1) := by decide +kernel
theorem d_X2_isInEachPledge_3 : decode cX2_isInEachPledge 3 = .ok (.iconst 2, 1) := by decide +kernel
theorem d_X2_isInEachPledge_4 : decode cX2_isInEachPledge 4 = .ok (.aload_n 0, 1) := by decide +kernel
theorem d_X2_isInEachPledge_5 : decode cX2_isInEachPledge 5 = .ok (.getfield 9, 3) := by decide +kernel
theorem d_X2_isInEachPledge_8 : decode cX2_isInEachPledge 8 = .ok (.imul, 1) := by decide +kernel
theorem d_X2_isInEachPledge_9 : decode cX2_isInEachPledge 9 = .ok (.if_icmp .ge 29, 3) := by decide +kernel
theorem d_X2_isInEachPledge_12 : decode cX2_isInEachPledge 12 = .ok (.aload_n 0, 1) := by decide +kernel
theorem d_X2_isInEachPledge_13 : decode cX2_isInEachPledge 13 = .ok (.iload_n 2, 1) := by decide +kernel
theorem d_X2_isInEachPledge_14 : decode cX2_isInEachPledge 14 = .ok (.invokevirtual 106, 3) := by decide +kernel
theorem d_X2_isInEachPledge_17 : decode cX2_isInEachPledge 17 = .ok (.ifCond .eq 15, 3) := by decide +kernel
theorem d_X2_isInEachPledge_20 : decode cX2_isInEachPledge 20 = .ok (.iload_n 1, 1) := by decide +kernel
theorem d_X2_isInEachPledge_21 : decode cX2_isInEachPledge 21 = .ok (.aload_n 0, 1) := by decide +kernel
theorem d_X2_isInEachPledge_22 : decode cX2_isInEachPledge 22 = .ok (.iload_n 2, 1) := by decide +kernel
theorem d_X2_isInEachPledge_23 : decode cX2_isInEachPledge 23 = .ok (.invokevirtual 172, 3) := by decide +kernel
theorem d_X2_isInEachPledge_26 : decode cX2_isInEachPledge 26 = .ok (.iand, 1) := by decide +kernel
theorem d_X2_isInEachPledge_27 : decode cX2_isInEachPledge 27 = .ok (.ifCond .ne 5, 3) := by decide +kernel
theorem d_X2_isInEachPledge_30 : decode cX2_isInEachPledge 30 = .ok (.iconst 0, 1) := by decide +kernel
theorem d_X2_isInEachPledge_31 : decode cX2_isInEachPledge 31 = .ok (.ireturn, 1) := by decide +kernel
theorem d_X2_isInEachPledge_32 : decode cX2_isInEachPledge 32 = .ok (.iinc 2 1, 3) := by decide +kernel
theorem d_X2_isInEachPledge_35 : decode cX2_isInEachPledge 35 = .ok (.goto (-33), 3) := by decide +kernel
theorem d_X2_isInEachPledge_38 : decode cX2_isInEachPledge 38 = .ok (.iconst 1, 1) := by decide +kernel
theorem d_X2_isInEachPledge_39 : decode cX2_isInEachPledge 39 = .ok (.ireturn, 1) := by decide +kernel
theorem s_X2_isInEachPledge_j32_2 {G : Gl} (hG : G.1.stackTraces = false) {C : Cx} {n : Nat} {μ : Mem} {a0 : Nat} {l1 : Int32} {l2 : Int32} (ha0 : a0 ∈ landL) {y : (Int32 ⊕ (Unit ⊕ Bool))} (hf : f_X2_isInEachPledge_j32_2 μ a0 l1 l2 = some y) (hK : (∀ z', y = .inl z' → ∀ n, V G C F_X2_isInEachPledge 2 [some (.ref (G.2.1 + a0)), some (.int l1), some (.int z')] [] (pic G μ) n 0 0) ∧ (∀ x', y = .inr x' → ((∀ x'', x' = .inl x'' → ∀ n, V G C F_X2_isInEachPledge 38 [none, none, none] [] (pic G μ) n 0 0) ∧ (∀ x''', x' = .inr x''' → FinR G C F_X2_isInEachPledge (some .boolean) (some (.int (b2i x'''))) μ)))) : V G C F_X2_isInEachPledge 32 [some (.ref (G.2.1 + a0)), some (.int l1), some (.int l2)] [] (pic G μ) n 0 0 := by
  unfold f_X2_isInEachPledge_j32_2 at hf
  refine V_iinc (v := (l2 + 1)) (ls' := [_, _, _]) d_X2_isInEachPledge_32 rfl (by rw [ic_1]) rfl ?_
  refine V_goto (tgt := 2) d_X2_isInEachPledge_35 (by decide) ?_
  refine V_less (ls' := [some _, some _, some _]) ⟨rfl, rfl, rfl, trivial⟩ ?_
  cases hf
  exact hK.1 _ rfl _
theorem s_X2_isInEachPledge_b2 {G : Gl} (hG : G.1.stackTraces = false) {C : Cx} {n : Nat} {μ : Mem} {a0 : Nat} {l1 : Int32} {l2 : Int32} (ha0 : a0 ∈ landL) {y : (Int32 ⊕ (Unit ⊕ Bool))} (hf : f_X2_isInEachPledge_b2 μ a0 l1 l2 = some y) (hK : (∀ z', y = .inl z' → ∀ n, V G C F_X2_isInEachPledge 2 [some (.ref (G.2.1 + a0)), some (.int l1), some (.int z')] [] (pic G μ) n 0 0) ∧ (∀ x', y = .inr x' → ((∀ x'', x' = .inl x'' → ∀ n, V G C F_X2_isInEachPledge 38 [none, none, none] [] (pic G μ) n 0 0) ∧ (∀ x''', x' = .inr x''' → FinR G C F_X2_isInEachPledge (some .boolean) (some (.int (b2i x'''))) μ)))) : V G C F_X2_isInEachPledge 2 [some (.ref (G.2.1 + a0)), some (.int l1), some (.int l2)] [] (pic G μ) n 0 0 := by
  unfold f_X2_isInEachPledge_b2 at hf
  refine V_iload_n d_X2_isInEachPledge_2 rfl rfl ?_
  refine V_iconst (v := 2) d_X2_isInEachPledge_3 ic_2 ?_
  refine V_aload_n d_X2_isInEachPledge_4 rfl rfl ?_
  refine B_get (kLand _ ha0) fl_RX2_9 d_X2_isInEachPledge_5 g_2_0 ?_
  refine V_imul d_X2_isInEachPledge_8 ?_
  refine V_icmp_ge (tgt := 38) d_X2_isInEachPledge_9 (by decide) (fun c9 => ?_) (fun c9 => ?_)
  · replace hf := iteT c9 hf
    refine V_less (ls' := [none, none, none]) trivial ?_
    cases hf
    exact (hK.2 _ rfl).1 _ rfl _
  · replace hf := iteF c9 hf
    refine V_aload_n d_X2_isInEachPledge_12 rfl rfl ?_
    refine V_iload_n d_X2_isInEachPledge_13 rfl rfl ?_
    obtain ⟨t1, ht1, hf⟩ := ob hf
    refine B_callV1 (s_X2_isPledged hG ha0 ht1) (kLand _ ha0) clX2 m_X2_isPledged kv_RX2_106 d_X2_isInEachPledge_14 rfl (Nat.le_of_ble_eq_true rfl) ⟨rfl, rfl, Nat.le_of_ble_eq_true rfl, Nat.le_of_ble_eq_true rfl, Nat.le_of_ble_eq_true rfl⟩ (fun n => ?_)
    refine V_if_eq (tgt := 32) d_X2_isInEachPledge_17 (by decide) (fun c17 => ?_) (fun c17 => ?_)
    · replace hf := iteF (b2i_nt (b2i_eq0 c17)) hf
      refine V_less (ls' := [some _, some _, some _]) ⟨rfl, rfl, rfl, trivial⟩ ?_
      exact s_X2_isInEachPledge_j32_2 hG ha0 hf hK
    · replace hf := iteT (b2i_ne0 c17) hf
      refine V_iload_n d_X2_isInEachPledge_20 rfl rfl ?_
      refine V_aload_n d_X2_isInEachPledge_21 rfl rfl ?_
      refine V_iload_n d_X2_isInEachPledge_22 rfl rfl ?_
      obtain ⟨t2, ht2, hf⟩ := ob hf
      refine B_callV1 (s_X2_partiesOf hG ha0 ht2) (kLand _ ha0) clX2 m_X2_partiesOf kv_RX2_172 d_X2_isInEachPledge_23 rfl (Nat.le_of_ble_eq_true rfl) ⟨rfl, rfl, Nat.le_of_ble_eq_true rfl, Nat.le_of_ble_eq_true rfl, Nat.le_of_ble_eq_true rfl⟩ (fun n => ?_)
      refine V_iand d_X2_isInEachPledge_26 ?_
      refine V_if_ne (tgt := 32) d_X2_isInEachPledge_27 (by decide) (fun c27 => ?_) (fun c27 => ?_)
      · replace hf := iteF c27 hf
        refine V_less (ls' := [some _, some _, some _]) ⟨rfl, rfl, rfl, trivial⟩ ?_
        exact s_X2_isInEachPledge_j32_2 hG ha0 hf hK
      · replace hf := iteT c27 hf
        refine V_iconst (v := 0) d_X2_isInEachPledge_30 ic_0 ?_
        cases hf
        exact R_z ((hK.2 _ rfl).2 _ rfl) d_X2_isInEachPledge_31 (Nat.le_of_ble_eq_true rfl) (Nat.le_of_ble_eq_true rfl)
theorem s_X2_isInEachPledge_j38 {G : Gl} (hG : G.1.stackTraces = false) {C : Cx} {n : Nat} {μ : Mem} {a0 : Nat} (ha0 : a0 ∈ landL) {r : Bool} (hf : f_X2_isInEachPledge_j38 μ a0 = some r) (hK : FinR G C F_X2_isInEachPledge (some .boolean) (some (.int (b2i r))) μ) : V G C F_X2_isInEachPledge 38 [none, none, none] [] (pic G μ) n 0 0 := by
  unfold f_X2_isInEachPledge_j38 at hf
  refine V_iconst (v := 1) d_X2_isInEachPledge_38 ic_1 ?_
  cases hf
  exact R_z hK d_X2_isInEachPledge_39 (Nat.le_of_ble_eq_true rfl) (Nat.le_of_ble_eq_true rfl)
theorem s_X2_isInEachPledge_l2 {G : Gl} (hG : G.1.stackTraces = false) {C : Cx} {n : Nat} {μ : Mem} {a0 : Nat} {l1 : Int32} {l2 : Int32} (ha0 : a0 ∈ landL) {r : Bool} (hf : f_X2_isInEachPledge_l2 μ a0 l1 l2 = some r) (hK : FinR G C F_X2_isInEachPledge (some .boolean) (some (.int (b2i r))) μ) : V G C F_X2_isInEachPledge 2 [some (.ref (G.2.1 + a0)), some (.int l1), some (.int l2)] [] (pic G μ) n 0 0 := by
  unfold f_X2_isInEachPledge_l2 at hf
  obtain ⟨t, hl, hf⟩ := ob hf
  refine loopV (P := fun z => ∀ n, V G C F_X2_isInEachPledge 2 [some (.ref (G.2.1 + a0)), some (.int l1), some (.int z)] [] (pic G μ) n 0 0) (t := t) ?_ _ _ hl n
  intro z y' hy hI hT n
  refine s_X2_isInEachPledge_b2 hG ha0 hy ⟨hI, fun x9 ex => ?_⟩
  have ex2 := hT x9 ex
  subst ex2
  refine ⟨fun e he => ?_, fun x2 hx => ?_⟩
  · subst he
    intro n
    exact s_X2_isInEachPledge_j38 hG ha0 hf hK
  · subst hx
    cases hf
    exact hK
theorem s_X2_isInEachPledge_e {G : Gl} (hG : G.1.stackTraces = false) {C : Cx} {n : Nat} {μ : Mem} {a0 : Nat} {p1 : Int32} (ha0 : a0 ∈ landL) {r : Bool} (hf : f_X2_isInEachPledge μ a0 p1 = some r) (hK : FinR G C F_X2_isInEachPledge (some .boolean) (some (.int (b2i r))) μ) : V G C F_X2_isInEachPledge 0 [some (.ref (G.2.1 + a0)), some (.int p1), none] [] (pic G μ) n 0 0 := by
  unfold f_X2_isInEachPledge at hf
  refine V_iconst (v := 0) d_X2_isInEachPledge_0 ic_0 ?_
  refine V_istore_n (ls' := [_, _, _]) d_X2_isInEachPledge_1 rfl rfl rfl ?_
  refine V_less (ls' := [some _, some _, some _]) ⟨rfl, rfl, rfl, trivial⟩ ?_
  exact s_X2_isInEachPledge_l2 hG ha0 hf hK
theorem s_X2_isInEachPledge {G : Gl} (hG : G.1.stackTraces = false) {μ : Mem} {a0 : Nat} {p1 : Int32} (ha0 : a0 ∈ landL) {r : Bool} (hf : f_X2_isInEachPledge μ a0 p1 = some r) : Rt G yX2_isInEachPledge F_X2_isInEachPledge (some .boolean) [.ref (G.2.1 + a0), .int p1] μ (some (.int (b2i r))) μ := fun n => Sd.of hG ⟨by decide +kernel, rfl, rfl⟩ rfl (Nat.le_of_ble_eq_true rfl) rfl (fun C hK => s_X2_isInEachPledge_e hG ha0 hf hK)
theorem d_X8_runOf_0 : decode cX8_runOf 0 = .ok (.aload_n 0, 1) := by decide +kernel
theorem d_X8_runOf_1 : decode cX8_runOf 1 = .ok (.getfield 22, 3) := by decide +kernel
theorem d_X8_runOf_4 : decode cX8_runOf 4 = .ok (.istore_n 3, 1) := by decide +kernel
theorem d_X8_runOf_5 : decode cX8_runOf 5 = .ok (.iload_n 3, 1) := by decide +kernel
theorem d_X8_runOf_6 : decode cX8_runOf 6 = .ok (.aload_n 0, 1) := by decide +kernel
theorem d_X8_runOf_7 : decode cX8_runOf 7 = .ok (.getfield 19, 3) := by decide +kernel
theorem d_X8_runOf_10 : decode cX8_runOf 10 = .ok (.if_icmp .ge 29, 3) := by decide +kernel
theorem d_X8_runOf_13 : decode cX8_runOf 13 = .ok (.aload_n 0, 1) := by decide +kernel
theorem d_X8_runOf_14 : decode cX8_runOf 14 = .ok (.getfield 9, 3) := by decide +kernel
theorem d_X8_runOf_17 : decode cX8_runOf 17 = .ok (.iload_n 3, 1) := by decide +kernel
theorem d_X8_runOf_18 : decode cX8_runOf 18 = .ok (.iaload, 1) := by decide +kernel
theorem d_X8_runOf_19 : decode cX8_runOf 19 = .ok (.iload_n 1, 1) := by decide +kernel
theorem d_X8_runOf_20 : decode cX8_runOf 20 = .ok (.if_icmp .lt 19, 3) := by decide +kernel
theorem d_X8_runOf_23 : decode cX8_runOf 23 = .ok (.aload_n 0, 1) := by decide +kernel
theorem d_X8_runOf_24 : decode cX8_runOf 24 = .ok (.getfield 9, 3) := by decide +kernel
theorem d_X8_runOf_27 : decode cX8_runOf 27 = .ok (.iload_n 3, 1) := by decide +kernel
theorem d_X8_runOf_28 : decode cX8_runOf 28 = .ok (.iaload, 1) := by decide +kernel
theorem d_X8_runOf_29 : decode cX8_runOf 29 = .ok (.iload_n 2, 1) := by decide +kernel
theorem d_X8_runOf_30 : decode cX8_runOf 30 = .ok (.if_icmp .gt 9, 3) := by decide +kernel
theorem d_X8_runOf_33 : decode cX8_runOf 33 = .ok (.iinc 3 1, 3) := by decide +kernel
theorem d_X8_runOf_36 : decode cX8_runOf 36 = .ok (.goto (-31), 3) := by decide +kernel
theorem d_X8_runOf_39 : decode cX8_runOf 39 = .ok (.iload_n 3, 1) := by decide +kernel
theorem d_X8_runOf_40 : decode cX8_runOf 40 = .ok (.aload_n 0, 1) := by decide +kernel
theorem d_X8_runOf_41 : decode cX8_runOf 41 = .ok (.getfield 22, 3) := by decide +kernel
theorem d_X8_runOf_44 : decode cX8_runOf 44 = .ok (.isub, 1) := by decide +kernel
theorem d_X8_runOf_45 : decode cX8_runOf 45 = .ok (.ireturn, 1) := by decide +kernel
theorem s_X8_runOf_b5 {G : Gl} (hG : G.1.stackTraces = false) {C : Cx} {n : Nat} {μ : Mem} {l1 : Int32} {l2 : Int32} {l3 : Int32} {y : (Int32 ⊕ Int32)} (hf : f_X8_runOf_b5 μ l1 l2 l3 = some y) (hK : (∀ z', y = .inl z' → ∀ n, V G C F_X8_runOf 5 [some (.ref (G.2.1 + 1)), some (.int l1), some (.int l2), some (.int z')] [] (pic G μ) n 0 0) ∧ (∀ x', y = .inr x' → ∀ n, V G C F_X8_runOf 39 [some (.ref (G.2.1 + 1)), none, none, some (.int x')] [] (pic G μ) n 0 0)) : V G C F_X8_runOf 5 [some (.ref (G.2.1 + 1)), some (.int l1), some (.int l2), some (.int l3)] [] (pic G μ) n 0 0 := by
  unfold f_X8_runOf_b5 at hf
  refine V_iload_n d_X8_runOf_5 rfl rfl ?_
  refine V_aload_n d_X8_runOf_6 rfl rfl ?_
  refine B_get k_1 fl_RX8_19 d_X8_runOf_7 g_8_2 ?_
  refine V_icmp_ge (tgt := 39) d_X8_runOf_10 (by decide) (fun c10 => ?_) (fun c10 => ?_)
  · replace hf := iteT c10 hf
    refine V_less (ls' := [some _, none, none, some _]) ⟨rfl, rfl, trivial⟩ ?_
    cases hf
    exact hK.2 _ rfl _
  · replace hf := iteF c10 hf
    refine V_aload_n d_X8_runOf_13 rfl rfl ?_
    refine B_get k_1 fl_RX8_9 d_X8_runOf_14 g_8_0 ?_
    refine V_iload_n d_X8_runOf_17 rfl rfl ?_
    obtain ⟨t1, ht1, hf⟩ := ob hf
    refine B_iald k_2 ht1 d_X8_runOf_18 ?_
    refine V_iload_n d_X8_runOf_19 rfl rfl ?_
    refine V_icmp_lt (tgt := 39) d_X8_runOf_20 (by decide) (fun c20 => ?_) (fun c20 => ?_)
    · replace hf := iteT c20 hf
      refine V_less (ls' := [some _, none, none, some _]) ⟨rfl, rfl, trivial⟩ ?_
      cases hf
      exact hK.2 _ rfl _
    · replace hf := iteF c20 hf
      refine V_aload_n d_X8_runOf_23 rfl rfl ?_
      refine B_get k_1 fl_RX8_9 d_X8_runOf_24 g_8_0 ?_
      refine V_iload_n d_X8_runOf_27 rfl rfl ?_
      obtain ⟨t2, ht2, hf⟩ := ob hf
      refine B_iald k_2 ht2 d_X8_runOf_28 ?_
      refine V_iload_n d_X8_runOf_29 rfl rfl ?_
      refine V_icmp_gt (tgt := 39) d_X8_runOf_30 (by decide) (fun c30 => ?_) (fun c30 => ?_)
      · replace hf := iteT c30 hf
        refine V_less (ls' := [some _, none, none, some _]) ⟨rfl, rfl, trivial⟩ ?_
        cases hf
        exact hK.2 _ rfl _
      · replace hf := iteF c30 hf
        refine V_iinc (v := (l3 + 1)) (ls' := [_, _, _, _]) d_X8_runOf_33 rfl (by rw [ic_1]) rfl ?_
        refine V_goto (tgt := 5) d_X8_runOf_36 (by decide) ?_
        refine V_less (ls' := [some _, some _, some _, some _]) ⟨rfl, rfl, rfl, rfl, trivial⟩ ?_
        cases hf
        exact hK.1 _ rfl _
theorem s_X8_runOf_j39 {G : Gl} (hG : G.1.stackTraces = false) {C : Cx} {n : Nat} {μ : Mem} {l3 : Int32} {r : Int32} (hf : f_X8_runOf_j39 μ l3 = some r) (hK : FinR G C F_X8_runOf (some .int) (some (.int r)) μ) : V G C F_X8_runOf 39 [some (.ref (G.2.1 + 1)), none, none, some (.int l3)] [] (pic G μ) n 0 0 := by
  unfold f_X8_runOf_j39 at hf
  refine V_iload_n d_X8_runOf_39 rfl rfl ?_
  refine V_aload_n d_X8_runOf_40 rfl rfl ?_
  refine B_get k_1 fl_RX8_22 d_X8_runOf_41 g_8_3 ?_
  refine V_isub d_X8_runOf_44 ?_
  cases hf
  exact R_i hK d_X8_runOf_45 (Nat.le_of_ble_eq_true rfl) (Nat.le_of_ble_eq_true rfl)
theorem s_X8_runOf_l5 {G : Gl} (hG : G.1.stackTraces = false) {C : Cx} {n : Nat} {μ : Mem} {l1 : Int32} {l2 : Int32} {l3 : Int32} {r : Int32} (hf : f_X8_runOf_l5 μ l1 l2 l3 = some r) (hK : FinR G C F_X8_runOf (some .int) (some (.int r)) μ) : V G C F_X8_runOf 5 [some (.ref (G.2.1 + 1)), some (.int l1), some (.int l2), some (.int l3)] [] (pic G μ) n 0 0 := by
  unfold f_X8_runOf_l5 at hf
  obtain ⟨t, hl, hf⟩ := ob hf
  refine loopV (P := fun z => ∀ n, V G C F_X8_runOf 5 [some (.ref (G.2.1 + 1)), some (.int l1), some (.int l2), some (.int z)] [] (pic G μ) n 0 0) (t := t) ?_ _ _ hl n
  intro z y' hy hI hT n
  refine s_X8_runOf_b5 hG hy ⟨hI, fun x9 ex => ?_⟩
  have ex2 := hT x9 ex
  subst ex2
  intro n
  exact s_X8_runOf_j39 hG hf hK
theorem s_X8_runOf_e {G : Gl} (hG : G.1.stackTraces = false) {C : Cx} {n : Nat} {μ : Mem} {p1 : Int32} {p2 : Int32} {r : Int32} (hf : f_X8_runOf μ p1 p2 = some r) (hK : FinR G C F_X8_runOf (some .int) (some (.int r)) μ) : V G C F_X8_runOf 0 [some (.ref (G.2.1 + 1)), some (.int p1), some (.int p2), none] [] (pic G μ) n 0 0 := by
  unfold f_X8_runOf at hf
  refine V_aload_n d_X8_runOf_0 rfl rfl ?_
  refine B_get k_1 fl_RX8_22 d_X8_runOf_1 g_8_3 ?_
  refine V_istore_n (ls' := [_, _, _, _]) d_X8_runOf_4 rfl rfl rfl ?_
  refine V_less (ls' := [some _, some _, some _, some _]) ⟨rfl, rfl, rfl, rfl, trivial⟩ ?_
  exact s_X8_runOf_l5 hG hf hK
theorem s_X8_runOf {G : Gl} (hG : G.1.stackTraces = false) {μ : Mem} {p1 : Int32} {p2 : Int32} {r : Int32} (hf : f_X8_runOf μ p1 p2 = some r) : Rt G yX8_runOf F_X8_runOf (some .int) [.ref (G.2.1 + 1), .int p1, .int p2] μ (some (.int r)) μ := fun n => Sd.of hG ⟨by decide +kernel, rfl, rfl⟩ rfl (Nat.le_of_ble_eq_true rfl) rfl (fun C hK => s_X8_runOf_e hG hf hK)
theorem d_X8_moveTo_0 : decode cX8_moveTo 0 = .ok (.aload_n 0, 1) := by decide +kernel
theorem d_X8_moveTo_1 : decode cX8_moveTo 1 = .ok (.iload_n 1, 1) := by decide +kernel
theorem d_X8_moveTo_2 : decode cX8_moveTo 2 = .ok (.putfield 22, 3) := by decide +kernel
theorem d_X8_moveTo_5 : decode cX8_moveTo 5 = .ok (.aload_n 0, 1) := by decide +kernel
theorem d_X8_moveTo_6 : decode cX8_moveTo 6 = .ok (.getfield 22, 3) := by decide +kernel
theorem d_X8_moveTo_9 : decode cX8_moveTo 9 = .ok (.aload_n 0, 1) := by decide +kernel
theorem d_X8_moveTo_10 : decode cX8_moveTo 10 = .ok (.getfield 19, 3) := by decide +kernel
theorem d_X8_moveTo_13 : decode cX8_moveTo 13 = .ok (.if_icmp .ge 30, 3) := by decide +kernel
theorem d_X8_moveTo_16 : decode cX8_moveTo 16 = .ok (.aload_n 0, 1) := by decide +kernel
theorem d_X8_moveTo_17 : decode cX8_moveTo 17 = .ok (.getfield 9, 3) := by decide +kernel
theorem d_X8_moveTo_20 : decode cX8_moveTo 20 = .ok (.aload_n 0, 1) := by decide +kernel
theorem d_X8_moveTo_21 : decode cX8_moveTo 21 = .ok (.getfield 22, 3) := by decide +kernel
theorem d_X8_moveTo_24 : decode cX8_moveTo 24 = .ok (.iaload, 1) := by decide +kernel
theorem d_X8_moveTo_25 : decode cX8_moveTo 25 = .ok (.bipush 32, 2) := by decide +kernel
theorem d_X8_moveTo_27 : decode cX8_moveTo 27 = .ok (.if_icmp .ne 16, 3) := by decide +kernel
theorem d_X8_moveTo_30 : decode cX8_moveTo 30 = .ok (.aload_n 0, 1) := by decide +kernel
theorem d_X8_moveTo_31 : decode cX8_moveTo 31 = .ok (.dup, 1) := by decide +kernel
theorem d_X8_moveTo_32 : decode cX8_moveTo 32 = .ok (.getfield 22, 3) := by decide +kernel
theorem d_X8_moveTo_35 : decode cX8_moveTo 35 = .ok (.iconst 1, 1) := by decide +kernel
theorem d_X8_moveTo_36 : decode cX8_moveTo 36 = .ok (.iadd, 1) := by decide +kernel
theorem d_X8_moveTo_37 : decode cX8_moveTo 37 = .ok (.putfield 22, 3) := by decide +kernel
theorem d_X8_moveTo_40 : decode cX8_moveTo 40 = .ok (.goto (-35), 3) := by decide +kernel
theorem d_X8_moveTo_43 : decode cX8_moveTo 43 = .ok (.return_, 1) := by decide +kernel
theorem s_X8_moveTo_b5 {G : Gl} (hG : G.1.stackTraces = false) {C : Cx} {n : Nat} {μ : Mem}  {y : (Mem ⊕ Mem)} (hf : f_X8_moveTo_b5 μ = some y) (hK : (∀ z', y = .inl z' → ∀ n, V G C F_X8_moveTo 5 [some (.ref (G.2.1 + 1)), none] [] (pic G z') n 0 0) ∧ (∀ x', y = .inr x' → ∀ n, V G C F_X8_moveTo 43 [none, none] [] (pic G x') n 0 0)) : V G C F_X8_moveTo 5 [some (.ref (G.2.1 + 1)), none] [] (pic G μ) n 0 0 := by
  unfold f_X8_moveTo_b5 at hf
  refine V_aload_n d_X8_moveTo_5 rfl rfl ?_
  refine B_get k_1 fl_RX8_22 d_X8_moveTo_6 g_8_3 ?_
  refine V_aload_n d_X8_moveTo_9 rfl rfl ?_
  refine B_get k_1 fl_RX8_19 d_X8_moveTo_10 g_8_2 ?_
  refine V_icmp_ge (tgt := 43) d_X8_moveTo_13 (by decide) (fun c13 => ?_) (fun c13 => ?_)
  · replace hf := iteT c13 hf
    refine V_less (ls' := [none, none]) trivial ?_
    cases hf
    exact hK.2 _ rfl _
  · replace hf := iteF c13 hf
    refine V_aload_n d_X8_moveTo_16 rfl rfl ?_
    refine B_get k_1 fl_RX8_9 d_X8_moveTo_17 g_8_0 ?_
    refine V_aload_n d_X8_moveTo_20 rfl rfl ?_
    refine B_get k_1 fl_RX8_22 d_X8_moveTo_21 g_8_3 ?_
    obtain ⟨t1, ht1, hf⟩ := ob hf
    refine B_iald k_2 ht1 d_X8_moveTo_24 ?_
    refine V_bipush (v := 32) d_X8_moveTo_25 bp_32 ?_
    refine V_icmp_ne (tgt := 43) d_X8_moveTo_27 (by decide) (fun c27 => ?_) (fun c27 => ?_)
    · replace hf := iteF c27 hf
      refine V_less (ls' := [none, none]) trivial ?_
      cases hf
      exact hK.2 _ rfl _
    · replace hf := iteT c27 hf
      refine V_aload_n d_X8_moveTo_30 rfl rfl ?_
      refine V_dup d_X8_moveTo_31 rfl ?_
      refine B_get k_1 fl_RX8_22 d_X8_moveTo_32 g_8_3 ?_
      refine V_iconst (v := 1) d_X8_moveTo_35 ic_1 ?_
      refine V_iadd d_X8_moveTo_36 ?_
      refine B_putI k_1 fl_RX8_22 pt_8_3 (Nat.le_of_ble_eq_true rfl) p_8_3 d_X8_moveTo_37 ?_
      refine V_goto (tgt := 5) d_X8_moveTo_40 (by decide) ?_
      refine V_less (ls' := [some _, none]) ⟨rfl, trivial⟩ ?_
      cases hf
      exact hK.1 _ rfl _
theorem s_X8_moveTo_j43 {G : Gl} (hG : G.1.stackTraces = false) {C : Cx} {n : Nat} {μ : Mem}  {r : Mem} (hf : f_X8_moveTo_j43 μ = some r) (hK : FinR G C F_X8_moveTo none none r) : V G C F_X8_moveTo 43 [none, none] [] (pic G μ) n 0 0 := by
  unfold f_X8_moveTo_j43 at hf
  cases hf
  exact R_v hK d_X8_moveTo_43 (Nat.le_of_ble_eq_true rfl) (Nat.le_of_ble_eq_true rfl)
theorem s_X8_moveTo_l5 {G : Gl} (hG : G.1.stackTraces = false) {C : Cx} {n : Nat} {μ : Mem}  {r : Mem} (hf : f_X8_moveTo_l5 μ = some r) (hK : FinR G C F_X8_moveTo none none r) : V G C F_X8_moveTo 5 [some (.ref (G.2.1 + 1)), none] [] (pic G μ) n 0 0 := by
  unfold f_X8_moveTo_l5 at hf
  obtain ⟨t, hl, hf⟩ := ob hf
  refine loopV (P := fun z => ∀ n, V G C F_X8_moveTo 5 [some (.ref (G.2.1 + 1)), none] [] (pic G z) n 0 0) (t := t) ?_ _ _ hl n
  intro z y' hy hI hT n
  refine s_X8_moveTo_b5 hG hy ⟨hI, fun x9 ex => ?_⟩
  have ex2 := hT x9 ex
  subst ex2
  intro n
  exact s_X8_moveTo_j43 hG hf hK
theorem s_X8_moveTo_e {G : Gl} (hG : G.1.stackTraces = false) {C : Cx} {n : Nat} {μ : Mem} {p1 : Int32} {r : Mem} (hf : f_X8_moveTo μ p1 = some r) (hK : FinR G C F_X8_moveTo none none r) : V G C F_X8_moveTo 0 [some (.ref (G.2.1 + 1)), some (.int p1)] [] (pic G μ) n 0 0 := by
  unfold f_X8_moveTo at hf
  refine V_aload_n d_X8_moveTo_0 rfl rfl ?_
  refine V_iload_n d_X8_moveTo_1 rfl rfl ?_
  refine B_putI k_1 fl_RX8_22 pt_8_3 (Nat.le_of_ble_eq_true rfl) p_8_3 d_X8_moveTo_2 ?_
  refine V_less (ls' := [some _, none]) ⟨rfl, trivial⟩ ?_
  exact s_X8_moveTo_l5 hG hf hK
theorem s_X8_moveTo {G : Gl} (hG : G.1.stackTraces = false) {μ : Mem} {p1 : Int32} {r : Mem} (hf : f_X8_moveTo μ p1 = some r) : Rt G yX8_moveTo F_X8_moveTo none [.ref (G.2.1 + 1), .int p1] μ none r := fun n => Sd.of hG ⟨by decide +kernel, rfl, rfl⟩ rfl (Nat.le_of_ble_eq_true rfl) rfl (fun C hK => s_X8_moveTo_e hG hf hK)
theorem d_X8_takesWord_0 : decode cX8_takesWord 0 = .ok (.aload_n 0, 1) := by decide +kernel
theorem d_X8_takesWord_1 : decode cX8_takesWord 1 = .ok (.bipush 97, 2) := by decide +kernel
theorem d_X8_takesWord_3 : decode cX8_takesWord 3 = .ok (.bipush 122, 2) := by decide +kernel
theorem d_X8_takesWord_5 : decode cX8_takesWord 5 = .ok (.invokevirtual 36, 3) := by decide +kernel
theorem d_X8_takesWord_8 : decode cX8_takesWord 8 = .ok (.istore_n 2, 1) := by decide +kernel
theorem d_X8_takesWord_9 : decode cX8_takesWord 9 = .ok (.aload_n 0, 1) := by decide +kernel
theorem d_X8_takesWord_10 : decode cX8_takesWord 10 = .ok (.getfield 25, 3) := by decide +kernel
theorem d_X8_takesWord_13 : decode cX8_takesWord 13 = .ok (.iconst (-1), 1) := by decide +kernel
theorem d_X8_takesWord_14 : decode cX8_takesWord 14 = .ok (.if_icmp .ne 11, 3) := by decide +kernel
theorem d_X8_takesWord_17 : decode cX8_takesWord 17 = .ok (.iload_n 2, 1) := by decide +kernel
theorem d_X8_takesWord_18 : decode cX8_takesWord 18 = .ok (.aload_n 1, 1) := by decide +kernel
theorem d_X8_takesWord_19 : decode cX8_takesWord 19 = .ok (.invokevirtual 40, 3) := by decide +kernel
theorem d_X8_takesWord_22 : decode cX8_takesWord 22 = .ok (.if_icmp .eq 5, 3) := by decide +kernel
theorem d_X8_takesWord_25 : decode cX8_takesWord 25 = .ok (.iconst 0, 1) := by decide +kernel
theorem d_X8_takesWord_26 : decode cX8_takesWord 26 = .ok (.ireturn, 1) := by decide +kernel
theorem d_X8_takesWord_27 : decode cX8_takesWord 27 = .ok (.iconst 0, 1) := by decide +kernel
theorem d_X8_takesWord_28 : decode cX8_takesWord 28 = .ok (.istore_n 3, 1) := by decide +kernel
theorem d_X8_takesWord_29 : decode cX8_takesWord 29 = .ok (.iload_n 3, 1) := by decide +kernel
theorem d_X8_takesWord_30 : decode cX8_takesWord 30 = .ok (.iload_n 2, 1) := by decide +kernel
theorem d_X8_takesWord_31 : decode cX8_takesWord 31 = .ok (.if_icmp .ge 30, 3) := by decide +kernel
theorem d_X8_takesWord_34 : decode cX8_takesWord 34 = .ok (.aload_n 0, 1) := by decide +kernel
theorem d_X8_takesWord_35 : decode cX8_takesWord 35 = .ok (.getfield 9, 3) := by decide +kernel
theorem d_X8_takesWord_38 : decode cX8_takesWord 38 = .ok (.aload_n 0, 1) := by decide +kernel
theorem d_X8_takesWord_39 : decode cX8_takesWord 39 = .ok (.getfield 22, 3) := by decide +kernel
theorem d_X8_takesWord_42 : decode cX8_takesWord 42 = .ok (.iload_n 3, 1) := by decide +kernel
theorem d_X8_takesWord_43 : decode cX8_takesWord 43 = .ok (.iadd, 1) := by decide +kernel
theorem d_X8_takesWord_44 : decode cX8_takesWord 44 = .ok (.iaload, 1) := by decide +kernel
theorem d_X8_takesWord_45 : decode cX8_takesWord 45 = .ok (.aload_n 1, 1) := by decide +kernel
theorem d_X8_takesWord_46 : decode cX8_takesWord 46 = .ok (.iload_n 3, 1) := by decide +kernel
theorem d_X8_takesWord_47 : decode cX8_takesWord 47 = .ok (.invokevirtual 44, 3) := by decide +kernel
theorem d_X8_takesWord_50 : decode cX8_takesWord 50 = .ok (.if_icmp .eq 5, 3) := by decide +kernel
theorem d_X8_takesWord_53 : decode cX8_takesWord 53 = .ok (.iconst 0, 1) := by decide +kernel
theorem d_X8_takesWord_54 : decode cX8_takesWord 54 = .ok (.ireturn, 1) := by decide +kernel
theorem d_X8_takesWord_55 : decode cX8_takesWord 55 = .ok (.iinc 3 1, 3) := by decide +kernel
theorem d_X8_takesWord_58 : decode cX8_takesWord 58 = .ok (.goto (-29), 3) := by decide +kernel
theorem d_X8_takesWord_61 : decode cX8_takesWord 61 = .ok (.aload_n 0, 1) := by decide +kernel
theorem d_X8_takesWord_62 : decode cX8_takesWord 62 = .ok (.aload_n 0, 1) := by decide +kernel
theorem d_X8_takesWord_63 : decode cX8_takesWord 63 = .ok (.getfield 22, 3) := by decide +kernel
theorem d_X8_takesWord_66 : decode cX8_takesWord 66 = .ok (.iload_n 2, 1) := by decide +kernel
theorem d_X8_takesWord_67 : decode cX8_takesWord 67 = .ok (.iadd, 1) := by decide +kernel
theorem d_X8_takesWord_68 : decode cX8_takesWord 68 = .ok (.invokevirtual 32, 3) := by decide +kernel
theorem d_X8_takesWord_71 : decode cX8_takesWord 71 = .ok (.iconst 1, 1) := by decide +kernel
theorem d_X8_takesWord_72 : decode cX8_takesWord 72 = .ok (.ireturn, 1) := by decide +kernel
theorem s_X8_takesWord_j25 {G : Gl} (hG : G.1.stackTraces = false) {C : Cx} {n : Nat} {μ : Mem} {s1 : Nat} (hs1 : s1 < nS_n) {r : (Bool × Mem)} (hf : f_X8_takesWord_j25 μ s1 = some r) (hK : FinR G C F_X8_takesWord (some .boolean) (some (.int (b2i r.1))) r.2) : V G C F_X8_takesWord 25 [none, none, none, none] [] (pic G μ) n 0 0 := by
  unfold f_X8_takesWord_j25 at hf
  refine V_iconst (v := 0) d_X8_takesWord_25 ic_0 ?_
  cases hf
  exact R_z hK d_X8_takesWord_26 (Nat.le_of_ble_eq_true rfl) (Nat.le_of_ble_eq_true rfl)
theorem s_X8_takesWord_b29 {G : Gl} (hG : G.1.stackTraces = false) {C : Cx} {n : Nat} {μ : Mem} {s1 : Nat} {l2 : Int32} {l3 : Int32} (hs1 : s1 < nS_n) {y : (Int32 ⊕ (Unit ⊕ (Bool × Mem)))} (hf : f_X8_takesWord_b29 μ s1 l2 l3 = some y) (hK : (∀ z', y = .inl z' → ∀ n, V G C F_X8_takesWord 29 [some (.ref (G.2.1 + 1)), some (.ref (G.2.2.2.2.1 s1)), some (.int l2), some (.int z')] [] (pic G μ) n 0 0) ∧ (∀ x', y = .inr x' → ((∀ x'', x' = .inl x'' → ∀ n, V G C F_X8_takesWord 61 [some (.ref (G.2.1 + 1)), none, some (.int l2), none] [] (pic G μ) n 0 0) ∧ (∀ x''', x' = .inr x''' → FinR G C F_X8_takesWord (some .boolean) (some (.int (b2i x'''.1))) x'''.2)))) : V G C F_X8_takesWord 29 [some (.ref (G.2.1 + 1)), some (.ref (G.2.2.2.2.1 s1)), some (.int l2), some (.int l3)] [] (pic G μ) n 0 0 := by
  unfold f_X8_takesWord_b29 at hf
  refine V_iload_n d_X8_takesWord_29 rfl rfl ?_
  refine V_iload_n d_X8_takesWord_30 rfl rfl ?_
  refine V_icmp_ge (tgt := 61) d_X8_takesWord_31 (by decide) (fun c31 => ?_) (fun c31 => ?_)
  · replace hf := iteT c31 hf
    refine V_less (ls' := [some _, none, some _, none]) ⟨rfl, rfl, trivial⟩ ?_
    cases hf
    exact (hK.2 _ rfl).1 _ rfl _
  · replace hf := iteF c31 hf
    refine V_aload_n d_X8_takesWord_34 rfl rfl ?_
    refine B_get k_1 fl_RX8_9 d_X8_takesWord_35 g_8_0 ?_
    refine V_aload_n d_X8_takesWord_38 rfl rfl ?_
    refine B_get k_1 fl_RX8_22 d_X8_takesWord_39 g_8_3 ?_
    refine V_iload_n d_X8_takesWord_42 rfl rfl ?_
    refine V_iadd d_X8_takesWord_43 ?_
    obtain ⟨t1, ht1, hf⟩ := ob hf
    refine B_iald k_2 ht1 d_X8_takesWord_44 ?_
    refine V_aload_n d_X8_takesWord_45 rfl rfl ?_
    refine V_iload_n d_X8_takesWord_46 rfl rfl ?_
    obtain ⟨t2, ht2, hf⟩ := ob hf
    refine B_schar hG hs1 ht2 kv_RX8_44 d_X8_takesWord_47 ⟨Nat.le_of_ble_eq_true rfl, Nat.le_of_ble_eq_true rfl, Nat.le_of_ble_eq_true rfl⟩ (Nat.le_of_ble_eq_true rfl) (fun n => ?_)
    refine V_icmp_eq (tgt := 55) d_X8_takesWord_50 (by decide) (fun c50 => ?_) (fun c50 => ?_)
    · replace hf := iteT c50 hf
      refine V_iinc (v := (l3 + 1)) (ls' := [_, _, _, _]) d_X8_takesWord_55 rfl (by rw [ic_1]) rfl ?_
      refine V_goto (tgt := 29) d_X8_takesWord_58 (by decide) ?_
      refine V_less (ls' := [some _, some _, some _, some _]) ⟨rfl, rfl, rfl, rfl, trivial⟩ ?_
      cases hf
      exact hK.1 _ rfl _
    · replace hf := iteF c50 hf
      refine V_iconst (v := 0) d_X8_takesWord_53 ic_0 ?_
      cases hf
      exact R_z ((hK.2 _ rfl).2 _ rfl) d_X8_takesWord_54 (Nat.le_of_ble_eq_true rfl) (Nat.le_of_ble_eq_true rfl)
theorem s_X8_takesWord_j61 {G : Gl} (hG : G.1.stackTraces = false) {C : Cx} {n : Nat} {μ : Mem} {s1 : Nat} {l2 : Int32} (hs1 : s1 < nS_n) {r : (Bool × Mem)} (hf : f_X8_takesWord_j61 μ s1 l2 = some r) (hK : FinR G C F_X8_takesWord (some .boolean) (some (.int (b2i r.1))) r.2) : V G C F_X8_takesWord 61 [some (.ref (G.2.1 + 1)), none, some (.int l2), none] [] (pic G μ) n 0 0 := by
  unfold f_X8_takesWord_j61 at hf
  refine V_aload_n d_X8_takesWord_61 rfl rfl ?_
  refine V_aload_n d_X8_takesWord_62 rfl rfl ?_
  refine B_get k_1 fl_RX8_22 d_X8_takesWord_63 g_8_3 ?_
  refine V_iload_n d_X8_takesWord_66 rfl rfl ?_
  refine V_iadd d_X8_takesWord_67 ?_
  obtain ⟨q1, hq1, hf⟩ := ob hf
  refine B_callV0 (s_X8_moveTo hG hq1) k_1 clX8 m_X8_moveTo kv_RX8_32 d_X8_takesWord_68 rfl (Nat.le_of_ble_eq_true rfl) ⟨rfl, rfl, Nat.le_of_ble_eq_true rfl, Nat.le_of_ble_eq_true rfl, Nat.le_of_ble_eq_true rfl⟩ (fun n => ?_)
  refine V_iconst (v := 1) d_X8_takesWord_71 ic_1 ?_
  cases hf
  exact R_z hK d_X8_takesWord_72 (Nat.le_of_ble_eq_true rfl) (Nat.le_of_ble_eq_true rfl)
theorem s_X8_takesWord_l29 {G : Gl} (hG : G.1.stackTraces = false) {C : Cx} {n : Nat} {μ : Mem} {s1 : Nat} {l2 : Int32} {l3 : Int32} (hs1 : s1 < nS_n) {r : (Bool × Mem)} (hf : f_X8_takesWord_l29 μ s1 l2 l3 = some r) (hK : FinR G C F_X8_takesWord (some .boolean) (some (.int (b2i r.1))) r.2) : V G C F_X8_takesWord 29 [some (.ref (G.2.1 + 1)), some (.ref (G.2.2.2.2.1 s1)), some (.int l2), some (.int l3)] [] (pic G μ) n 0 0 := by
  unfold f_X8_takesWord_l29 at hf
  obtain ⟨t, hl, hf⟩ := ob hf
  refine loopV (P := fun z => ∀ n, V G C F_X8_takesWord 29 [some (.ref (G.2.1 + 1)), some (.ref (G.2.2.2.2.1 s1)), some (.int l2), some (.int z)] [] (pic G μ) n 0 0) (t := t) ?_ _ _ hl n
  intro z y' hy hI hT n
  refine s_X8_takesWord_b29 hG hs1 hy ⟨hI, fun x9 ex => ?_⟩
  have ex2 := hT x9 ex
  subst ex2
  refine ⟨fun e he => ?_, fun x2 hx => ?_⟩
  · subst he
    intro n
    exact s_X8_takesWord_j61 hG hs1 hf hK
  · subst hx
    cases hf
    exact hK
theorem s_X8_takesWord_e {G : Gl} (hG : G.1.stackTraces = false) {C : Cx} {n : Nat} {μ : Mem} {s1 : Nat} (hs1 : s1 < nS_n) {r : (Bool × Mem)} (hf : f_X8_takesWord μ s1 = some r) (hK : FinR G C F_X8_takesWord (some .boolean) (some (.int (b2i r.1))) r.2) : V G C F_X8_takesWord 0 [some (.ref (G.2.1 + 1)), some (.ref (G.2.2.2.2.1 s1)), none, none] [] (pic G μ) n 0 0 := by
  unfold f_X8_takesWord at hf
  refine V_aload_n d_X8_takesWord_0 rfl rfl ?_
  refine V_bipush (v := 97) d_X8_takesWord_1 bp_97 ?_
  refine V_bipush (v := 122) d_X8_takesWord_3 bp_122 ?_
  obtain ⟨t1, ht1, hf⟩ := ob hf
  refine B_callV1 (s_X8_runOf hG ht1) k_1 clX8 m_X8_runOf kv_RX8_36 d_X8_takesWord_5 rfl (Nat.le_of_ble_eq_true rfl) ⟨rfl, rfl, Nat.le_of_ble_eq_true rfl, Nat.le_of_ble_eq_true rfl, Nat.le_of_ble_eq_true rfl⟩ (fun n => ?_)
  refine V_istore_n (ls' := [_, _, _, _]) d_X8_takesWord_8 rfl rfl rfl ?_
  refine V_aload_n d_X8_takesWord_9 rfl rfl ?_
  refine B_get k_1 fl_RX8_25 d_X8_takesWord_10 g_8_4 ?_
  refine V_iconst (v := (-1)) d_X8_takesWord_13 ic_m1 ?_
  refine V_icmp_ne (tgt := 25) d_X8_takesWord_14 (by decide) (fun c14 => ?_) (fun c14 => ?_)
  · replace hf := iteF c14 hf
    refine V_less (ls' := [none, none, none, none]) trivial ?_
    exact s_X8_takesWord_j25 hG hs1 hf hK
  · replace hf := iteT c14 hf
    refine V_iload_n d_X8_takesWord_17 rfl rfl ?_
    refine V_aload_n d_X8_takesWord_18 rfl rfl ?_
    refine B_slen hG hs1 kv_RX8_40 d_X8_takesWord_19 ⟨Nat.le_of_ble_eq_true rfl, Nat.le_of_ble_eq_true rfl, Nat.le_of_ble_eq_true rfl⟩ (Nat.le_of_ble_eq_true rfl) (fun n => ?_)
    refine V_icmp_eq (tgt := 27) d_X8_takesWord_22 (by decide) (fun c22 => ?_) (fun c22 => ?_)
    · replace hf := iteT c22 hf
      refine V_iconst (v := 0) d_X8_takesWord_27 ic_0 ?_
      refine V_istore_n (ls' := [_, _, _, _]) d_X8_takesWord_28 rfl rfl rfl ?_
      refine V_less (ls' := [some _, some _, some _, some _]) ⟨rfl, rfl, rfl, rfl, trivial⟩ ?_
      exact s_X8_takesWord_l29 hG hs1 hf hK
    · replace hf := iteF c22 hf
      refine V_less (ls' := [none, none, none, none]) trivial ?_
      exact s_X8_takesWord_j25 hG hs1 hf hK
theorem s_X8_takesWord {G : Gl} (hG : G.1.stackTraces = false) {μ : Mem} {s1 : Nat} (hs1 : s1 < nS_n) {r : (Bool × Mem)} (hf : f_X8_takesWord μ s1 = some r) : Rt G yX8_takesWord F_X8_takesWord (some .boolean) [.ref (G.2.1 + 1), .ref (G.2.2.2.2.1 s1)] μ (some (.int (b2i r.1))) r.2 := fun n => Sd.of hG ⟨by decide +kernel, rfl, rfl⟩ rfl (Nat.le_of_ble_eq_true rfl) rfl (fun C hK => s_X8_takesWord_e hG hs1 hf hK)
theorem d_X8_refuse_0 : decode cX8_refuse 0 = .ok (.aload_n 0, 1) := by decide +kernel
theorem d_X8_refuse_1 : decode cX8_refuse 1 = .ok (.getfield 25, 3) := by decide +kernel
theorem d_X8_refuse_4 : decode cX8_refuse 4 = .ok (.iconst (-1), 1) := by decide +kernel
theorem d_X8_refuse_5 : decode cX8_refuse 5 = .ok (.if_icmp .ne 8, 3) := by decide +kernel
theorem d_X8_refuse_8 : decode cX8_refuse 8 = .ok (.aload_n 0, 1) := by decide +kernel
theorem d_X8_refuse_9 : decode cX8_refuse 9 = .ok (.iload_n 1, 1) := by decide +kernel
theorem d_X8_refuse_10 : decode cX8_refuse 10 = .ok (.putfield 25, 3) := by decide +kernel
theorem d_X8_refuse_13 : decode cX8_refuse 13 = .ok (.return_, 1) := by decide +kernel
theorem s_X8_refuse_j13 {G : Gl} (hG : G.1.stackTraces = false) {C : Cx} {n : Nat} {μ : Mem}  {r : Mem} (hf : f_X8_refuse_j13 μ = some r) (hK : FinR G C F_X8_refuse none none r) : V G C F_X8_refuse 13 [none, none] [] (pic G μ) n 0 0 := by
  unfold f_X8_refuse_j13 at hf
  cases hf
  exact R_v hK d_X8_refuse_13 (Nat.le_of_ble_eq_true rfl) (Nat.le_of_ble_eq_true rfl)
theorem s_X8_refuse_e {G : Gl} (hG : G.1.stackTraces = false) {C : Cx} {n : Nat} {μ : Mem} {p1 : Int32} {r : Mem} (hf : f_X8_refuse μ p1 = some r) (hK : FinR G C F_X8_refuse none none r) : V G C F_X8_refuse 0 [some (.ref (G.2.1 + 1)), some (.int p1)] [] (pic G μ) n 0 0 := by
  unfold f_X8_refuse at hf
  refine V_aload_n d_X8_refuse_0 rfl rfl ?_
  refine B_get k_1 fl_RX8_25 d_X8_refuse_1 g_8_4 ?_
  refine V_iconst (v := (-1)) d_X8_refuse_4 ic_m1 ?_
  refine V_icmp_ne (tgt := 13) d_X8_refuse_5 (by decide) (fun c5 => ?_) (fun c5 => ?_)
  · replace hf := iteF c5 hf
    refine V_less (ls' := [none, none]) trivial ?_
    exact s_X8_refuse_j13 hG hf hK
  · replace hf := iteT c5 hf
    refine V_aload_n d_X8_refuse_8 rfl rfl ?_
    refine V_iload_n d_X8_refuse_9 rfl rfl ?_
    refine B_putI k_1 fl_RX8_25 pt_8_4 (Nat.le_of_ble_eq_true rfl) p_8_4 d_X8_refuse_10 ?_
    refine V_less (ls' := [none, none]) trivial ?_
    exact s_X8_refuse_j13 hG hf hK
theorem s_X8_refuse {G : Gl} (hG : G.1.stackTraces = false) {μ : Mem} {p1 : Int32} {r : Mem} (hf : f_X8_refuse μ p1 = some r) : Rt G yX8_refuse F_X8_refuse none [.ref (G.2.1 + 1), .int p1] μ none r := fun n => Sd.of hG ⟨by decide +kernel, rfl, rfl⟩ rfl (Nat.le_of_ble_eq_true rfl) rfl (fun C hK => s_X8_refuse_e hG hf hK)
theorem d_X11_isOutside_0 : decode cX11_isOutside 0 = .ok (.iload_n 0, 1) := by decide +kernel
theorem d_X11_isOutside_1 : decode cX11_isOutside 1 = .ok (.iload_n 1, 1) := by decide +kernel
theorem d_X11_isOutside_2 : decode cX11_isOutside 2 = .ok (.if_icmp .lt 8, 3) := by decide +kernel
theorem d_X11_isOutside_5 : decode cX11_isOutside 5 = .ok (.iload_n 0, 1) := by decide +kernel
theorem d_X11_isOutside_6 : decode cX11_isOutside 6 = .ok (.iload_n 2, 1) := by decide +kernel
theorem d_X11_isOutside_7 : decode cX11_isOutside 7 = .ok (.if_icmp .le 7, 3) := by decide +kernel
theorem d_X11_isOutside_10 : decode cX11_isOutside 10 = .ok (.iconst 1, 1) := by decide +kernel
theorem d_X11_isOutside_11 : decode cX11_isOutside 11 = .ok (.goto 4, 3) := by decide +kernel
theorem d_X11_isOutside_14 : decode cX11_isOutside 14 = .ok (.iconst 0, 1) := by decide +kernel
theorem d_X11_isOutside_15 : decode cX11_isOutside 15 = .ok (.ireturn, 1) := by decide +kernel
theorem s_X11_isOutside_e {G : Gl} (hG : G.1.stackTraces = false) {C : Cx} {n : Nat} {μ : Mem} {p0 : Int32} {p1 : Int32} {p2 : Int32} {r : Bool} (hf : f_X11_isOutside μ p0 p1 p2 = some r) (hK : FinR G C F_X11_isOutside (some .boolean) (some (.int (b2i r))) μ) : V G C F_X11_isOutside 0 [some (.int p0), some (.int p1), some (.int p2)] [] (pic G μ) n 0 0 := by
  unfold f_X11_isOutside at hf
  refine V_iload_n d_X11_isOutside_0 rfl rfl ?_
  refine V_iload_n d_X11_isOutside_1 rfl rfl ?_
  have hJj1 : ∀ j1 : Bool, j1 = (if p0 < p1 then (true : Bool) else (if p0 ≤ p2 then (false : Bool) else true)) → V G C F_X11_isOutside 15 [none, none, none] [.int (b2i j1)] (pic G μ) n 0 0 := by
    intro j1 ej1
    subst ej1
    cases hf
    exact R_z hK d_X11_isOutside_15 (Nat.le_of_ble_eq_true rfl) (Nat.le_of_ble_eq_true rfl)
  refine V_icmp_lt (tgt := 10) d_X11_isOutside_2 (by decide) (fun c2 => ?_) (fun c2 => ?_)
  · refine V_iconst (v := 1) d_X11_isOutside_10 ic_1 ?_
    refine V_goto (tgt := 15) d_X11_isOutside_11 (by decide) ?_
    refine V_less (ls' := [none, none, none]) trivial ?_
    exact hJj1 true (by rw [if_pos c2])
  · refine V_iload_n d_X11_isOutside_5 rfl rfl ?_
    refine V_iload_n d_X11_isOutside_6 rfl rfl ?_
    refine V_icmp_le (tgt := 14) d_X11_isOutside_7 (by decide) (fun c7 => ?_) (fun c7 => ?_)
    · refine V_iconst (v := 0) d_X11_isOutside_14 ic_0 ?_
      refine V_less (ls' := [none, none, none]) trivial ?_
      exact hJj1 false (by rw [if_neg c2, if_pos c7])
    · refine V_iconst (v := 1) d_X11_isOutside_10 ic_1 ?_
      refine V_goto (tgt := 15) d_X11_isOutside_11 (by decide) ?_
      refine V_less (ls' := [none, none, none]) trivial ?_
      exact hJj1 true (by rw [if_neg c2, if_neg c7])
theorem s_X11_isOutside {G : Gl} (hG : G.1.stackTraces = false) {μ : Mem} {p0 : Int32} {p1 : Int32} {p2 : Int32} {r : Bool} (hf : f_X11_isOutside μ p0 p1 p2 = some r) : Rt G yX11_isOutside F_X11_isOutside (some .boolean) [.int p0, .int p1, .int p2] μ (some (.int (b2i r))) μ := fun n => Sd.of hG ⟨by decide +kernel, rfl, rfl⟩ rfl (Nat.le_of_ble_eq_true rfl) rfl (fun C hK => s_X11_isOutside_e hG hf hK)
theorem d_X8_takeNumber_0 : decode cX8_takeNumber 0 = .ok (.aload_n 0, 1) := by decide +kernel
theorem d_X8_takeNumber_1 : decode cX8_takeNumber 1 = .ok (.bipush 48, 2) := by decide +kernel
theorem d_X8_takeNumber_3 : decode cX8_takeNumber 3 = .ok (.bipush 57, 2) := by decide +kernel
theorem d_X8_takeNumber_5 : decode cX8_takeNumber 5 = .ok (.invokevirtual 36, 3) := by decide +kernel
theorem d_X8_takeNumber_8 : decode cX8_takeNumber 8 = .ok (.istore_n 3, 1) := by decide +kernel
theorem d_X8_takeNumber_9 : decode cX8_takeNumber 9 = .ok (.iload_n 3, 1) := by decide +kernel
theorem d_X8_takeNumber_10 : decode cX8_takeNumber 10 = .ok (.iconst 1, 1) := by decide +kernel
theorem d_X8_takeNumber_11 : decode cX8_takeNumber 11 = .ok (.if_icmp .lt 8, 3) := by decide +kernel
theorem d_X8_takeNumber_14 : decode cX8_takeNumber 14 = .ok (.iload_n 3, 1) := by decide +kernel
theorem d_X8_takeNumber_15 : decode cX8_takeNumber 15 = .ok (.iconst 3, 1) := by decide +kernel
theorem d_X8_takeNumber_16 : decode cX8_takeNumber 16 = .ok (.if_icmp .le 13, 3) := by decide +kernel
theorem d_X8_takeNumber_19 : decode cX8_takeNumber 19 = .ok (.aload_n 0, 1) := by decide +kernel
theorem d_X8_takeNumber_20 : decode cX8_takeNumber 20 = .ok (.aload_n 0, 1) := by decide +kernel
theorem d_X8_takeNumber_21 : decode cX8_takeNumber 21 = .ok (.getfield 22, 3) := by decide +kernel
theorem d_X8_takeNumber_24 : decode cX8_takeNumber 24 = .ok (.invokevirtual 52, 3) := by decide +kernel
theorem d_X8_takeNumber_27 : decode cX8_takeNumber 27 = .ok (.iload_n 1, 1) := by decide +kernel
theorem d_X8_takeNumber_28 : decode cX8_takeNumber 28 = .ok (.ireturn, 1) := by decide +kernel
theorem d_X8_takeNumber_29 : decode cX8_takeNumber 29 = .ok (.iconst 0, 1) := by decide +kernel
theorem d_X8_takeNumber_30 : decode cX8_takeNumber 30 = .ok (.istore 4, 2) := by decide +kernel
theorem d_X8_takeNumber_32 : decode cX8_takeNumber 32 = .ok (.iconst 0, 1) := by decide +kernel
theorem d_X8_takeNumber_33 : decode cX8_takeNumber 33 = .ok (.istore 5, 2) := by decide +kernel
theorem d_X8_takeNumber_35 : decode cX8_takeNumber 35 = .ok (.iload 5, 2) := by decide +kernel
theorem d_X8_takeNumber_37 : decode cX8_takeNumber 37 = .ok (.iload_n 3, 1) := by decide +kernel
theorem d_X8_takeNumber_38 : decode cX8_takeNumber 38 = .ok (.if_icmp .ge 32, 3) := by decide +kernel
theorem d_X8_takeNumber_41 : decode cX8_takeNumber 41 = .ok (.bipush 10, 2) := by decide +kernel
theorem d_X8_takeNumber_43 : decode cX8_takeNumber 43 = .ok (.iload 4, 2) := by decide +kernel
theorem d_X8_takeNumber_45 : decode cX8_takeNumber 45 = .ok (.imul, 1) := by decide +kernel
theorem d_X8_takeNumber_46 : decode cX8_takeNumber 46 = .ok (.aload_n 0, 1) := by decide +kernel
theorem d_X8_takeNumber_47 : decode cX8_takeNumber 47 = .ok (.getfield 9, 3) := by decide +kernel
theorem d_X8_takeNumber_50 : decode cX8_takeNumber 50 = .ok (.aload_n 0, 1) := by decide +kernel
theorem d_X8_takeNumber_51 : decode cX8_takeNumber 51 = .ok (.getfield 22, 3) := by decide +kernel
theorem d_X8_takeNumber_54 : decode cX8_takeNumber 54 = .ok (.iload 5, 2) := by decide +kernel
theorem d_X8_takeNumber_56 : decode cX8_takeNumber 56 = .ok (.iadd, 1) := by decide +kernel
theorem d_X8_takeNumber_57 : decode cX8_takeNumber 57 = .ok (.iaload, 1) := by decide +kernel
theorem d_X8_takeNumber_58 : decode cX8_takeNumber 58 = .ok (.iadd, 1) := by decide +kernel
theorem d_X8_takeNumber_59 : decode cX8_takeNumber 59 = .ok (.bipush 48, 2) := by decide +kernel
theorem d_X8_takeNumber_61 : decode cX8_takeNumber 61 = .ok (.isub, 1) := by decide +kernel
theorem d_X8_takeNumber_62 : decode cX8_takeNumber 62 = .ok (.istore 4, 2) := by decide +kernel
theorem d_X8_takeNumber_64 : decode cX8_takeNumber 64 = .ok (.iinc 5 1, 3) := by decide +kernel
theorem d_X8_takeNumber_67 : decode cX8_takeNumber 67 = .ok (.goto (-32), 3) := by decide +kernel
theorem d_X8_takeNumber_70 : decode cX8_takeNumber 70 = .ok (.iload 4, 2) := by decide +kernel
theorem d_X8_takeNumber_72 : decode cX8_takeNumber 72 = .ok (.iload_n 1, 1) := by decide +kernel
theorem d_X8_takeNumber_73 : decode cX8_takeNumber 73 = .ok (.iload_n 2, 1) := by decide +kernel
theorem d_X8_takeNumber_74 : decode cX8_takeNumber 74 = .ok (.invokestatic 59, 3) := by decide +kernel
theorem d_X8_takeNumber_77 : decode cX8_takeNumber 77 = .ok (.ifCond .eq 13, 3) := by decide +kernel
theorem d_X8_takeNumber_80 : decode cX8_takeNumber 80 = .ok (.aload_n 0, 1) := by decide +kernel
theorem d_X8_takeNumber_81 : decode cX8_takeNumber 81 = .ok (.aload_n 0, 1) := by decide +kernel
theorem d_X8_takeNumber_82 : decode cX8_takeNumber 82 = .ok (.getfield 22, 3) := by decide +kernel
theorem d_X8_takeNumber_85 : decode cX8_takeNumber 85 = .ok (.invokevirtual 52, 3) := by decide +kernel
theorem d_X8_takeNumber_88 : decode cX8_takeNumber 88 = .ok (.iload_n 1, 1) := by decide +kernel
theorem d_X8_takeNumber_89 : decode cX8_takeNumber 89 = .ok (.ireturn, 1) := by decide +kernel
theorem d_X8_takeNumber_90 : decode cX8_takeNumber 90 = .ok (.aload_n 0, 1) := by decide +kernel
theorem d_X8_takeNumber_91 : decode cX8_takeNumber 91 = .ok (.aload_n 0, 1) := by decide +kernel
theorem d_X8_takeNumber_92 : decode cX8_takeNumber 92 = .ok (.getfield 22, 3) := by decide +kernel
theorem d_X8_takeNumber_95 : decode cX8_takeNumber 95 = .ok (.iload_n 3, 1) := by decide +kernel
theorem d_X8_takeNumber_96 : decode cX8_takeNumber 96 = .ok (.iadd, 1) := by decide +kernel
theorem d_X8_takeNumber_97 : decode cX8_takeNumber 97 = .ok (.invokevirtual 32, 3) := by decide +kernel
theorem d_X8_takeNumber_100 : decode cX8_takeNumber 100 = .ok (.iload 4, 2) := by decide +kernel
theorem d_X8_takeNumber_102 : decode cX8_takeNumber 102 = .ok (.ireturn, 1) := by decide +kernel
theorem s_X8_takeNumber_j19 {G : Gl} (hG : G.1.stackTraces = false) {C : Cx} {n : Nat} {μ : Mem} {l1 : Int32} {r : (Int32 × Mem)} (hf : f_X8_takeNumber_j19 μ l1 = some r) (hK : FinR G C F_X8_takeNumber (some .int) (some (.int r.1)) r.2) : V G C F_X8_takeNumber 19 [some (.ref (G.2.1 + 1)), some (.int l1), none, none, none, none] [] (pic G μ) n 0 0 := by
  unfold f_X8_takeNumber_j19 at hf
  refine V_aload_n d_X8_takeNumber_19 rfl rfl ?_
  refine V_aload_n d_X8_takeNumber_20 rfl rfl ?_
  refine B_get k_1 fl_RX8_22 d_X8_takeNumber_21 g_8_3 ?_
  obtain ⟨q1, hq1, hf⟩ := ob hf
  refine B_callV0 (s_X8_refuse hG hq1) k_1 clX8 m_X8_refuse kv_RX8_52 d_X8_takeNumber_24 rfl (Nat.le_of_ble_eq_true rfl) ⟨rfl, rfl, Nat.le_of_ble_eq_true rfl, Nat.le_of_ble_eq_true rfl, Nat.le_of_ble_eq_true rfl⟩ (fun n => ?_)
  refine V_iload_n d_X8_takeNumber_27 rfl rfl ?_
  cases hf
  exact R_i hK d_X8_takeNumber_28 (Nat.le_of_ble_eq_true rfl) (Nat.le_of_ble_eq_true rfl)
theorem s_X8_takeNumber_b35 {G : Gl} (hG : G.1.stackTraces = false) {C : Cx} {n : Nat} {μ : Mem} {l1 : Int32} {l2 : Int32} {l3 : Int32} {l4 : Int32} {l5 : Int32} {y : ((Int32 × Int32) ⊕ Int32)} (hf : f_X8_takeNumber_b35 μ l1 l2 l3 l4 l5 = some y) (hK : (∀ z', y = .inl z' → ∀ n, V G C F_X8_takeNumber 35 [some (.ref (G.2.1 + 1)), some (.int l1), some (.int l2), some (.int l3), some (.int z'.1), some (.int z'.2)] [] (pic G μ) n 0 0) ∧ (∀ x', y = .inr x' → ∀ n, V G C F_X8_takeNumber 70 [some (.ref (G.2.1 + 1)), some (.int l1), some (.int l2), some (.int l3), some (.int x'), none] [] (pic G μ) n 0 0)) : V G C F_X8_takeNumber 35 [some (.ref (G.2.1 + 1)), some (.int l1), some (.int l2), some (.int l3), some (.int l4), some (.int l5)] [] (pic G μ) n 0 0 := by
  unfold f_X8_takeNumber_b35 at hf
  refine V_iload d_X8_takeNumber_35 rfl ?_
  refine V_iload_n d_X8_takeNumber_37 rfl rfl ?_
  refine V_icmp_ge (tgt := 70) d_X8_takeNumber_38 (by decide) (fun c38 => ?_) (fun c38 => ?_)
  · replace hf := iteT c38 hf
    refine V_less (ls' := [some _, some _, some _, some _, some _, none]) ⟨rfl, rfl, rfl, rfl, rfl, trivial⟩ ?_
    cases hf
    exact hK.2 _ rfl _
  · replace hf := iteF c38 hf
    refine V_bipush (v := 10) d_X8_takeNumber_41 bp_10 ?_
    refine V_iload d_X8_takeNumber_43 rfl ?_
    refine V_imul d_X8_takeNumber_45 ?_
    refine V_aload_n d_X8_takeNumber_46 rfl rfl ?_
    refine B_get k_1 fl_RX8_9 d_X8_takeNumber_47 g_8_0 ?_
    refine V_aload_n d_X8_takeNumber_50 rfl rfl ?_
    refine B_get k_1 fl_RX8_22 d_X8_takeNumber_51 g_8_3 ?_
    refine V_iload d_X8_takeNumber_54 rfl ?_
    refine V_iadd d_X8_takeNumber_56 ?_
    obtain ⟨t1, ht1, hf⟩ := ob hf
    refine B_iald k_2 ht1 d_X8_takeNumber_57 ?_
    refine V_iadd d_X8_takeNumber_58 ?_
    refine V_bipush (v := 48) d_X8_takeNumber_59 bp_48 ?_
    refine V_isub d_X8_takeNumber_61 ?_
    refine V_istore (ls' := [_, _, _, _, _, _]) d_X8_takeNumber_62 rfl rfl ?_
    refine V_iinc (v := (l5 + 1)) (ls' := [_, _, _, _, _, _]) d_X8_takeNumber_64 rfl (by rw [ic_1]) rfl ?_
    refine V_goto (tgt := 35) d_X8_takeNumber_67 (by decide) ?_
    refine V_less (ls' := [some _, some _, some _, some _, some _, some _]) ⟨rfl, rfl, rfl, rfl, rfl, rfl, trivial⟩ ?_
    cases hf
    exact hK.1 _ rfl _
theorem s_X8_takeNumber_j70 {G : Gl} (hG : G.1.stackTraces = false) {C : Cx} {n : Nat} {μ : Mem} {l1 : Int32} {l2 : Int32} {l3 : Int32} {l4 : Int32} {r : (Int32 × Mem)} (hf : f_X8_takeNumber_j70 μ l1 l2 l3 l4 = some r) (hK : FinR G C F_X8_takeNumber (some .int) (some (.int r.1)) r.2) : V G C F_X8_takeNumber 70 [some (.ref (G.2.1 + 1)), some (.int l1), some (.int l2), some (.int l3), some (.int l4), none] [] (pic G μ) n 0 0 := by
  unfold f_X8_takeNumber_j70 at hf
  refine V_iload d_X8_takeNumber_70 rfl ?_
  refine V_iload_n d_X8_takeNumber_72 rfl rfl ?_
  refine V_iload_n d_X8_takeNumber_73 rfl rfl ?_
  obtain ⟨t1, ht1, hf⟩ := ob hf
  refine B_callSN1 (s_X11_isOutside hG ht1) m_X11_isOutside ks_RX8_59 d_X8_takeNumber_74 rfl (Nat.le_of_ble_eq_true rfl) ⟨rfl, rfl, Nat.le_of_ble_eq_true rfl, Nat.le_of_ble_eq_true rfl, Nat.le_of_ble_eq_true rfl⟩ (fun n => ?_)
  refine V_if_eq (tgt := 90) d_X8_takeNumber_77 (by decide) (fun c77 => ?_) (fun c77 => ?_)
  · replace hf := iteF (b2i_nt (b2i_eq0 c77)) hf
    refine V_aload_n d_X8_takeNumber_90 rfl rfl ?_
    refine V_aload_n d_X8_takeNumber_91 rfl rfl ?_
    refine B_get k_1 fl_RX8_22 d_X8_takeNumber_92 g_8_3 ?_
    refine V_iload_n d_X8_takeNumber_95 rfl rfl ?_
    refine V_iadd d_X8_takeNumber_96 ?_
    obtain ⟨q2, hq2, hf⟩ := ob hf
    refine B_callV0 (s_X8_moveTo hG hq2) k_1 clX8 m_X8_moveTo kv_RX8_32 d_X8_takeNumber_97 rfl (Nat.le_of_ble_eq_true rfl) ⟨rfl, rfl, Nat.le_of_ble_eq_true rfl, Nat.le_of_ble_eq_true rfl, Nat.le_of_ble_eq_true rfl⟩ (fun n => ?_)
    refine V_iload d_X8_takeNumber_100 rfl ?_
    cases hf
    exact R_i hK d_X8_takeNumber_102 (Nat.le_of_ble_eq_true rfl) (Nat.le_of_ble_eq_true rfl)
  · replace hf := iteT (b2i_ne0 c77) hf
    refine V_aload_n d_X8_takeNumber_80 rfl rfl ?_
    refine V_aload_n d_X8_takeNumber_81 rfl rfl ?_
    refine B_get k_1 fl_RX8_22 d_X8_takeNumber_82 g_8_3 ?_
    obtain ⟨q3, hq3, hf⟩ := ob hf
    refine B_callV0 (s_X8_refuse hG hq3) k_1 clX8 m_X8_refuse kv_RX8_52 d_X8_takeNumber_85 rfl (Nat.le_of_ble_eq_true rfl) ⟨rfl, rfl, Nat.le_of_ble_eq_true rfl, Nat.le_of_ble_eq_true rfl, Nat.le_of_ble_eq_true rfl⟩ (fun n => ?_)
    refine V_iload_n d_X8_takeNumber_88 rfl rfl ?_
    cases hf
    exact R_i hK d_X8_takeNumber_89 (Nat.le_of_ble_eq_true rfl) (Nat.le_of_ble_eq_true rfl)
theorem s_X8_takeNumber_l35 {G : Gl} (hG : G.1.stackTraces = false) {C : Cx} {n : Nat} {μ : Mem} {l1 : Int32} {l2 : Int32} {l3 : Int32} {l4 : Int32} {l5 : Int32} {r : (Int32 × Mem)} (hf : f_X8_takeNumber_l35 μ l1 l2 l3 l4 l5 = some r) (hK : FinR G C F_X8_takeNumber (some .int) (some (.int r.1)) r.2) : V G C F_X8_takeNumber 35 [some (.ref (G.2.1 + 1)), some (.int l1), some (.int l2), some (.int l3), some (.int l4), some (.int l5)] [] (pic G μ) n 0 0 := by
  unfold f_X8_takeNumber_l35 at hf
  obtain ⟨t, hl, hf⟩ := ob hf
  refine loopV (P := fun z => ∀ n, V G C F_X8_takeNumber 35 [some (.ref (G.2.1 + 1)), some (.int l1), some (.int l2), some (.int l3), some (.int z.1), some (.int z.2)] [] (pic G μ) n 0 0) (t := t) ?_ _ _ hl n
  intro z y' hy hI hT n
  refine s_X8_takeNumber_b35 hG hy ⟨hI, fun x9 ex => ?_⟩
  have ex2 := hT x9 ex
  subst ex2
  intro n
  exact s_X8_takeNumber_j70 hG hf hK
theorem s_X8_takeNumber_e {G : Gl} (hG : G.1.stackTraces = false) {C : Cx} {n : Nat} {μ : Mem} {p1 : Int32} {p2 : Int32} {r : (Int32 × Mem)} (hf : f_X8_takeNumber μ p1 p2 = some r) (hK : FinR G C F_X8_takeNumber (some .int) (some (.int r.1)) r.2) : V G C F_X8_takeNumber 0 [some (.ref (G.2.1 + 1)), some (.int p1), some (.int p2), none, none, none] [] (pic G μ) n 0 0 := by
  unfold f_X8_takeNumber at hf
  refine V_aload_n d_X8_takeNumber_0 rfl rfl ?_
  refine V_bipush (v := 48) d_X8_takeNumber_1 bp_48 ?_
  refine V_bipush (v := 57) d_X8_takeNumber_3 bp_57 ?_
  obtain ⟨t1, ht1, hf⟩ := ob hf
  refine B_callV1 (s_X8_runOf hG ht1) k_1 clX8 m_X8_runOf kv_RX8_36 d_X8_takeNumber_5 rfl (Nat.le_of_ble_eq_true rfl) ⟨rfl, rfl, Nat.le_of_ble_eq_true rfl, Nat.le_of_ble_eq_true rfl, Nat.le_of_ble_eq_true rfl⟩ (fun n => ?_)
  refine V_istore_n (ls' := [_, _, _, _, _, _]) d_X8_takeNumber_8 rfl rfl rfl ?_
  refine V_iload_n d_X8_takeNumber_9 rfl rfl ?_
  refine V_iconst (v := 1) d_X8_takeNumber_10 ic_1 ?_
  refine V_icmp_lt (tgt := 19) d_X8_takeNumber_11 (by decide) (fun c11 => ?_) (fun c11 => ?_)
  · replace hf := iteT c11 hf
    refine V_less (ls' := [some _, some _, none, none, none, none]) ⟨rfl, rfl, trivial⟩ ?_
    exact s_X8_takeNumber_j19 hG hf hK
  · replace hf := iteF c11 hf
    refine V_iload_n d_X8_takeNumber_14 rfl rfl ?_
    refine V_iconst (v := 3) d_X8_takeNumber_15 ic_3 ?_
    refine V_icmp_le (tgt := 29) d_X8_takeNumber_16 (by decide) (fun c16 => ?_) (fun c16 => ?_)
    · replace hf := iteT c16 hf
      refine V_iconst (v := 0) d_X8_takeNumber_29 ic_0 ?_
      refine V_istore (ls' := [_, _, _, _, _, _]) d_X8_takeNumber_30 rfl rfl ?_
      refine V_iconst (v := 0) d_X8_takeNumber_32 ic_0 ?_
      refine V_istore (ls' := [_, _, _, _, _, _]) d_X8_takeNumber_33 rfl rfl ?_
      refine V_less (ls' := [some _, some _, some _, some _, some _, some _]) ⟨rfl, rfl, rfl, rfl, rfl, rfl, trivial⟩ ?_
      exact s_X8_takeNumber_l35 hG hf hK
    · replace hf := iteF c16 hf
      refine V_less (ls' := [some _, some _, none, none, none, none]) ⟨rfl, rfl, trivial⟩ ?_
      exact s_X8_takeNumber_j19 hG hf hK
theorem s_X8_takeNumber {G : Gl} (hG : G.1.stackTraces = false) {μ : Mem} {p1 : Int32} {p2 : Int32} {r : (Int32 × Mem)} (hf : f_X8_takeNumber μ p1 p2 = some r) : Rt G yX8_takeNumber F_X8_takeNumber (some .int) [.ref (G.2.1 + 1), .int p1, .int p2] μ (some (.int r.1)) r.2 := fun n => Sd.of hG ⟨by decide +kernel, rfl, rfl⟩ rfl (Nat.le_of_ble_eq_true rfl) rfl (fun C hK => s_X8_takeNumber_e hG hf hK)
theorem d_X8_needWord_0 : decode cX8_needWord 0 = .ok (.aload_n 0, 1) := by decide +kernel
theorem d_X8_needWord_1 : decode cX8_needWord 1 = .ok (.aload_n 1, 1) := by decide +kernel
theorem d_X8_needWord_2 : decode cX8_needWord 2 = .ok (.invokevirtual 48, 3) := by decide +kernel
theorem d_X8_needWord_5 : decode cX8_needWord 5 = .ok (.ifCond .ne 11, 3) := by decide +kernel
theorem d_X8_needWord_8 : decode cX8_needWord 8 = .ok (.aload_n 0, 1) := by decide +kernel
theorem d_X8_needWord_9 : decode cX8_needWord 9 = .ok (.aload_n 0, 1) := by decide +kernel
theorem d_X8_needWord_10 : decode cX8_needWord 10 = .ok (.getfield 22, 3) := by decide +kernel
theorem d_X8_needWord_13 : decode cX8_needWord 13 = .ok (.invokevirtual 52, 3) := by decide +kernel
theorem d_X8_needWord_16 : decode cX8_needWord 16 = .ok (.return_, 1) := by decide +kernel
theorem s_X8_needWord_j16 {G : Gl} (hG : G.1.stackTraces = false) {C : Cx} {n : Nat} {μ : Mem} {s1 : Nat} (hs1 : s1 < nS_n) {r : Mem} (hf : f_X8_needWord_j16 μ s1 = some r) (hK : FinR G C F_X8_needWord none none r) : V G C F_X8_needWord 16 [none, none] [] (pic G μ) n 0 0 := by
  unfold f_X8_needWord_j16 at hf
  cases hf
  exact R_v hK d_X8_needWord_16 (Nat.le_of_ble_eq_true rfl) (Nat.le_of_ble_eq_true rfl)
theorem s_X8_needWord_e {G : Gl} (hG : G.1.stackTraces = false) {C : Cx} {n : Nat} {μ : Mem} {s1 : Nat} (hs1 : s1 < nS_n) {r : Mem} (hf : f_X8_needWord μ s1 = some r) (hK : FinR G C F_X8_needWord none none r) : V G C F_X8_needWord 0 [some (.ref (G.2.1 + 1)), some (.ref (G.2.2.2.2.1 s1))] [] (pic G μ) n 0 0 := by
  unfold f_X8_needWord at hf
  refine V_aload_n d_X8_needWord_0 rfl rfl ?_
  refine V_aload_n d_X8_needWord_1 rfl rfl ?_
  obtain ⟨q1, hq1, hf⟩ := ob hf
  refine B_callV1 (s_X8_takesWord hG hs1 hq1) k_1 clX8 m_X8_takesWord kv_RX8_48 d_X8_needWord_2 rfl (Nat.le_of_ble_eq_true rfl) ⟨rfl, rfl, Nat.le_of_ble_eq_true rfl, Nat.le_of_ble_eq_true rfl, Nat.le_of_ble_eq_true rfl⟩ (fun n => ?_)
  refine V_if_ne (tgt := 16) d_X8_needWord_5 (by decide) (fun c5 => ?_) (fun c5 => ?_)
  · replace hf := iteT (b2i_ne0 c5) hf
    refine V_less (ls' := [none, none]) trivial ?_
    exact s_X8_needWord_j16 hG hs1 hf hK
  · replace hf := iteF (b2i_nt (b2i_eq0 c5)) hf
    refine V_aload_n d_X8_needWord_8 rfl rfl ?_
    refine V_aload_n d_X8_needWord_9 rfl rfl ?_
    refine B_get k_1 fl_RX8_22 d_X8_needWord_10 g_8_3 ?_
    obtain ⟨q2, hq2, hf⟩ := ob hf
    refine B_callV0 (s_X8_refuse hG hq2) k_1 clX8 m_X8_refuse kv_RX8_52 d_X8_needWord_13 rfl (Nat.le_of_ble_eq_true rfl) ⟨rfl, rfl, Nat.le_of_ble_eq_true rfl, Nat.le_of_ble_eq_true rfl, Nat.le_of_ble_eq_true rfl⟩ (fun n => ?_)
    refine V_less (ls' := [none, none]) trivial ?_
    exact s_X8_needWord_j16 hG hs1 hf hK
theorem s_X8_needWord {G : Gl} (hG : G.1.stackTraces = false) {μ : Mem} {s1 : Nat} (hs1 : s1 < nS_n) {r : Mem} (hf : f_X8_needWord μ s1 = some r) : Rt G yX8_needWord F_X8_needWord none [.ref (G.2.1 + 1), .ref (G.2.2.2.2.1 s1)] μ none r := fun n => Sd.of hG ⟨by decide +kernel, rfl, rfl⟩ rfl (Nat.le_of_ble_eq_true rfl) rfl (fun C hK => s_X8_needWord_e hG hs1 hf hK)
theorem d_X8_isRight_0 : decode cX8_isRight 0 = .ok (.aload_n 0, 1) := by decide +kernel
theorem d_X8_isRight_1 : decode cX8_isRight 1 = .ok (.getfield 25, 3) := by decide +kernel
theorem d_X8_isRight_4 : decode cX8_isRight 4 = .ok (.iconst (-1), 1) := by decide +kernel
theorem d_X8_isRight_5 : decode cX8_isRight 5 = .ok (.if_icmp .ne 7, 3) := by decide +kernel
theorem d_X8_isRight_8 : decode cX8_isRight 8 = .ok (.iconst 1, 1) := by decide +kernel
theorem d_X8_isRight_9 : decode cX8_isRight 9 = .ok (.goto 4, 3) := by decide +kernel
theorem d_X8_isRight_12 : decode cX8_isRight 12 = .ok (.iconst 0, 1) := by decide +kernel
theorem d_X8_isRight_13 : decode cX8_isRight 13 = .ok (.ireturn, 1) := by decide +kernel
theorem s_X8_isRight_e {G : Gl} (hG : G.1.stackTraces = false) {C : Cx} {n : Nat} {μ : Mem}  {r : Bool} (hf : f_X8_isRight μ = some r) (hK : FinR G C F_X8_isRight (some .boolean) (some (.int (b2i r))) μ) : V G C F_X8_isRight 0 [some (.ref (G.2.1 + 1))] [] (pic G μ) n 0 0 := by
  unfold f_X8_isRight at hf
  refine V_aload_n d_X8_isRight_0 rfl rfl ?_
  refine B_get k_1 fl_RX8_25 d_X8_isRight_1 g_8_4 ?_
  refine V_iconst (v := (-1)) d_X8_isRight_4 ic_m1 ?_
  have hJj1 : ∀ j1 : Bool, j1 = (if (μ 1 4) = (-1) then (true : Bool) else false) → V G C F_X8_isRight 13 [none] [.int (b2i j1)] (pic G μ) n 0 0 := by
    intro j1 ej1
    subst ej1
    cases hf
    exact R_z hK d_X8_isRight_13 (Nat.le_of_ble_eq_true rfl) (Nat.le_of_ble_eq_true rfl)
  refine V_icmp_ne (tgt := 12) d_X8_isRight_5 (by decide) (fun c5 => ?_) (fun c5 => ?_)
  · refine V_iconst (v := 0) d_X8_isRight_12 ic_0 ?_
    refine V_less (ls' := [none]) trivial ?_
    exact hJj1 false (by rw [if_neg c5])
  · refine V_iconst (v := 1) d_X8_isRight_8 ic_1 ?_
    refine V_goto (tgt := 13) d_X8_isRight_9 (by decide) ?_
    refine V_less (ls' := [none]) trivial ?_
    exact hJj1 true (by rw [if_pos c5])
theorem s_X8_isRight {G : Gl} (hG : G.1.stackTraces = false) {μ : Mem} {r : Bool} (hf : f_X8_isRight μ = some r) : Rt G yX8_isRight F_X8_isRight (some .boolean) [.ref (G.2.1 + 1)] μ (some (.int (b2i r))) μ := fun n => Sd.of hG ⟨by decide +kernel, rfl, rfl⟩ rfl (Nat.le_of_ble_eq_true rfl) rfl (fun C hK => s_X8_isRight_e hG hf hK)
theorem d_X3_readPerson_0 : decode cX3_readPerson 0 = .ok (.aload_n 0, 1) := by decide +kernel
theorem d_X3_readPerson_1 : decode cX3_readPerson 1 = .ok (.getfield 9, 3) := by decide +kernel
theorem d_X3_readPerson_4 : decode cX3_readPerson 4 = .ok (.getfield 68, 3) := by decide +kernel
theorem d_X3_readPerson_7 : decode cX3_readPerson 7 = .ok (.bipush 6, 2) := by decide +kernel
theorem d_X3_readPerson_9 : decode cX3_readPerson 9 = .ok (.if_icmp .lt 11, 3) := by decide +kernel
theorem d_X3_readPerson_12 : decode cX3_readPerson 12 = .ok (.aload_n 0, 1) := by decide +kernel
theorem d_X3_readPerson_13 : decode cX3_readPerson 13 = .ok (.getfield 15, 3) := by decide +kernel
theorem d_X3_readPerson_16 : decode cX3_readPerson 16 = .ok (.iload_n 1, 1) := by decide +kernel
theorem d_X3_readPerson_17 : decode cX3_readPerson 17 = .ok (.invokevirtual 65, 3) := by decide +kernel
theorem d_X3_readPerson_20 : decode cX3_readPerson 20 = .ok (.aload_n 0, 1) := by decide +kernel
theorem d_X3_readPerson_21 : decode cX3_readPerson 21 = .ok (.getfield 15, 3) := by decide +kernel
theorem d_X3_readPerson_24 : decode cX3_readPerson 24 = .ok (.iconst 0, 1) := by decide +kernel
theorem d_X3_readPerson_25 : decode cX3_readPerson 25 = .ok (.sipush 999, 3) := by decide +kernel
theorem d_X3_readPerson_28 : decode cX3_readPerson 28 = .ok (.invokevirtual 53, 3) := by decide +kernel
theorem d_X3_readPerson_31 : decode cX3_readPerson 31 = .ok (.istore_n 2, 1) := by decide +kernel
theorem d_X3_readPerson_32 : decode cX3_readPerson 32 = .ok (.aload_n 0, 1) := by decide +kernel
theorem d_X3_readPerson_33 : decode cX3_readPerson 33 = .ok (.getfield 15, 3) := by decide +kernel
theorem d_X3_readPerson_36 : decode cX3_readPerson 36 = .ok (.ldc 71, 2) := by decide +kernel
theorem d_X3_readPerson_38 : decode cX3_readPerson 38 = .ok (.invokevirtual 73, 3) := by decide +kernel
theorem d_X3_readPerson_41 : decode cX3_readPerson 41 = .ok (.aload_n 0, 1) := by decide +kernel
theorem d_X3_readPerson_42 : decode cX3_readPerson 42 = .ok (.getfield 15, 3) := by decide +kernel
theorem d_X3_readPerson_45 : decode cX3_readPerson 45 = .ok (.iconst 1, 1) := by decide +kernel
theorem d_X3_readPerson_46 : decode cX3_readPerson 46 = .ok (.bipush 9, 2) := by decide +kernel
theorem d_X3_readPerson_48 : decode cX3_readPerson 48 = .ok (.invokevirtual 53, 3) := by decide +kernel
theorem d_X3_readPerson_51 : decode cX3_readPerson 51 = .ok (.istore_n 3, 1) := by decide +kernel
theorem d_X3_readPerson_52 : decode cX3_readPerson 52 = .ok (.aload_n 0, 1) := by decide +kernel
theorem d_X3_readPerson_53 : decode cX3_readPerson 53 = .ok (.getfield 15, 3) := by decide +kernel
theorem d_X3_readPerson_56 : decode cX3_readPerson 56 = .ok (.ldc 77, 2) := by decide +kernel
theorem d_X3_readPerson_58 : decode cX3_readPerson 58 = .ok (.invokevirtual 73, 3) := by decide +kernel
theorem d_X3_readPerson_61 : decode cX3_readPerson 61 = .ok (.aload_n 0, 1) := by decide +kernel
theorem d_X3_readPerson_62 : decode cX3_readPerson 62 = .ok (.getfield 15, 3) := by decide +kernel
theorem d_X3_readPerson_65 : decode cX3_readPerson 65 = .ok (.iconst 0, 1) := by decide +kernel
theorem d_X3_readPerson_66 : decode cX3_readPerson 66 = .ok (.bipush 19, 2) := by decide +kernel
theorem d_X3_readPerson_68 : decode cX3_readPerson 68 = .ok (.invokevirtual 53, 3) := by decide +kernel
theorem d_X3_readPerson_71 : decode cX3_readPerson 71 = .ok (.istore 4, 2) := by decide +kernel
theorem d_X3_readPerson_73 : decode cX3_readPerson 73 = .ok (.aload_n 0, 1) := by decide +kernel
theorem d_X3_readPerson_74 : decode cX3_readPerson 74 = .ok (.getfield 15, 3) := by decide +kernel
theorem d_X3_readPerson_77 : decode cX3_readPerson 77 = .ok (.invokevirtual 78, 3) := by decide +kernel
theorem d_X3_readPerson_80 : decode cX3_readPerson 80 = .ok (.ifCond .eq 14, 3) := by decide +kernel
theorem d_X3_readPerson_83 : decode cX3_readPerson 83 = .ok (.aload_n 0, 1) := by decide +kernel
theorem d_X3_readPerson_84 : decode cX3_readPerson 84 = .ok (.getfield 9, 3) := by decide +kernel
theorem d_X3_readPerson_87 : decode cX3_readPerson 87 = .ok (.iload_n 2, 1) := by decide +kernel
theorem d_X3_readPerson_88 : decode cX3_readPerson 88 = .ok (.iload_n 3, 1) := by decide +kernel
theorem d_X3_readPerson_89 : decode cX3_readPerson 89 = .ok (.iload 4, 2) := by decide +kernel
theorem d_X3_readPerson_91 : decode cX3_readPerson 91 = .ok (.invokevirtual 82, 3) := by decide +kernel
theorem d_X3_readPerson_94 : decode cX3_readPerson 94 = .ok (.return_, 1) := by decide +kernel
theorem s_X3_readPerson_j94 {G : Gl} (hG : G.1.stackTraces = false) {C : Cx} {n : Nat} {μ : Mem}  {r : Mem} (hf : f_X3_readPerson_j94 μ = some r) (hK : FinR G C F_X3_readPerson none none r) : V G C F_X3_readPerson 94 [none, none, none, none, none] [] (pic G μ) n 0 0 := by
  unfold f_X3_readPerson_j94 at hf
  cases hf
  exact R_v hK d_X3_readPerson_94 (Nat.le_of_ble_eq_true rfl) (Nat.le_of_ble_eq_true rfl)
theorem s_X3_readPerson_j20 {G : Gl} (hG : G.1.stackTraces = false) {C : Cx} {n : Nat} {μ : Mem}  {r : Mem} (hf : f_X3_readPerson_j20 μ = some r) (hK : FinR G C F_X3_readPerson none none r) : V G C F_X3_readPerson 20 [some (.ref (G.2.1 + 72)), none, none, none, none] [] (pic G μ) n 0 0 := by
  unfold f_X3_readPerson_j20 at hf
  refine V_aload_n d_X3_readPerson_20 rfl rfl ?_
  refine B_get k_72 fl_RX3_15 d_X3_readPerson_21 g_3_0 ?_
  refine V_iconst (v := 0) d_X3_readPerson_24 ic_0 ?_
  refine V_sipush (v := 999) d_X3_readPerson_25 sp_999 ?_
  obtain ⟨q1, hq1, hf⟩ := ob hf
  refine B_callV1 (s_X8_takeNumber hG hq1) k_1 clX8 m_X8_takeNumber kv_RX3_53 d_X3_readPerson_28 rfl (Nat.le_of_ble_eq_true rfl) ⟨rfl, rfl, Nat.le_of_ble_eq_true rfl, Nat.le_of_ble_eq_true rfl, Nat.le_of_ble_eq_true rfl⟩ (fun n => ?_)
  refine V_istore_n (ls' := [_, _, _, _, _]) d_X3_readPerson_31 rfl rfl rfl ?_
  refine V_aload_n d_X3_readPerson_32 rfl rfl ?_
  refine B_get k_72 fl_RX3_15 d_X3_readPerson_33 g_3_0 ?_
  refine V_ldcS (i := 0) d_X3_readPerson_36 sT_RX3_71 ?_
  obtain ⟨q2, hq2, hf⟩ := ob hf
  refine B_callV0 (s_X8_needWord hG sS_0 hq2) k_1 clX8 m_X8_needWord kv_RX3_73 d_X3_readPerson_38 rfl (Nat.le_of_ble_eq_true rfl) ⟨rfl, rfl, Nat.le_of_ble_eq_true rfl, Nat.le_of_ble_eq_true rfl, Nat.le_of_ble_eq_true rfl⟩ (fun n => ?_)
  refine V_aload_n d_X3_readPerson_41 rfl rfl ?_
  refine B_get k_72 fl_RX3_15 d_X3_readPerson_42 g_3_0 ?_
  refine V_iconst (v := 1) d_X3_readPerson_45 ic_1 ?_
  refine V_bipush (v := 9) d_X3_readPerson_46 bp_9 ?_
  obtain ⟨q3, hq3, hf⟩ := ob hf
  refine B_callV1 (s_X8_takeNumber hG hq3) k_1 clX8 m_X8_takeNumber kv_RX3_53 d_X3_readPerson_48 rfl (Nat.le_of_ble_eq_true rfl) ⟨rfl, rfl, Nat.le_of_ble_eq_true rfl, Nat.le_of_ble_eq_true rfl, Nat.le_of_ble_eq_true rfl⟩ (fun n => ?_)
  refine V_istore_n (ls' := [_, _, _, _, _]) d_X3_readPerson_51 rfl rfl rfl ?_
  refine V_aload_n d_X3_readPerson_52 rfl rfl ?_
  refine B_get k_72 fl_RX3_15 d_X3_readPerson_53 g_3_0 ?_
  refine V_ldcS (i := 1) d_X3_readPerson_56 sT_RX3_77 ?_
  obtain ⟨q4, hq4, hf⟩ := ob hf
  refine B_callV0 (s_X8_needWord hG sS_1 hq4) k_1 clX8 m_X8_needWord kv_RX3_73 d_X3_readPerson_58 rfl (Nat.le_of_ble_eq_true rfl) ⟨rfl, rfl, Nat.le_of_ble_eq_true rfl, Nat.le_of_ble_eq_true rfl, Nat.le_of_ble_eq_true rfl⟩ (fun n => ?_)
  refine V_aload_n d_X3_readPerson_61 rfl rfl ?_
  refine B_get k_72 fl_RX3_15 d_X3_readPerson_62 g_3_0 ?_
  refine V_iconst (v := 0) d_X3_readPerson_65 ic_0 ?_
  refine V_bipush (v := 19) d_X3_readPerson_66 bp_19 ?_
  obtain ⟨q5, hq5, hf⟩ := ob hf
  refine B_callV1 (s_X8_takeNumber hG hq5) k_1 clX8 m_X8_takeNumber kv_RX3_53 d_X3_readPerson_68 rfl (Nat.le_of_ble_eq_true rfl) ⟨rfl, rfl, Nat.le_of_ble_eq_true rfl, Nat.le_of_ble_eq_true rfl, Nat.le_of_ble_eq_true rfl⟩ (fun n => ?_)
  refine V_istore (ls' := [_, _, _, _, _]) d_X3_readPerson_71 rfl rfl ?_
  refine V_aload_n d_X3_readPerson_73 rfl rfl ?_
  refine B_get k_72 fl_RX3_15 d_X3_readPerson_74 g_3_0 ?_
  obtain ⟨t6, ht6, hf⟩ := ob hf
  refine B_callV1 (s_X8_isRight hG ht6) k_1 clX8 m_X8_isRight kv_RX3_78 d_X3_readPerson_77 rfl (Nat.le_of_ble_eq_true rfl) ⟨rfl, rfl, Nat.le_of_ble_eq_true rfl, Nat.le_of_ble_eq_true rfl, Nat.le_of_ble_eq_true rfl⟩ (fun n => ?_)
  refine V_if_eq (tgt := 94) d_X3_readPerson_80 (by decide) (fun c80 => ?_) (fun c80 => ?_)
  · replace hf := iteF (b2i_nt (b2i_eq0 c80)) hf
    refine V_less (ls' := [none, none, none, none, none]) trivial ?_
    exact s_X3_readPerson_j94 hG hf hK
  · replace hf := iteT (b2i_ne0 c80) hf
    refine V_aload_n d_X3_readPerson_83 rfl rfl ?_
    refine B_get k_72 fl_RX3_9 d_X3_readPerson_84 g_3_2 ?_
    refine V_iload_n d_X3_readPerson_87 rfl rfl ?_
    refine V_iload_n d_X3_readPerson_88 rfl rfl ?_
    refine V_iload d_X3_readPerson_89 rfl ?_
    obtain ⟨q7, hq7, hf⟩ := ob hf
    refine B_callV0 (s_X2_addPerson hG L_18 hq7) k_18 clX2 m_X2_addPerson kv_RX3_82 d_X3_readPerson_91 rfl (Nat.le_of_ble_eq_true rfl) ⟨rfl, rfl, Nat.le_of_ble_eq_true rfl, Nat.le_of_ble_eq_true rfl, Nat.le_of_ble_eq_true rfl⟩ (fun n => ?_)
    refine V_less (ls' := [none, none, none, none, none]) trivial ?_
    exact s_X3_readPerson_j94 hG hf hK
theorem s_X3_readPerson_e {G : Gl} (hG : G.1.stackTraces = false) {C : Cx} {n : Nat} {μ : Mem} {p1 : Int32} {r : Mem} (hf : f_X3_readPerson μ p1 = some r) (hK : FinR G C F_X3_readPerson none none r) : V G C F_X3_readPerson 0 [some (.ref (G.2.1 + 72)), some (.int p1), none, none, none] [] (pic G μ) n 0 0 := by
  unfold f_X3_readPerson at hf
  refine V_aload_n d_X3_readPerson_0 rfl rfl ?_
  refine B_get k_72 fl_RX3_9 d_X3_readPerson_1 g_3_2 ?_
  refine B_get k_18 fl_RX3_68 d_X3_readPerson_4 g_2_0 ?_
  refine V_bipush (v := 6) d_X3_readPerson_7 bp_6 ?_
  refine V_icmp_lt (tgt := 20) d_X3_readPerson_9 (by decide) (fun c9 => ?_) (fun c9 => ?_)
  · replace hf := iteT c9 hf
    refine V_less (ls' := [some _, none, none, none, none]) ⟨rfl, trivial⟩ ?_
    exact s_X3_readPerson_j20 hG hf hK
  · replace hf := iteF c9 hf
    refine V_aload_n d_X3_readPerson_12 rfl rfl ?_
    refine B_get k_72 fl_RX3_15 d_X3_readPerson_13 g_3_0 ?_
    refine V_iload_n d_X3_readPerson_16 rfl rfl ?_
    obtain ⟨q1, hq1, hf⟩ := ob hf
    refine B_callV0 (s_X8_refuse hG hq1) k_1 clX8 m_X8_refuse kv_RX3_65 d_X3_readPerson_17 rfl (Nat.le_of_ble_eq_true rfl) ⟨rfl, rfl, Nat.le_of_ble_eq_true rfl, Nat.le_of_ble_eq_true rfl, Nat.le_of_ble_eq_true rfl⟩ (fun n => ?_)
    refine V_less (ls' := [some _, none, none, none, none]) ⟨rfl, trivial⟩ ?_
    exact s_X3_readPerson_j20 hG hf hK
theorem s_X3_readPerson {G : Gl} (hG : G.1.stackTraces = false) {μ : Mem} {p1 : Int32} {r : Mem} (hf : f_X3_readPerson μ p1 = some r) : Rt G yX3_readPerson F_X3_readPerson none [.ref (G.2.1 + 72), .int p1] μ none r := fun n => Sd.of hG ⟨by decide +kernel, rfl, rfl⟩ rfl (Nat.le_of_ble_eq_true rfl) rfl (fun C hK => s_X3_readPerson_e hG hf hK)
theorem d_X3_takeLaceInShoe_0 : decode cX3_takeLaceInShoe 0 = .ok (.aload_n 0, 1) := by decide +kernel
theorem d_X3_takeLaceInShoe_1 : decode cX3_takeLaceInShoe 1 = .ok (.getfield 15, 3) := by decide +kernel
theorem d_X3_takeLaceInShoe_4 : decode cX3_takeLaceInShoe 4 = .ok (.getfield 19, 3) := by decide +kernel
theorem d_X3_takeLaceInShoe_7 : decode cX3_takeLaceInShoe 7 = .ok (.istore_n 1, 1) := by decide +kernel
theorem d_X3_takeLaceInShoe_8 : decode cX3_takeLaceInShoe 8 = .ok (.aload_n 0, 1) := by decide +kernel
theorem d_X3_takeLaceInShoe_9 : decode cX3_takeLaceInShoe 9 = .ok (.getfield 15, 3) := by decide +kernel
theorem d_X3_takeLaceInShoe_12 : decode cX3_takeLaceInShoe 12 = .ok (.iconst 0, 1) := by decide +kernel
theorem d_X3_takeLaceInShoe_13 : decode cX3_takeLaceInShoe 13 = .ok (.iconst 2, 1) := by decide +kernel
theorem d_X3_takeLaceInShoe_14 : decode cX3_takeLaceInShoe 14 = .ok (.aload_n 0, 1) := by decide +kernel
theorem d_X3_takeLaceInShoe_15 : decode cX3_takeLaceInShoe 15 = .ok (.getfield 9, 3) := by decide +kernel
theorem d_X3_takeLaceInShoe_18 : decode cX3_takeLaceInShoe 18 = .ok (.getfield 68, 3) := by decide +kernel
theorem d_X3_takeLaceInShoe_21 : decode cX3_takeLaceInShoe 21 = .ok (.imul, 1) := by decide +kernel
theorem d_X3_takeLaceInShoe_22 : decode cX3_takeLaceInShoe 22 = .ok (.iconst 1, 1) := by decide +kernel
theorem d_X3_takeLaceInShoe_23 : decode cX3_takeLaceInShoe 23 = .ok (.isub, 1) := by decide +kernel
theorem d_X3_takeLaceInShoe_24 : decode cX3_takeLaceInShoe 24 = .ok (.invokevirtual 53, 3) := by decide +kernel
theorem d_X3_takeLaceInShoe_27 : decode cX3_takeLaceInShoe 27 = .ok (.istore_n 2, 1) := by decide +kernel
theorem d_X3_takeLaceInShoe_28 : decode cX3_takeLaceInShoe 28 = .ok (.aload_n 0, 1) := by decide +kernel
theorem d_X3_takeLaceInShoe_29 : decode cX3_takeLaceInShoe 29 = .ok (.getfield 15, 3) := by decide +kernel
theorem d_X3_takeLaceInShoe_32 : decode cX3_takeLaceInShoe 32 = .ok (.invokevirtual 78, 3) := by decide +kernel
theorem d_X3_takeLaceInShoe_35 : decode cX3_takeLaceInShoe 35 = .ok (.ifCond .eq 23, 3) := by decide +kernel
theorem d_X3_takeLaceInShoe_38 : decode cX3_takeLaceInShoe 38 = .ok (.aload_n 0, 1) := by decide +kernel
theorem d_X3_takeLaceInShoe_39 : decode cX3_takeLaceInShoe 39 = .ok (.getfield 9, 3) := by decide +kernel
theorem d_X3_takeLaceInShoe_42 : decode cX3_takeLaceInShoe 42 = .ok (.getfield 115, 3) := by decide +kernel
theorem d_X3_takeLaceInShoe_45 : decode cX3_takeLaceInShoe 45 = .ok (.iload_n 2, 1) := by decide +kernel
theorem d_X3_takeLaceInShoe_46 : decode cX3_takeLaceInShoe 46 = .ok (.iaload, 1) := by decide +kernel
theorem d_X3_takeLaceInShoe_47 : decode cX3_takeLaceInShoe 47 = .ok (.ifCond .eq 11, 3) := by decide +kernel
theorem d_X3_takeLaceInShoe_50 : decode cX3_takeLaceInShoe 50 = .ok (.aload_n 0, 1) := by decide +kernel
theorem d_X3_takeLaceInShoe_51 : decode cX3_takeLaceInShoe 51 = .ok (.getfield 15, 3) := by decide +kernel
theorem d_X3_takeLaceInShoe_54 : decode cX3_takeLaceInShoe 54 = .ok (.iload_n 1, 1) := by decide +kernel
theorem d_X3_takeLaceInShoe_55 : decode cX3_takeLaceInShoe 55 = .ok (.invokevirtual 65, 3) := by decide +kernel
theorem d_X3_takeLaceInShoe_58 : decode cX3_takeLaceInShoe 58 = .ok (.iload_n 2, 1) := by decide +kernel
theorem d_X3_takeLaceInShoe_59 : decode cX3_takeLaceInShoe 59 = .ok (.ireturn, 1) := by decide +kernel
theorem s_X3_takeLaceInShoe_j58 {G : Gl} (hG : G.1.stackTraces = false) {C : Cx} {n : Nat} {μ : Mem} {l2 : Int32} {r : (Int32 × Mem)} (hf : f_X3_takeLaceInShoe_j58 μ l2 = some r) (hK : FinR G C F_X3_takeLaceInShoe (some .int) (some (.int r.1)) r.2) : V G C F_X3_takeLaceInShoe 58 [none, none, some (.int l2)] [] (pic G μ) n 0 0 := by
  unfold f_X3_takeLaceInShoe_j58 at hf
  refine V_iload_n d_X3_takeLaceInShoe_58 rfl rfl ?_
  cases hf
  exact R_i hK d_X3_takeLaceInShoe_59 (Nat.le_of_ble_eq_true rfl) (Nat.le_of_ble_eq_true rfl)
theorem s_X3_takeLaceInShoe_e {G : Gl} (hG : G.1.stackTraces = false) {C : Cx} {n : Nat} {μ : Mem}  {r : (Int32 × Mem)} (hf : f_X3_takeLaceInShoe μ = some r) (hK : FinR G C F_X3_takeLaceInShoe (some .int) (some (.int r.1)) r.2) : V G C F_X3_takeLaceInShoe 0 [some (.ref (G.2.1 + 72)), none, none] [] (pic G μ) n 0 0 := by
  unfold f_X3_takeLaceInShoe at hf
  refine V_aload_n d_X3_takeLaceInShoe_0 rfl rfl ?_
  refine B_get k_72 fl_RX3_15 d_X3_takeLaceInShoe_1 g_3_0 ?_
  refine B_getN k_1 fn_RX3_19 d_X3_takeLaceInShoe_4 g_8_3 ?_
  refine V_istore_n (ls' := [_, _, _]) d_X3_takeLaceInShoe_7 rfl rfl rfl ?_
  refine V_aload_n d_X3_takeLaceInShoe_8 rfl rfl ?_
  refine B_get k_72 fl_RX3_15 d_X3_takeLaceInShoe_9 g_3_0 ?_
  refine V_iconst (v := 0) d_X3_takeLaceInShoe_12 ic_0 ?_
  refine V_iconst (v := 2) d_X3_takeLaceInShoe_13 ic_2 ?_
  refine V_aload_n d_X3_takeLaceInShoe_14 rfl rfl ?_
  refine B_get k_72 fl_RX3_9 d_X3_takeLaceInShoe_15 g_3_2 ?_
  refine B_get k_18 fl_RX3_68 d_X3_takeLaceInShoe_18 g_2_0 ?_
  refine V_imul d_X3_takeLaceInShoe_21 ?_
  refine V_iconst (v := 1) d_X3_takeLaceInShoe_22 ic_1 ?_
  refine V_isub d_X3_takeLaceInShoe_23 ?_
  obtain ⟨q1, hq1, hf⟩ := ob hf
  refine B_callV1 (s_X8_takeNumber hG hq1) k_1 clX8 m_X8_takeNumber kv_RX3_53 d_X3_takeLaceInShoe_24 rfl (Nat.le_of_ble_eq_true rfl) ⟨rfl, rfl, Nat.le_of_ble_eq_true rfl, Nat.le_of_ble_eq_true rfl, Nat.le_of_ble_eq_true rfl⟩ (fun n => ?_)
  refine V_istore_n (ls' := [_, _, _]) d_X3_takeLaceInShoe_27 rfl rfl rfl ?_
  refine V_aload_n d_X3_takeLaceInShoe_28 rfl rfl ?_
  refine B_get k_72 fl_RX3_15 d_X3_takeLaceInShoe_29 g_3_0 ?_
  obtain ⟨t2, ht2, hf⟩ := ob hf
  refine B_callV1 (s_X8_isRight hG ht2) k_1 clX8 m_X8_isRight kv_RX3_78 d_X3_takeLaceInShoe_32 rfl (Nat.le_of_ble_eq_true rfl) ⟨rfl, rfl, Nat.le_of_ble_eq_true rfl, Nat.le_of_ble_eq_true rfl, Nat.le_of_ble_eq_true rfl⟩ (fun n => ?_)
  refine V_if_eq (tgt := 58) d_X3_takeLaceInShoe_35 (by decide) (fun c35 => ?_) (fun c35 => ?_)
  · replace hf := iteF (b2i_nt (b2i_eq0 c35)) hf
    refine V_less (ls' := [none, none, some _]) ⟨rfl, trivial⟩ ?_
    exact s_X3_takeLaceInShoe_j58 hG hf hK
  · replace hf := iteT (b2i_ne0 c35) hf
    refine V_aload_n d_X3_takeLaceInShoe_38 rfl rfl ?_
    refine B_get k_72 fl_RX3_9 d_X3_takeLaceInShoe_39 g_3_2 ?_
    refine B_get k_18 fl_RX3_115 d_X3_takeLaceInShoe_42 g_2_11 ?_
    refine V_iload_n d_X3_takeLaceInShoe_45 rfl rfl ?_
    obtain ⟨t3, ht3, hf⟩ := ob hf
    refine B_iald k_24 ht3 d_X3_takeLaceInShoe_46 ?_
    refine V_if_eq (tgt := 58) d_X3_takeLaceInShoe_47 (by decide) (fun c47 => ?_) (fun c47 => ?_)
    · replace hf := iteT c47 hf
      refine V_less (ls' := [none, none, some _]) ⟨rfl, trivial⟩ ?_
      exact s_X3_takeLaceInShoe_j58 hG hf hK
    · replace hf := iteF c47 hf
      refine V_aload_n d_X3_takeLaceInShoe_50 rfl rfl ?_
      refine B_get k_72 fl_RX3_15 d_X3_takeLaceInShoe_51 g_3_0 ?_
      refine V_iload_n d_X3_takeLaceInShoe_54 rfl rfl ?_
      obtain ⟨q4, hq4, hf⟩ := ob hf
      refine B_callV0 (s_X8_refuse hG hq4) k_1 clX8 m_X8_refuse kv_RX3_65 d_X3_takeLaceInShoe_55 rfl (Nat.le_of_ble_eq_true rfl) ⟨rfl, rfl, Nat.le_of_ble_eq_true rfl, Nat.le_of_ble_eq_true rfl, Nat.le_of_ble_eq_true rfl⟩ (fun n => ?_)
      refine V_less (ls' := [none, none, some _]) ⟨rfl, trivial⟩ ?_
      exact s_X3_takeLaceInShoe_j58 hG hf hK
theorem s_X3_takeLaceInShoe {G : Gl} (hG : G.1.stackTraces = false) {μ : Mem} {r : (Int32 × Mem)} (hf : f_X3_takeLaceInShoe μ = some r) : Rt G yX3_takeLaceInShoe F_X3_takeLaceInShoe (some .int) [.ref (G.2.1 + 72)] μ (some (.int r.1)) r.2 := fun n => Sd.of hG ⟨by decide +kernel, rfl, rfl⟩ rfl (Nat.le_of_ble_eq_true rfl) rfl (fun C hK => s_X3_takeLaceInShoe_e hG hf hK)
theorem d_X3_takeOther_0 : decode cX3_takeOther 0 = .ok (.aload_n 0, 1) := by decide +kernel
theorem d_X3_takeOther_1 : decode cX3_takeOther 1 = .ok (.getfield 15, 3) := by decide +kernel
theorem d_X3_takeOther_4 : decode cX3_takeOther 4 = .ok (.getfield 19, 3) := by decide +kernel
theorem d_X3_takeOther_7 : decode cX3_takeOther 7 = .ok (.istore_n 3, 1) := by decide +kernel
theorem d_X3_takeOther_8 : decode cX3_takeOther 8 = .ok (.aload_n 0, 1) := by decide +kernel
theorem d_X3_takeOther_9 : decode cX3_takeOther 9 = .ok (.getfield 15, 3) := by decide +kernel
theorem d_X3_takeOther_12 : decode cX3_takeOther 12 = .ok (.iconst 0, 1) := by decide +kernel
theorem d_X3_takeOther_13 : decode cX3_takeOther 13 = .ok (.aload_n 0, 1) := by decide +kernel
theorem d_X3_takeOther_14 : decode cX3_takeOther 14 = .ok (.getfield 9, 3) := by decide +kernel
theorem d_X3_takeOther_17 : decode cX3_takeOther 17 = .ok (.getfield 68, 3) := by decide +kernel
theorem d_X3_takeOther_20 : decode cX3_takeOther 20 = .ok (.iconst 1, 1) := by decide +kernel
theorem d_X3_takeOther_21 : decode cX3_takeOther 21 = .ok (.isub, 1) := by decide +kernel
theorem d_X3_takeOther_22 : decode cX3_takeOther 22 = .ok (.invokevirtual 53, 3) := by decide +kernel
theorem d_X3_takeOther_25 : decode cX3_takeOther 25 = .ok (.istore 4, 2) := by decide +kernel
theorem d_X3_takeOther_27 : decode cX3_takeOther 27 = .ok (.iload 4, 2) := by decide +kernel
theorem d_X3_takeOther_29 : decode cX3_takeOther 29 = .ok (.iload_n 1, 1) := by decide +kernel
theorem d_X3_takeOther_30 : decode cX3_takeOther 30 = .ok (.if_icmp .eq 9, 3) := by decide +kernel
theorem d_X3_takeOther_33 : decode cX3_takeOther 33 = .ok (.iload 4, 2) := by decide +kernel
theorem d_X3_takeOther_35 : decode cX3_takeOther 35 = .ok (.iload_n 2, 1) := by decide +kernel
theorem d_X3_takeOther_36 : decode cX3_takeOther 36 = .ok (.if_icmp .ne 11, 3) := by decide +kernel
theorem d_X3_takeOther_39 : decode cX3_takeOther 39 = .ok (.aload_n 0, 1) := by decide +kernel
theorem d_X3_takeOther_40 : decode cX3_takeOther 40 = .ok (.getfield 15, 3) := by decide +kernel
theorem d_X3_takeOther_43 : decode cX3_takeOther 43 = .ok (.iload_n 3, 1) := by decide +kernel
theorem d_X3_takeOther_44 : decode cX3_takeOther 44 = .ok (.invokevirtual 65, 3) := by decide +kernel
theorem d_X3_takeOther_47 : decode cX3_takeOther 47 = .ok (.iload 4, 2) := by decide +kernel
theorem d_X3_takeOther_49 : decode cX3_takeOther 49 = .ok (.ireturn, 1) := by decide +kernel
theorem s_X3_takeOther_j47 {G : Gl} (hG : G.1.stackTraces = false) {C : Cx} {n : Nat} {μ : Mem} {l4 : Int32} {r : (Int32 × Mem)} (hf : f_X3_takeOther_j47 μ l4 = some r) (hK : FinR G C F_X3_takeOther (some .int) (some (.int r.1)) r.2) : V G C F_X3_takeOther 47 [none, none, none, none, some (.int l4)] [] (pic G μ) n 0 0 := by
  unfold f_X3_takeOther_j47 at hf
  refine V_iload d_X3_takeOther_47 rfl ?_
  cases hf
  exact R_i hK d_X3_takeOther_49 (Nat.le_of_ble_eq_true rfl) (Nat.le_of_ble_eq_true rfl)
theorem s_X3_takeOther_j39 {G : Gl} (hG : G.1.stackTraces = false) {C : Cx} {n : Nat} {μ : Mem} {l3 : Int32} {l4 : Int32} {r : (Int32 × Mem)} (hf : f_X3_takeOther_j39 μ l3 l4 = some r) (hK : FinR G C F_X3_takeOther (some .int) (some (.int r.1)) r.2) : V G C F_X3_takeOther 39 [some (.ref (G.2.1 + 72)), none, none, some (.int l3), some (.int l4)] [] (pic G μ) n 0 0 := by
  unfold f_X3_takeOther_j39 at hf
  refine V_aload_n d_X3_takeOther_39 rfl rfl ?_
  refine B_get k_72 fl_RX3_15 d_X3_takeOther_40 g_3_0 ?_
  refine V_iload_n d_X3_takeOther_43 rfl rfl ?_
  obtain ⟨q1, hq1, hf⟩ := ob hf
  refine B_callV0 (s_X8_refuse hG hq1) k_1 clX8 m_X8_refuse kv_RX3_65 d_X3_takeOther_44 rfl (Nat.le_of_ble_eq_true rfl) ⟨rfl, rfl, Nat.le_of_ble_eq_true rfl, Nat.le_of_ble_eq_true rfl, Nat.le_of_ble_eq_true rfl⟩ (fun n => ?_)
  refine V_less (ls' := [none, none, none, none, some _]) ⟨rfl, trivial⟩ ?_
  exact s_X3_takeOther_j47 hG hf hK
theorem s_X3_takeOther_e {G : Gl} (hG : G.1.stackTraces = false) {C : Cx} {n : Nat} {μ : Mem} {p1 : Int32} {p2 : Int32} {r : (Int32 × Mem)} (hf : f_X3_takeOther μ p1 p2 = some r) (hK : FinR G C F_X3_takeOther (some .int) (some (.int r.1)) r.2) : V G C F_X3_takeOther 0 [some (.ref (G.2.1 + 72)), some (.int p1), some (.int p2), none, none] [] (pic G μ) n 0 0 := by
  unfold f_X3_takeOther at hf
  refine V_aload_n d_X3_takeOther_0 rfl rfl ?_
  refine B_get k_72 fl_RX3_15 d_X3_takeOther_1 g_3_0 ?_
  refine B_getN k_1 fn_RX3_19 d_X3_takeOther_4 g_8_3 ?_
  refine V_istore_n (ls' := [_, _, _, _, _]) d_X3_takeOther_7 rfl rfl rfl ?_
  refine V_aload_n d_X3_takeOther_8 rfl rfl ?_
  refine B_get k_72 fl_RX3_15 d_X3_takeOther_9 g_3_0 ?_
  refine V_iconst (v := 0) d_X3_takeOther_12 ic_0 ?_
  refine V_aload_n d_X3_takeOther_13 rfl rfl ?_
  refine B_get k_72 fl_RX3_9 d_X3_takeOther_14 g_3_2 ?_
  refine B_get k_18 fl_RX3_68 d_X3_takeOther_17 g_2_0 ?_
  refine V_iconst (v := 1) d_X3_takeOther_20 ic_1 ?_
  refine V_isub d_X3_takeOther_21 ?_
  obtain ⟨q1, hq1, hf⟩ := ob hf
  refine B_callV1 (s_X8_takeNumber hG hq1) k_1 clX8 m_X8_takeNumber kv_RX3_53 d_X3_takeOther_22 rfl (Nat.le_of_ble_eq_true rfl) ⟨rfl, rfl, Nat.le_of_ble_eq_true rfl, Nat.le_of_ble_eq_true rfl, Nat.le_of_ble_eq_true rfl⟩ (fun n => ?_)
  refine V_istore (ls' := [_, _, _, _, _]) d_X3_takeOther_25 rfl rfl ?_
  refine V_iload d_X3_takeOther_27 rfl ?_
  refine V_iload_n d_X3_takeOther_29 rfl rfl ?_
  refine V_icmp_eq (tgt := 39) d_X3_takeOther_30 (by decide) (fun c30 => ?_) (fun c30 => ?_)
  · replace hf := iteT c30 hf
    refine V_less (ls' := [some _, none, none, some _, some _]) ⟨rfl, rfl, rfl, trivial⟩ ?_
    exact s_X3_takeOther_j39 hG hf hK
  · replace hf := iteF c30 hf
    refine V_iload d_X3_takeOther_33 rfl ?_
    refine V_iload_n d_X3_takeOther_35 rfl rfl ?_
    refine V_icmp_ne (tgt := 47) d_X3_takeOther_36 (by decide) (fun c36 => ?_) (fun c36 => ?_)
    · replace hf := iteF c36 hf
      refine V_less (ls' := [none, none, none, none, some _]) ⟨rfl, trivial⟩ ?_
      exact s_X3_takeOther_j47 hG hf hK
    · replace hf := iteT c36 hf
      refine V_less (ls' := [some _, none, none, some _, some _]) ⟨rfl, rfl, rfl, trivial⟩ ?_
      exact s_X3_takeOther_j39 hG hf hK
theorem s_X3_takeOther {G : Gl} (hG : G.1.stackTraces = false) {μ : Mem} {p1 : Int32} {p2 : Int32} {r : (Int32 × Mem)} (hf : f_X3_takeOther μ p1 p2 = some r) : Rt G yX3_takeOther F_X3_takeOther (some .int) [.ref (G.2.1 + 72), .int p1, .int p2] μ (some (.int r.1)) r.2 := fun n => Sd.of hG ⟨by decide +kernel, rfl, rfl⟩ rfl (Nat.le_of_ble_eq_true rfl) rfl (fun C hK => s_X3_takeOther_e hG hf hK)
theorem d_X3_readPledge_0 : decode cX3_readPledge 0 = .ok (.aload_n 0, 1) := by decide +kernel
theorem d_X3_readPledge_1 : decode cX3_readPledge 1 = .ok (.invokevirtual 86, 3) := by decide +kernel
theorem d_X3_readPledge_4 : decode cX3_readPledge 4 = .ok (.istore_n 1, 1) := by decide +kernel
theorem d_X3_readPledge_5 : decode cX3_readPledge 5 = .ok (.iload_n 1, 1) := by decide +kernel
theorem d_X3_readPledge_6 : decode cX3_readPledge 6 = .ok (.invokestatic 90, 3) := by decide +kernel
theorem d_X3_readPledge_9 : decode cX3_readPledge 9 = .ok (.istore_n 2, 1) := by decide +kernel
theorem d_X3_readPledge_10 : decode cX3_readPledge 10 = .ok (.aload_n 0, 1) := by decide +kernel
theorem d_X3_readPledge_11 : decode cX3_readPledge 11 = .ok (.getfield 15, 3) := by decide +kernel
theorem d_X3_readPledge_14 : decode cX3_readPledge 14 = .ok (.ldc 94, 2) := by decide +kernel
theorem d_X3_readPledge_16 : decode cX3_readPledge 16 = .ok (.invokevirtual 73, 3) := by decide +kernel
theorem d_X3_readPledge_19 : decode cX3_readPledge 19 = .ok (.aload_n 0, 1) := by decide +kernel
theorem d_X3_readPledge_20 : decode cX3_readPledge 20 = .ok (.iload_n 2, 1) := by decide +kernel
theorem d_X3_readPledge_21 : decode cX3_readPledge 21 = .ok (.iload_n 2, 1) := by decide +kernel
theorem d_X3_readPledge_22 : decode cX3_readPledge 22 = .ok (.invokevirtual 96, 3) := by decide +kernel
theorem d_X3_readPledge_25 : decode cX3_readPledge 25 = .ok (.istore_n 3, 1) := by decide +kernel
theorem d_X3_readPledge_26 : decode cX3_readPledge 26 = .ok (.aload_n 0, 1) := by decide +kernel
theorem d_X3_readPledge_27 : decode cX3_readPledge 27 = .ok (.getfield 15, 3) := by decide +kernel
theorem d_X3_readPledge_30 : decode cX3_readPledge 30 = .ok (.ldc 99, 2) := by decide +kernel
theorem d_X3_readPledge_32 : decode cX3_readPledge 32 = .ok (.invokevirtual 73, 3) := by decide +kernel
theorem d_X3_readPledge_35 : decode cX3_readPledge 35 = .ok (.aload_n 0, 1) := by decide +kernel
theorem d_X3_readPledge_36 : decode cX3_readPledge 36 = .ok (.getfield 15, 3) := by decide +kernel
theorem d_X3_readPledge_39 : decode cX3_readPledge 39 = .ok (.iconst 1, 1) := by decide +kernel
theorem d_X3_readPledge_40 : decode cX3_readPledge 40 = .ok (.sipush 999, 3) := by decide +kernel
theorem d_X3_readPledge_43 : decode cX3_readPledge 43 = .ok (.invokevirtual 53, 3) := by decide +kernel
theorem d_X3_readPledge_46 : decode cX3_readPledge 46 = .ok (.istore 4, 2) := by decide +kernel
theorem d_X3_readPledge_48 : decode cX3_readPledge 48 = .ok (.aload_n 0, 1) := by decide +kernel
theorem d_X3_readPledge_49 : decode cX3_readPledge 49 = .ok (.getfield 15, 3) := by decide +kernel
theorem d_X3_readPledge_52 : decode cX3_readPledge 52 = .ok (.ldc 101, 2) := by decide +kernel
theorem d_X3_readPledge_54 : decode cX3_readPledge 54 = .ok (.invokevirtual 73, 3) := by decide +kernel
theorem d_X3_readPledge_57 : decode cX3_readPledge 57 = .ok (.aload_n 0, 1) := by decide +kernel
theorem d_X3_readPledge_58 : decode cX3_readPledge 58 = .ok (.getfield 15, 3) := by decide +kernel
theorem d_X3_readPledge_61 : decode cX3_readPledge 61 = .ok (.iconst 0, 1) := by decide +kernel
theorem d_X3_readPledge_62 : decode cX3_readPledge 62 = .ok (.bipush 9, 2) := by decide +kernel
theorem d_X3_readPledge_64 : decode cX3_readPledge 64 = .ok (.invokevirtual 53, 3) := by decide +kernel
theorem d_X3_readPledge_67 : decode cX3_readPledge 67 = .ok (.istore 5, 2) := by decide +kernel
theorem d_X3_readPledge_69 : decode cX3_readPledge 69 = .ok (.aload_n 0, 1) := by decide +kernel
theorem d_X3_readPledge_70 : decode cX3_readPledge 70 = .ok (.getfield 15, 3) := by decide +kernel
theorem d_X3_readPledge_73 : decode cX3_readPledge 73 = .ok (.ldc 103, 2) := by decide +kernel
theorem d_X3_readPledge_75 : decode cX3_readPledge 75 = .ok (.invokevirtual 73, 3) := by decide +kernel
theorem d_X3_readPledge_78 : decode cX3_readPledge 78 = .ok (.aload_n 0, 1) := by decide +kernel
theorem d_X3_readPledge_79 : decode cX3_readPledge 79 = .ok (.getfield 15, 3) := by decide +kernel
theorem d_X3_readPledge_82 : decode cX3_readPledge 82 = .ok (.iconst 1, 1) := by decide +kernel
theorem d_X3_readPledge_83 : decode cX3_readPledge 83 = .ok (.sipush 999, 3) := by decide +kernel
theorem d_X3_readPledge_86 : decode cX3_readPledge 86 = .ok (.invokevirtual 53, 3) := by decide +kernel
theorem d_X3_readPledge_89 : decode cX3_readPledge 89 = .ok (.istore 6, 2) := by decide +kernel
theorem d_X3_readPledge_91 : decode cX3_readPledge 91 = .ok (.aload_n 0, 1) := by decide +kernel
theorem d_X3_readPledge_92 : decode cX3_readPledge 92 = .ok (.getfield 15, 3) := by decide +kernel
theorem d_X3_readPledge_95 : decode cX3_readPledge 95 = .ok (.ldc 105, 2) := by decide +kernel
theorem d_X3_readPledge_97 : decode cX3_readPledge 97 = .ok (.invokevirtual 27, 3) := by decide +kernel
theorem d_X3_readPledge_100 : decode cX3_readPledge 100 = .ok (.ifCond .eq 12, 3) := by decide +kernel
theorem d_X3_readPledge_103 : decode cX3_readPledge 103 = .ok (.aload_n 0, 1) := by decide +kernel
theorem d_X3_readPledge_104 : decode cX3_readPledge 104 = .ok (.iload_n 2, 1) := by decide +kernel
theorem d_X3_readPledge_105 : decode cX3_readPledge 105 = .ok (.iload_n 3, 1) := by decide +kernel
theorem d_X3_readPledge_106 : decode cX3_readPledge 106 = .ok (.invokevirtual 96, 3) := by decide +kernel
theorem d_X3_readPledge_109 : decode cX3_readPledge 109 = .ok (.goto 4, 3) := by decide +kernel
theorem d_X3_readPledge_112 : decode cX3_readPledge 112 = .ok (.iconst (-1), 1) := by decide +kernel
theorem d_X3_readPledge_113 : decode cX3_readPledge 113 = .ok (.istore 7, 2) := by decide +kernel
theorem d_X3_readPledge_115 : decode cX3_readPledge 115 = .ok (.aload_n 0, 1) := by decide +kernel
theorem d_X3_readPledge_116 : decode cX3_readPledge 116 = .ok (.getfield 15, 3) := by decide +kernel
theorem d_X3_readPledge_119 : decode cX3_readPledge 119 = .ok (.invokevirtual 78, 3) := by decide +kernel
theorem d_X3_readPledge_122 : decode cX3_readPledge 122 = .ok (.ifCond .eq 20, 3) := by decide +kernel
theorem d_X3_readPledge_125 : decode cX3_readPledge 125 = .ok (.aload_n 0, 1) := by decide +kernel
theorem d_X3_readPledge_126 : decode cX3_readPledge 126 = .ok (.getfield 9, 3) := by decide +kernel
theorem d_X3_readPledge_129 : decode cX3_readPledge 129 = .ok (.iload_n 1, 1) := by decide +kernel
theorem d_X3_readPledge_130 : decode cX3_readPledge 130 = .ok (.iload_n 3, 1) := by decide +kernel
theorem d_X3_readPledge_131 : decode cX3_readPledge 131 = .ok (.iload 4, 2) := by decide +kernel
theorem d_X3_readPledge_133 : decode cX3_readPledge 133 = .ok (.iload 5, 2) := by decide +kernel
theorem d_X3_readPledge_135 : decode cX3_readPledge 135 = .ok (.iload 6, 2) := by decide +kernel
theorem d_X3_readPledge_137 : decode cX3_readPledge 137 = .ok (.iload 7, 2) := by decide +kernel
theorem d_X3_readPledge_139 : decode cX3_readPledge 139 = .ok (.invokevirtual 107, 3) := by decide +kernel
theorem d_X3_readPledge_142 : decode cX3_readPledge 142 = .ok (.return_, 1) := by decide +kernel
theorem s_X3_readPledge_j142 {G : Gl} (hG : G.1.stackTraces = false) {C : Cx} {n : Nat} {μ : Mem}  {r : Mem} (hf : f_X3_readPledge_j142 μ = some r) (hK : FinR G C F_X3_readPledge none none r) : V G C F_X3_readPledge 142 [none, none, none, none, none, none, none, none] [] (pic G μ) n 0 0 := by
  unfold f_X3_readPledge_j142 at hf
  cases hf
  exact R_v hK d_X3_readPledge_142 (Nat.le_of_ble_eq_true rfl) (Nat.le_of_ble_eq_true rfl)
theorem s_X3_readPledge_j113 {G : Gl} (hG : G.1.stackTraces = false) {C : Cx} {n : Nat} {μ : Mem} {l1 : Int32} {l3 : Int32} {l4 : Int32} {l5 : Int32} {l6 : Int32} {k0 : Int32} {r : Mem} (hf : f_X3_readPledge_j113 μ l1 l3 l4 l5 l6 k0 = some r) (hK : FinR G C F_X3_readPledge none none r) : V G C F_X3_readPledge 113 [some (.ref (G.2.1 + 72)), some (.int l1), none, some (.int l3), some (.int l4), some (.int l5), some (.int l6), none] [.int k0] (pic G μ) n 0 0 := by
  unfold f_X3_readPledge_j113 at hf
  refine V_istore (ls' := [_, _, _, _, _, _, _, _]) d_X3_readPledge_113 rfl rfl ?_
  refine V_aload_n d_X3_readPledge_115 rfl rfl ?_
  refine B_get k_72 fl_RX3_15 d_X3_readPledge_116 g_3_0 ?_
  obtain ⟨t1, ht1, hf⟩ := ob hf
  refine B_callV1 (s_X8_isRight hG ht1) k_1 clX8 m_X8_isRight kv_RX3_78 d_X3_readPledge_119 rfl (Nat.le_of_ble_eq_true rfl) ⟨rfl, rfl, Nat.le_of_ble_eq_true rfl, Nat.le_of_ble_eq_true rfl, Nat.le_of_ble_eq_true rfl⟩ (fun n => ?_)
  refine V_if_eq (tgt := 142) d_X3_readPledge_122 (by decide) (fun c122 => ?_) (fun c122 => ?_)
  · replace hf := iteF (b2i_nt (b2i_eq0 c122)) hf
    refine V_less (ls' := [none, none, none, none, none, none, none, none]) trivial ?_
    exact s_X3_readPledge_j142 hG hf hK
  · replace hf := iteT (b2i_ne0 c122) hf
    refine V_aload_n d_X3_readPledge_125 rfl rfl ?_
    refine B_get k_72 fl_RX3_9 d_X3_readPledge_126 g_3_2 ?_
    refine V_iload_n d_X3_readPledge_129 rfl rfl ?_
    refine V_iload_n d_X3_readPledge_130 rfl rfl ?_
    refine V_iload d_X3_readPledge_131 rfl ?_
    refine V_iload d_X3_readPledge_133 rfl ?_
    refine V_iload d_X3_readPledge_135 rfl ?_
    refine V_iload d_X3_readPledge_137 rfl ?_
    obtain ⟨q2, hq2, hf⟩ := ob hf
    refine B_callV0 (s_X2_pledge hG L_18 hq2) k_18 clX2 m_X2_pledge kv_RX3_107 d_X3_readPledge_139 rfl (Nat.le_of_ble_eq_true rfl) ⟨rfl, rfl, Nat.le_of_ble_eq_true rfl, Nat.le_of_ble_eq_true rfl, Nat.le_of_ble_eq_true rfl⟩ (fun n => ?_)
    refine V_less (ls' := [none, none, none, none, none, none, none, none]) trivial ?_
    exact s_X3_readPledge_j142 hG hf hK
theorem s_X3_readPledge_e {G : Gl} (hG : G.1.stackTraces = false) {C : Cx} {n : Nat} {μ : Mem}  {r : Mem} (hf : f_X3_readPledge μ = some r) (hK : FinR G C F_X3_readPledge none none r) : V G C F_X3_readPledge 0 [some (.ref (G.2.1 + 72)), none, none, none, none, none, none, none] [] (pic G μ) n 0 0 := by
  unfold f_X3_readPledge at hf
  refine V_aload_n d_X3_readPledge_0 rfl rfl ?_
  obtain ⟨q1, hq1, hf⟩ := ob hf
  refine B_callV1 (s_X3_takeLaceInShoe hG hq1) k_72 clX3 m_X3_takeLaceInShoe kv_RX3_86 d_X3_readPledge_1 rfl (Nat.le_of_ble_eq_true rfl) ⟨rfl, rfl, Nat.le_of_ble_eq_true rfl, Nat.le_of_ble_eq_true rfl, Nat.le_of_ble_eq_true rfl⟩ (fun n => ?_)
  refine V_istore_n (ls' := [_, _, _, _, _, _, _, _]) d_X3_readPledge_4 rfl rfl rfl ?_
  refine V_iload_n d_X3_readPledge_5 rfl rfl ?_
  obtain ⟨t2, ht2, hf⟩ := ob hf
  refine B_callSN1 (s_X11_ownerOf hG ht2) m_X11_ownerOf ks_RX3_90 d_X3_readPledge_6 rfl (Nat.le_of_ble_eq_true rfl) ⟨rfl, rfl, Nat.le_of_ble_eq_true rfl, Nat.le_of_ble_eq_true rfl, Nat.le_of_ble_eq_true rfl⟩ (fun n => ?_)
  refine V_istore_n (ls' := [_, _, _, _, _, _, _, _]) d_X3_readPledge_9 rfl rfl rfl ?_
  refine V_aload_n d_X3_readPledge_10 rfl rfl ?_
  refine B_get k_72 fl_RX3_15 d_X3_readPledge_11 g_3_0 ?_
  refine V_ldcS (i := 2) d_X3_readPledge_14 sT_RX3_94 ?_
  obtain ⟨q3, hq3, hf⟩ := ob hf
  refine B_callV0 (s_X8_needWord hG sS_2 hq3) k_1 clX8 m_X8_needWord kv_RX3_73 d_X3_readPledge_16 rfl (Nat.le_of_ble_eq_true rfl) ⟨rfl, rfl, Nat.le_of_ble_eq_true rfl, Nat.le_of_ble_eq_true rfl, Nat.le_of_ble_eq_true rfl⟩ (fun n => ?_)
  refine V_aload_n d_X3_readPledge_19 rfl rfl ?_
  refine V_iload_n d_X3_readPledge_20 rfl rfl ?_
  refine V_iload_n d_X3_readPledge_21 rfl rfl ?_
  obtain ⟨q4, hq4, hf⟩ := ob hf
  refine B_callV1 (s_X3_takeOther hG hq4) k_72 clX3 m_X3_takeOther kv_RX3_96 d_X3_readPledge_22 rfl (Nat.le_of_ble_eq_true rfl) ⟨rfl, rfl, Nat.le_of_ble_eq_true rfl, Nat.le_of_ble_eq_true rfl, Nat.le_of_ble_eq_true rfl⟩ (fun n => ?_)
  refine V_istore_n (ls' := [_, _, _, _, _, _, _, _]) d_X3_readPledge_25 rfl rfl rfl ?_
  refine V_aload_n d_X3_readPledge_26 rfl rfl ?_
  refine B_get k_72 fl_RX3_15 d_X3_readPledge_27 g_3_0 ?_
  refine V_ldcS (i := 3) d_X3_readPledge_30 sT_RX3_99 ?_
  obtain ⟨q5, hq5, hf⟩ := ob hf
  refine B_callV0 (s_X8_needWord hG sS_3 hq5) k_1 clX8 m_X8_needWord kv_RX3_73 d_X3_readPledge_32 rfl (Nat.le_of_ble_eq_true rfl) ⟨rfl, rfl, Nat.le_of_ble_eq_true rfl, Nat.le_of_ble_eq_true rfl, Nat.le_of_ble_eq_true rfl⟩ (fun n => ?_)
  refine V_aload_n d_X3_readPledge_35 rfl rfl ?_
  refine B_get k_72 fl_RX3_15 d_X3_readPledge_36 g_3_0 ?_
  refine V_iconst (v := 1) d_X3_readPledge_39 ic_1 ?_
  refine V_sipush (v := 999) d_X3_readPledge_40 sp_999 ?_
  obtain ⟨q6, hq6, hf⟩ := ob hf
  refine B_callV1 (s_X8_takeNumber hG hq6) k_1 clX8 m_X8_takeNumber kv_RX3_53 d_X3_readPledge_43 rfl (Nat.le_of_ble_eq_true rfl) ⟨rfl, rfl, Nat.le_of_ble_eq_true rfl, Nat.le_of_ble_eq_true rfl, Nat.le_of_ble_eq_true rfl⟩ (fun n => ?_)
  refine V_istore (ls' := [_, _, _, _, _, _, _, _]) d_X3_readPledge_46 rfl rfl ?_
  refine V_aload_n d_X3_readPledge_48 rfl rfl ?_
  refine B_get k_72 fl_RX3_15 d_X3_readPledge_49 g_3_0 ?_
  refine V_ldcS (i := 4) d_X3_readPledge_52 sT_RX3_101 ?_
  obtain ⟨q7, hq7, hf⟩ := ob hf
  refine B_callV0 (s_X8_needWord hG sS_4 hq7) k_1 clX8 m_X8_needWord kv_RX3_73 d_X3_readPledge_54 rfl (Nat.le_of_ble_eq_true rfl) ⟨rfl, rfl, Nat.le_of_ble_eq_true rfl, Nat.le_of_ble_eq_true rfl, Nat.le_of_ble_eq_true rfl⟩ (fun n => ?_)
  refine V_aload_n d_X3_readPledge_57 rfl rfl ?_
  refine B_get k_72 fl_RX3_15 d_X3_readPledge_58 g_3_0 ?_
  refine V_iconst (v := 0) d_X3_readPledge_61 ic_0 ?_
  refine V_bipush (v := 9) d_X3_readPledge_62 bp_9 ?_
  obtain ⟨q8, hq8, hf⟩ := ob hf
  refine B_callV1 (s_X8_takeNumber hG hq8) k_1 clX8 m_X8_takeNumber kv_RX3_53 d_X3_readPledge_64 rfl (Nat.le_of_ble_eq_true rfl) ⟨rfl, rfl, Nat.le_of_ble_eq_true rfl, Nat.le_of_ble_eq_true rfl, Nat.le_of_ble_eq_true rfl⟩ (fun n => ?_)
  refine V_istore (ls' := [_, _, _, _, _, _, _, _]) d_X3_readPledge_67 rfl rfl ?_
  refine V_aload_n d_X3_readPledge_69 rfl rfl ?_
  refine B_get k_72 fl_RX3_15 d_X3_readPledge_70 g_3_0 ?_
  refine V_ldcS (i := 5) d_X3_readPledge_73 sT_RX3_103 ?_
  obtain ⟨q9, hq9, hf⟩ := ob hf
  refine B_callV0 (s_X8_needWord hG sS_5 hq9) k_1 clX8 m_X8_needWord kv_RX3_73 d_X3_readPledge_75 rfl (Nat.le_of_ble_eq_true rfl) ⟨rfl, rfl, Nat.le_of_ble_eq_true rfl, Nat.le_of_ble_eq_true rfl, Nat.le_of_ble_eq_true rfl⟩ (fun n => ?_)
  refine V_aload_n d_X3_readPledge_78 rfl rfl ?_
  refine B_get k_72 fl_RX3_15 d_X3_readPledge_79 g_3_0 ?_
  refine V_iconst (v := 1) d_X3_readPledge_82 ic_1 ?_
  refine V_sipush (v := 999) d_X3_readPledge_83 sp_999 ?_
  obtain ⟨q10, hq10, hf⟩ := ob hf
  refine B_callV1 (s_X8_takeNumber hG hq10) k_1 clX8 m_X8_takeNumber kv_RX3_53 d_X3_readPledge_86 rfl (Nat.le_of_ble_eq_true rfl) ⟨rfl, rfl, Nat.le_of_ble_eq_true rfl, Nat.le_of_ble_eq_true rfl, Nat.le_of_ble_eq_true rfl⟩ (fun n => ?_)
  refine V_istore (ls' := [_, _, _, _, _, _, _, _]) d_X3_readPledge_89 rfl rfl ?_
  refine V_aload_n d_X3_readPledge_91 rfl rfl ?_
  refine B_get k_72 fl_RX3_15 d_X3_readPledge_92 g_3_0 ?_
  refine V_ldcS (i := 6) d_X3_readPledge_95 sT_RX3_105 ?_
  obtain ⟨q11, hq11, hf⟩ := ob hf
  refine B_callV1 (s_X8_takesWord hG sS_6 hq11) k_1 clX8 m_X8_takesWord kv_RX3_27 d_X3_readPledge_97 rfl (Nat.le_of_ble_eq_true rfl) ⟨rfl, rfl, Nat.le_of_ble_eq_true rfl, Nat.le_of_ble_eq_true rfl, Nat.le_of_ble_eq_true rfl⟩ (fun n => ?_)
  refine V_if_eq (tgt := 112) d_X3_readPledge_100 (by decide) (fun c100 => ?_) (fun c100 => ?_)
  · replace hf := iteF (b2i_nt (b2i_eq0 c100)) hf
    refine V_iconst (v := (-1)) d_X3_readPledge_112 ic_m1 ?_
    refine V_less (ls' := [some _, some _, none, some _, some _, some _, some _, none]) ⟨rfl, rfl, rfl, rfl, rfl, rfl, trivial⟩ ?_
    exact s_X3_readPledge_j113 hG hf hK
  · replace hf := iteT (b2i_ne0 c100) hf
    refine V_aload_n d_X3_readPledge_103 rfl rfl ?_
    refine V_iload_n d_X3_readPledge_104 rfl rfl ?_
    refine V_iload_n d_X3_readPledge_105 rfl rfl ?_
    obtain ⟨q12, hq12, hf⟩ := ob hf
    refine B_callV1 (s_X3_takeOther hG hq12) k_72 clX3 m_X3_takeOther kv_RX3_96 d_X3_readPledge_106 rfl (Nat.le_of_ble_eq_true rfl) ⟨rfl, rfl, Nat.le_of_ble_eq_true rfl, Nat.le_of_ble_eq_true rfl, Nat.le_of_ble_eq_true rfl⟩ (fun n => ?_)
    refine V_goto (tgt := 113) d_X3_readPledge_109 (by decide) ?_
    refine V_less (ls' := [some _, some _, none, some _, some _, some _, some _, none]) ⟨rfl, rfl, rfl, rfl, rfl, rfl, trivial⟩ ?_
    exact s_X3_readPledge_j113 hG hf hK
theorem s_X3_readPledge {G : Gl} (hG : G.1.stackTraces = false) {μ : Mem} {r : Mem} (hf : f_X3_readPledge μ = some r) : Rt G yX3_readPledge F_X3_readPledge none [.ref (G.2.1 + 72)] μ none r := fun n => Sd.of hG ⟨by decide +kernel, rfl, rfl⟩ rfl (Nat.le_of_ble_eq_true rfl) rfl (fun C hK => s_X3_readPledge_e hG hf hK)
theorem d_X3_readMud_0 : decode cX3_readMud 0 = .ok (.aload_n 0, 1) := by decide +kernel
theorem d_X3_readMud_1 : decode cX3_readMud 1 = .ok (.getfield 15, 3) := by decide +kernel
theorem d_X3_readMud_4 : decode cX3_readMud 4 = .ok (.iconst 0, 1) := by decide +kernel
theorem d_X3_readMud_5 : decode cX3_readMud 5 = .ok (.bipush 19, 2) := by decide +kernel
theorem d_X3_readMud_7 : decode cX3_readMud 7 = .ok (.invokevirtual 53, 3) := by decide +kernel
theorem d_X3_readMud_10 : decode cX3_readMud 10 = .ok (.istore_n 1, 1) := by decide +kernel
theorem d_X3_readMud_11 : decode cX3_readMud 11 = .ok (.aload_n 0, 1) := by decide +kernel
theorem d_X3_readMud_12 : decode cX3_readMud 12 = .ok (.getfield 15, 3) := by decide +kernel
theorem d_X3_readMud_15 : decode cX3_readMud 15 = .ok (.iconst 0, 1) := by decide +kernel
theorem d_X3_readMud_16 : decode cX3_readMud 16 = .ok (.bipush 9, 2) := by decide +kernel
theorem d_X3_readMud_18 : decode cX3_readMud 18 = .ok (.invokevirtual 53, 3) := by decide +kernel
theorem d_X3_readMud_21 : decode cX3_readMud 21 = .ok (.istore_n 2, 1) := by decide +kernel
theorem d_X3_readMud_22 : decode cX3_readMud 22 = .ok (.aload_n 0, 1) := by decide +kernel
theorem d_X3_readMud_23 : decode cX3_readMud 23 = .ok (.getfield 15, 3) := by decide +kernel
theorem d_X3_readMud_26 : decode cX3_readMud 26 = .ok (.invokevirtual 78, 3) := by decide +kernel
theorem d_X3_readMud_29 : decode cX3_readMud 29 = .ok (.ifCond .eq 13, 3) := by decide +kernel
theorem d_X3_readMud_32 : decode cX3_readMud 32 = .ok (.aload_n 0, 1) := by decide +kernel
theorem d_X3_readMud_33 : decode cX3_readMud 33 = .ok (.getfield 9, 3) := by decide +kernel
theorem d_X3_readMud_36 : decode cX3_readMud 36 = .ok (.getfield 110, 3) := by decide +kernel
theorem d_X3_readMud_39 : decode cX3_readMud 39 = .ok (.iload_n 1, 1) := by decide +kernel
theorem d_X3_readMud_40 : decode cX3_readMud 40 = .ok (.iload_n 2, 1) := by decide +kernel
theorem d_X3_readMud_41 : decode cX3_readMud 41 = .ok (.iastore, 1) := by decide +kernel
theorem d_X3_readMud_42 : decode cX3_readMud 42 = .ok (.return_, 1) := by decide +kernel
theorem s_X3_readMud_j42 {G : Gl} (hG : G.1.stackTraces = false) {C : Cx} {n : Nat} {μ : Mem}  {r : Mem} (hf : f_X3_readMud_j42 μ = some r) (hK : FinR G C F_X3_readMud none none r) : V G C F_X3_readMud 42 [none, none, none] [] (pic G μ) n 0 0 := by
  unfold f_X3_readMud_j42 at hf
  cases hf
  exact R_v hK d_X3_readMud_42 (Nat.le_of_ble_eq_true rfl) (Nat.le_of_ble_eq_true rfl)
theorem s_X3_readMud_e {G : Gl} (hG : G.1.stackTraces = false) {C : Cx} {n : Nat} {μ : Mem}  {r : Mem} (hf : f_X3_readMud μ = some r) (hK : FinR G C F_X3_readMud none none r) : V G C F_X3_readMud 0 [some (.ref (G.2.1 + 72)), none, none] [] (pic G μ) n 0 0 := by
  unfold f_X3_readMud at hf
  refine V_aload_n d_X3_readMud_0 rfl rfl ?_
  refine B_get k_72 fl_RX3_15 d_X3_readMud_1 g_3_0 ?_
  refine V_iconst (v := 0) d_X3_readMud_4 ic_0 ?_
  refine V_bipush (v := 19) d_X3_readMud_5 bp_19 ?_
  obtain ⟨q1, hq1, hf⟩ := ob hf
  refine B_callV1 (s_X8_takeNumber hG hq1) k_1 clX8 m_X8_takeNumber kv_RX3_53 d_X3_readMud_7 rfl (Nat.le_of_ble_eq_true rfl) ⟨rfl, rfl, Nat.le_of_ble_eq_true rfl, Nat.le_of_ble_eq_true rfl, Nat.le_of_ble_eq_true rfl⟩ (fun n => ?_)
  refine V_istore_n (ls' := [_, _, _]) d_X3_readMud_10 rfl rfl rfl ?_
  refine V_aload_n d_X3_readMud_11 rfl rfl ?_
  refine B_get k_72 fl_RX3_15 d_X3_readMud_12 g_3_0 ?_
  refine V_iconst (v := 0) d_X3_readMud_15 ic_0 ?_
  refine V_bipush (v := 9) d_X3_readMud_16 bp_9 ?_
  obtain ⟨q2, hq2, hf⟩ := ob hf
  refine B_callV1 (s_X8_takeNumber hG hq2) k_1 clX8 m_X8_takeNumber kv_RX3_53 d_X3_readMud_18 rfl (Nat.le_of_ble_eq_true rfl) ⟨rfl, rfl, Nat.le_of_ble_eq_true rfl, Nat.le_of_ble_eq_true rfl, Nat.le_of_ble_eq_true rfl⟩ (fun n => ?_)
  refine V_istore_n (ls' := [_, _, _]) d_X3_readMud_21 rfl rfl rfl ?_
  refine V_aload_n d_X3_readMud_22 rfl rfl ?_
  refine B_get k_72 fl_RX3_15 d_X3_readMud_23 g_3_0 ?_
  obtain ⟨t3, ht3, hf⟩ := ob hf
  refine B_callV1 (s_X8_isRight hG ht3) k_1 clX8 m_X8_isRight kv_RX3_78 d_X3_readMud_26 rfl (Nat.le_of_ble_eq_true rfl) ⟨rfl, rfl, Nat.le_of_ble_eq_true rfl, Nat.le_of_ble_eq_true rfl, Nat.le_of_ble_eq_true rfl⟩ (fun n => ?_)
  refine V_if_eq (tgt := 42) d_X3_readMud_29 (by decide) (fun c29 => ?_) (fun c29 => ?_)
  · replace hf := iteF (b2i_nt (b2i_eq0 c29)) hf
    refine V_less (ls' := [none, none, none]) trivial ?_
    exact s_X3_readMud_j42 hG hf hK
  · replace hf := iteT (b2i_ne0 c29) hf
    refine V_aload_n d_X3_readMud_32 rfl rfl ?_
    refine B_get k_72 fl_RX3_9 d_X3_readMud_33 g_3_2 ?_
    refine B_get k_18 fl_RX3_110 d_X3_readMud_36 g_2_17 ?_
    refine V_iload_n d_X3_readMud_39 rfl rfl ?_
    refine V_iload_n d_X3_readMud_40 rfl rfl ?_
    obtain ⟨μ4, hμ4, hf⟩ := ob hf
    refine B_iast k_30 hμ4 d_X3_readMud_41 ?_
    refine V_less (ls' := [none, none, none]) trivial ?_
    exact s_X3_readMud_j42 hG hf hK
theorem s_X3_readMud {G : Gl} (hG : G.1.stackTraces = false) {μ : Mem} {r : Mem} (hf : f_X3_readMud μ = some r) : Rt G yX3_readMud F_X3_readMud none [.ref (G.2.1 + 72)] μ none r := fun n => Sd.of hG ⟨by decide +kernel, rfl, rfl⟩ rfl (Nat.le_of_ble_eq_true rfl) rfl (fun C hK => s_X3_readMud_e hG hf hK)
theorem d_X3_readGoal_0 : decode cX3_readGoal 0 = .ok (.aload_n 0, 1) := by decide +kernel
theorem d_X3_readGoal_1 : decode cX3_readGoal 1 = .ok (.getfield 15, 3) := by decide +kernel
theorem d_X3_readGoal_4 : decode cX3_readGoal 4 = .ok (.iconst 0, 1) := by decide +kernel
theorem d_X3_readGoal_5 : decode cX3_readGoal 5 = .ok (.aload_n 0, 1) := by decide +kernel
theorem d_X3_readGoal_6 : decode cX3_readGoal 6 = .ok (.getfield 9, 3) := by decide +kernel
theorem d_X3_readGoal_9 : decode cX3_readGoal 9 = .ok (.getfield 68, 3) := by decide +kernel
theorem d_X3_readGoal_12 : decode cX3_readGoal 12 = .ok (.iconst 1, 1) := by decide +kernel
theorem d_X3_readGoal_13 : decode cX3_readGoal 13 = .ok (.isub, 1) := by decide +kernel
theorem d_X3_readGoal_14 : decode cX3_readGoal 14 = .ok (.invokevirtual 53, 3) := by decide +kernel
theorem d_X3_readGoal_17 : decode cX3_readGoal 17 = .ok (.istore_n 1, 1) := by decide +kernel
theorem d_X3_readGoal_18 : decode cX3_readGoal 18 = .ok (.aload_n 0, 1) := by decide +kernel
theorem d_X3_readGoal_19 : decode cX3_readGoal 19 = .ok (.getfield 15, 3) := by decide +kernel
theorem d_X3_readGoal_22 : decode cX3_readGoal 22 = .ok (.iconst 0, 1) := by decide +kernel
theorem d_X3_readGoal_23 : decode cX3_readGoal 23 = .ok (.bipush 19, 2) := by decide +kernel
theorem d_X3_readGoal_25 : decode cX3_readGoal 25 = .ok (.invokevirtual 53, 3) := by decide +kernel
theorem d_X3_readGoal_28 : decode cX3_readGoal 28 = .ok (.istore_n 2, 1) := by decide +kernel
theorem d_X3_readGoal_29 : decode cX3_readGoal 29 = .ok (.aload_n 0, 1) := by decide +kernel
theorem d_X3_readGoal_30 : decode cX3_readGoal 30 = .ok (.getfield 15, 3) := by decide +kernel
theorem d_X3_readGoal_33 : decode cX3_readGoal 33 = .ok (.invokevirtual 78, 3) := by decide +kernel
theorem d_X3_readGoal_36 : decode cX3_readGoal 36 = .ok (.ifCond .eq 13, 3) := by decide +kernel
theorem d_X3_readGoal_39 : decode cX3_readGoal 39 = .ok (.aload_n 0, 1) := by decide +kernel
theorem d_X3_readGoal_40 : decode cX3_readGoal 40 = .ok (.getfield 9, 3) := by decide +kernel
theorem d_X3_readGoal_43 : decode cX3_readGoal 43 = .ok (.getfield 113, 3) := by decide +kernel
theorem d_X3_readGoal_46 : decode cX3_readGoal 46 = .ok (.iload_n 1, 1) := by decide +kernel
theorem d_X3_readGoal_47 : decode cX3_readGoal 47 = .ok (.iload_n 2, 1) := by decide +kernel
theorem d_X3_readGoal_48 : decode cX3_readGoal 48 = .ok (.iastore, 1) := by decide +kernel
theorem d_X3_readGoal_49 : decode cX3_readGoal 49 = .ok (.return_, 1) := by decide +kernel
theorem s_X3_readGoal_j49 {G : Gl} (hG : G.1.stackTraces = false) {C : Cx} {n : Nat} {μ : Mem}  {r : Mem} (hf : f_X3_readGoal_j49 μ = some r) (hK : FinR G C F_X3_readGoal none none r) : V G C F_X3_readGoal 49 [none, none, none] [] (pic G μ) n 0 0 := by
  unfold f_X3_readGoal_j49 at hf
  cases hf
  exact R_v hK d_X3_readGoal_49 (Nat.le_of_ble_eq_true rfl) (Nat.le_of_ble_eq_true rfl)
theorem s_X3_readGoal_e {G : Gl} (hG : G.1.stackTraces = false) {C : Cx} {n : Nat} {μ : Mem}  {r : Mem} (hf : f_X3_readGoal μ = some r) (hK : FinR G C F_X3_readGoal none none r) : V G C F_X3_readGoal 0 [some (.ref (G.2.1 + 72)), none, none] [] (pic G μ) n 0 0 := by
  unfold f_X3_readGoal at hf
  refine V_aload_n d_X3_readGoal_0 rfl rfl ?_
  refine B_get k_72 fl_RX3_15 d_X3_readGoal_1 g_3_0 ?_
  refine V_iconst (v := 0) d_X3_readGoal_4 ic_0 ?_
  refine V_aload_n d_X3_readGoal_5 rfl rfl ?_
  refine B_get k_72 fl_RX3_9 d_X3_readGoal_6 g_3_2 ?_
  refine B_get k_18 fl_RX3_68 d_X3_readGoal_9 g_2_0 ?_
  refine V_iconst (v := 1) d_X3_readGoal_12 ic_1 ?_
  refine V_isub d_X3_readGoal_13 ?_
  obtain ⟨q1, hq1, hf⟩ := ob hf
  refine B_callV1 (s_X8_takeNumber hG hq1) k_1 clX8 m_X8_takeNumber kv_RX3_53 d_X3_readGoal_14 rfl (Nat.le_of_ble_eq_true rfl) ⟨rfl, rfl, Nat.le_of_ble_eq_true rfl, Nat.le_of_ble_eq_true rfl, Nat.le_of_ble_eq_true rfl⟩ (fun n => ?_)
  refine V_istore_n (ls' := [_, _, _]) d_X3_readGoal_17 rfl rfl rfl ?_
  refine V_aload_n d_X3_readGoal_18 rfl rfl ?_
  refine B_get k_72 fl_RX3_15 d_X3_readGoal_19 g_3_0 ?_
  refine V_iconst (v := 0) d_X3_readGoal_22 ic_0 ?_
  refine V_bipush (v := 19) d_X3_readGoal_23 bp_19 ?_
  obtain ⟨q2, hq2, hf⟩ := ob hf
  refine B_callV1 (s_X8_takeNumber hG hq2) k_1 clX8 m_X8_takeNumber kv_RX3_53 d_X3_readGoal_25 rfl (Nat.le_of_ble_eq_true rfl) ⟨rfl, rfl, Nat.le_of_ble_eq_true rfl, Nat.le_of_ble_eq_true rfl, Nat.le_of_ble_eq_true rfl⟩ (fun n => ?_)
  refine V_istore_n (ls' := [_, _, _]) d_X3_readGoal_28 rfl rfl rfl ?_
  refine V_aload_n d_X3_readGoal_29 rfl rfl ?_
  refine B_get k_72 fl_RX3_15 d_X3_readGoal_30 g_3_0 ?_
  obtain ⟨t3, ht3, hf⟩ := ob hf
  refine B_callV1 (s_X8_isRight hG ht3) k_1 clX8 m_X8_isRight kv_RX3_78 d_X3_readGoal_33 rfl (Nat.le_of_ble_eq_true rfl) ⟨rfl, rfl, Nat.le_of_ble_eq_true rfl, Nat.le_of_ble_eq_true rfl, Nat.le_of_ble_eq_true rfl⟩ (fun n => ?_)
  refine V_if_eq (tgt := 49) d_X3_readGoal_36 (by decide) (fun c36 => ?_) (fun c36 => ?_)
  · replace hf := iteF (b2i_nt (b2i_eq0 c36)) hf
    refine V_less (ls' := [none, none, none]) trivial ?_
    exact s_X3_readGoal_j49 hG hf hK
  · replace hf := iteT (b2i_ne0 c36) hf
    refine V_aload_n d_X3_readGoal_39 rfl rfl ?_
    refine B_get k_72 fl_RX3_9 d_X3_readGoal_40 g_3_2 ?_
    refine B_get k_18 fl_RX3_113 d_X3_readGoal_43 g_2_9 ?_
    refine V_iload_n d_X3_readGoal_46 rfl rfl ?_
    refine V_iload_n d_X3_readGoal_47 rfl rfl ?_
    obtain ⟨μ4, hμ4, hf⟩ := ob hf
    refine B_iast k_22 hμ4 d_X3_readGoal_48 ?_
    refine V_less (ls' := [none, none, none]) trivial ?_
    exact s_X3_readGoal_j49 hG hf hK
theorem s_X3_readGoal {G : Gl} (hG : G.1.stackTraces = false) {μ : Mem} {r : Mem} (hf : f_X3_readGoal μ = some r) : Rt G yX3_readGoal F_X3_readGoal none [.ref (G.2.1 + 72)] μ none r := fun n => Sd.of hG ⟨by decide +kernel, rfl, rfl⟩ rfl (Nat.le_of_ble_eq_true rfl) rfl (fun C hK => s_X3_readGoal_e hG hf hK)
theorem d_X3_readLine_0 : decode cX3_readLine 0 = .ok (.aload_n 0, 1) := by decide +kernel
theorem d_X3_readLine_1 : decode cX3_readLine 1 = .ok (.getfield 15, 3) := by decide +kernel
theorem d_X3_readLine_4 : decode cX3_readLine 4 = .ok (.getfield 19, 3) := by decide +kernel
theorem d_X3_readLine_7 : decode cX3_readLine 7 = .ok (.istore_n 1, 1) := by decide +kernel
theorem d_X3_readLine_8 : decode cX3_readLine 8 = .ok (.aload_n 0, 1) := by decide +kernel
theorem d_X3_readLine_9 : decode cX3_readLine 9 = .ok (.getfield 15, 3) := by decide +kernel
theorem d_X3_readLine_12 : decode cX3_readLine 12 = .ok (.ldc 25, 2) := by decide +kernel
theorem d_X3_readLine_14 : decode cX3_readLine 14 = .ok (.invokevirtual 27, 3) := by decide +kernel
theorem d_X3_readLine_17 : decode cX3_readLine 17 = .ok (.ifCond .eq 11, 3) := by decide +kernel
theorem d_X3_readLine_20 : decode cX3_readLine 20 = .ok (.aload_n 0, 1) := by decide +kernel
theorem d_X3_readLine_21 : decode cX3_readLine 21 = .ok (.iload_n 1, 1) := by decide +kernel
theorem d_X3_readLine_22 : decode cX3_readLine 22 = .ok (.invokevirtual 31, 3) := by decide +kernel
theorem d_X3_readLine_25 : decode cX3_readLine 25 = .ok (.goto 133, 3) := by decide +kernel
theorem d_X3_readLine_28 : decode cX3_readLine 28 = .ok (.aload_n 0, 1) := by decide +kernel
theorem d_X3_readLine_29 : decode cX3_readLine 29 = .ok (.getfield 15, 3) := by decide +kernel
theorem d_X3_readLine_32 : decode cX3_readLine 32 = .ok (.ldc 35, 2) := by decide +kernel
theorem d_X3_readLine_34 : decode cX3_readLine 34 = .ok (.invokevirtual 27, 3) := by decide +kernel
theorem d_X3_readLine_37 : decode cX3_readLine 37 = .ok (.ifCond .eq 10, 3) := by decide +kernel
theorem d_X3_readLine_40 : decode cX3_readLine 40 = .ok (.aload_n 0, 1) := by decide +kernel
theorem d_X3_readLine_41 : decode cX3_readLine 41 = .ok (.invokevirtual 37, 3) := by decide +kernel
theorem d_X3_readLine_44 : decode cX3_readLine 44 = .ok (.goto 114, 3) := by decide +kernel
theorem d_X3_readLine_47 : decode cX3_readLine 47 = .ok (.aload_n 0, 1) := by decide +kernel
theorem d_X3_readLine_48 : decode cX3_readLine 48 = .ok (.getfield 15, 3) := by decide +kernel
theorem d_X3_readLine_51 : decode cX3_readLine 51 = .ok (.ldc 41, 2) := by decide +kernel
theorem d_X3_readLine_53 : decode cX3_readLine 53 = .ok (.invokevirtual 27, 3) := by decide +kernel
theorem d_X3_readLine_56 : decode cX3_readLine 56 = .ok (.ifCond .eq 10, 3) := by decide +kernel
theorem d_X3_readLine_59 : decode cX3_readLine 59 = .ok (.aload_n 0, 1) := by decide +kernel
theorem d_X3_readLine_60 : decode cX3_readLine 60 = .ok (.invokevirtual 43, 3) := by decide +kernel
theorem d_X3_readLine_63 : decode cX3_readLine 63 = .ok (.goto 95, 3) := by decide +kernel
theorem d_X3_readLine_66 : decode cX3_readLine 66 = .ok (.aload_n 0, 1) := by decide +kernel
theorem d_X3_readLine_67 : decode cX3_readLine 67 = .ok (.getfield 15, 3) := by decide +kernel
theorem d_X3_readLine_70 : decode cX3_readLine 70 = .ok (.ldc 46, 2) := by decide +kernel
theorem d_X3_readLine_72 : decode cX3_readLine 72 = .ok (.invokevirtual 27, 3) := by decide +kernel
theorem d_X3_readLine_75 : decode cX3_readLine 75 = .ok (.ifCond .eq 10, 3) := by decide +kernel
theorem d_X3_readLine_78 : decode cX3_readLine 78 = .ok (.aload_n 0, 1) := by decide +kernel
theorem d_X3_readLine_79 : decode cX3_readLine 79 = .ok (.invokevirtual 48, 3) := by decide +kernel
theorem d_X3_readLine_82 : decode cX3_readLine 82 = .ok (.goto 76, 3) := by decide +kernel
theorem d_X3_readLine_85 : decode cX3_readLine 85 = .ok (.aload_n 0, 1) := by decide +kernel
theorem d_X3_readLine_86 : decode cX3_readLine 86 = .ok (.getfield 15, 3) := by decide +kernel
theorem d_X3_readLine_89 : decode cX3_readLine 89 = .ok (.ldc 51, 2) := by decide +kernel
theorem d_X3_readLine_91 : decode cX3_readLine 91 = .ok (.invokevirtual 27, 3) := by decide +kernel
theorem d_X3_readLine_94 : decode cX3_readLine 94 = .ok (.ifCond .eq 23, 3) := by decide +kernel
theorem d_X3_readLine_97 : decode cX3_readLine 97 = .ok (.aload_n 0, 1) := by decide +kernel
theorem d_X3_readLine_98 : decode cX3_readLine 98 = .ok (.getfield 9, 3) := by decide +kernel
theorem d_X3_readLine_101 : decode cX3_readLine 101 = .ok (.aload_n 0, 1) := by decide +kernel
theorem d_X3_readLine_102 : decode cX3_readLine 102 = .ok (.getfield 15, 3) := by decide +kernel
theorem d_X3_readLine_105 : decode cX3_readLine 105 = .ok (.iconst 0, 1) := by decide +kernel
theorem d_X3_readLine_106 : decode cX3_readLine 106 = .ok (.bipush 99, 2) := by decide +kernel
theorem d_X3_readLine_108 : decode cX3_readLine 108 = .ok (.invokevirtual 53, 3) := by decide +kernel
theorem d_X3_readLine_111 : decode cX3_readLine 111 = .ok (.putfield 57, 3) := by decide +kernel
theorem d_X3_readLine_114 : decode cX3_readLine 114 = .ok (.goto 44, 3) := by decide +kernel
theorem d_X3_readLine_117 : decode cX3_readLine 117 = .ok (.aload_n 0, 1) := by decide +kernel
theorem d_X3_readLine_118 : decode cX3_readLine 118 = .ok (.getfield 15, 3) := by decide +kernel
theorem d_X3_readLine_121 : decode cX3_readLine 121 = .ok (.ldc 61, 2) := by decide +kernel
theorem d_X3_readLine_123 : decode cX3_readLine 123 = .ok (.invokevirtual 27, 3) := by decide +kernel
theorem d_X3_readLine_126 : decode cX3_readLine 126 = .ok (.ifCond .eq 24, 3) := by decide +kernel
theorem d_X3_readLine_129 : decode cX3_readLine 129 = .ok (.aload_n 0, 1) := by decide +kernel
theorem d_X3_readLine_130 : decode cX3_readLine 130 = .ok (.getfield 9, 3) := by decide +kernel
theorem d_X3_readLine_133 : decode cX3_readLine 133 = .ok (.aload_n 0, 1) := by decide +kernel
theorem d_X3_readLine_134 : decode cX3_readLine 134 = .ok (.getfield 15, 3) := by decide +kernel
theorem d_X3_readLine_137 : decode cX3_readLine 137 = .ok (.iconst 0, 1) := by decide +kernel
theorem d_X3_readLine_138 : decode cX3_readLine 138 = .ok (.sipush 999, 3) := by decide +kernel
theorem d_X3_readLine_141 : decode cX3_readLine 141 = .ok (.invokevirtual 53, 3) := by decide +kernel
theorem d_X3_readLine_144 : decode cX3_readLine 144 = .ok (.putfield 63, 3) := by decide +kernel
theorem d_X3_readLine_147 : decode cX3_readLine 147 = .ok (.goto 11, 3) := by decide +kernel
theorem d_X3_readLine_150 : decode cX3_readLine 150 = .ok (.aload_n 0, 1) := by decide +kernel
theorem d_X3_readLine_151 : decode cX3_readLine 151 = .ok (.getfield 15, 3) := by decide +kernel
theorem d_X3_readLine_154 : decode cX3_readLine 154 = .ok (.iload_n 1, 1) := by decide +kernel
theorem d_X3_readLine_155 : decode cX3_readLine 155 = .ok (.invokevirtual 65, 3) := by decide +kernel
theorem d_X3_readLine_158 : decode cX3_readLine 158 = .ok (.return_, 1) := by decide +kernel
theorem s_X3_readLine_j158 {G : Gl} (hG : G.1.stackTraces = false) {C : Cx} {n : Nat} {μ : Mem}  {r : Mem} (hf : f_X3_readLine_j158 μ = some r) (hK : FinR G C F_X3_readLine none none r) : V G C F_X3_readLine 158 [none, none] [] (pic G μ) n 0 0 := by
  unfold f_X3_readLine_j158 at hf
  cases hf
  exact R_v hK d_X3_readLine_158 (Nat.le_of_ble_eq_true rfl) (Nat.le_of_ble_eq_true rfl)
theorem s_X3_readLine_e {G : Gl} (hG : G.1.stackTraces = false) {C : Cx} {n : Nat} {μ : Mem}  {r : Mem} (hf : f_X3_readLine μ = some r) (hK : FinR G C F_X3_readLine none none r) : V G C F_X3_readLine 0 [some (.ref (G.2.1 + 72)), none] [] (pic G μ) n 0 0 := by
  unfold f_X3_readLine at hf
  refine V_aload_n d_X3_readLine_0 rfl rfl ?_
  refine B_get k_72 fl_RX3_15 d_X3_readLine_1 g_3_0 ?_
  refine B_getN k_1 fn_RX3_19 d_X3_readLine_4 g_8_3 ?_
  refine V_istore_n (ls' := [_, _]) d_X3_readLine_7 rfl rfl rfl ?_
  refine V_aload_n d_X3_readLine_8 rfl rfl ?_
  refine B_get k_72 fl_RX3_15 d_X3_readLine_9 g_3_0 ?_
  refine V_ldcS (i := 7) d_X3_readLine_12 sT_RX3_25 ?_
  obtain ⟨q1, hq1, hf⟩ := ob hf
  refine B_callV1 (s_X8_takesWord hG sS_7 hq1) k_1 clX8 m_X8_takesWord kv_RX3_27 d_X3_readLine_14 rfl (Nat.le_of_ble_eq_true rfl) ⟨rfl, rfl, Nat.le_of_ble_eq_true rfl, Nat.le_of_ble_eq_true rfl, Nat.le_of_ble_eq_true rfl⟩ (fun n => ?_)
  refine V_if_eq (tgt := 28) d_X3_readLine_17 (by decide) (fun c17 => ?_) (fun c17 => ?_)
  · replace hf := iteF (b2i_nt (b2i_eq0 c17)) hf
    refine V_aload_n d_X3_readLine_28 rfl rfl ?_
    refine B_get k_72 fl_RX3_15 d_X3_readLine_29 g_3_0 ?_
    refine V_ldcS (i := 8) d_X3_readLine_32 sT_RX3_35 ?_
    obtain ⟨q2, hq2, hf⟩ := ob hf
    refine B_callV1 (s_X8_takesWord hG sS_8 hq2) k_1 clX8 m_X8_takesWord kv_RX3_27 d_X3_readLine_34 rfl (Nat.le_of_ble_eq_true rfl) ⟨rfl, rfl, Nat.le_of_ble_eq_true rfl, Nat.le_of_ble_eq_true rfl, Nat.le_of_ble_eq_true rfl⟩ (fun n => ?_)
    refine V_if_eq (tgt := 47) d_X3_readLine_37 (by decide) (fun c37 => ?_) (fun c37 => ?_)
    · replace hf := iteF (b2i_nt (b2i_eq0 c37)) hf
      refine V_aload_n d_X3_readLine_47 rfl rfl ?_
      refine B_get k_72 fl_RX3_15 d_X3_readLine_48 g_3_0 ?_
      refine V_ldcS (i := 9) d_X3_readLine_51 sT_RX3_41 ?_
      obtain ⟨q3, hq3, hf⟩ := ob hf
      refine B_callV1 (s_X8_takesWord hG sS_9 hq3) k_1 clX8 m_X8_takesWord kv_RX3_27 d_X3_readLine_53 rfl (Nat.le_of_ble_eq_true rfl) ⟨rfl, rfl, Nat.le_of_ble_eq_true rfl, Nat.le_of_ble_eq_true rfl, Nat.le_of_ble_eq_true rfl⟩ (fun n => ?_)
      refine V_if_eq (tgt := 66) d_X3_readLine_56 (by decide) (fun c56 => ?_) (fun c56 => ?_)
      · replace hf := iteF (b2i_nt (b2i_eq0 c56)) hf
        refine V_aload_n d_X3_readLine_66 rfl rfl ?_
        refine B_get k_72 fl_RX3_15 d_X3_readLine_67 g_3_0 ?_
        refine V_ldcS (i := 10) d_X3_readLine_70 sT_RX3_46 ?_
        obtain ⟨q4, hq4, hf⟩ := ob hf
        refine B_callV1 (s_X8_takesWord hG sS_10 hq4) k_1 clX8 m_X8_takesWord kv_RX3_27 d_X3_readLine_72 rfl (Nat.le_of_ble_eq_true rfl) ⟨rfl, rfl, Nat.le_of_ble_eq_true rfl, Nat.le_of_ble_eq_true rfl, Nat.le_of_ble_eq_true rfl⟩ (fun n => ?_)
        refine V_if_eq (tgt := 85) d_X3_readLine_75 (by decide) (fun c75 => ?_) (fun c75 => ?_)
        · replace hf := iteF (b2i_nt (b2i_eq0 c75)) hf
          refine V_aload_n d_X3_readLine_85 rfl rfl ?_
          refine B_get k_72 fl_RX3_15 d_X3_readLine_86 g_3_0 ?_
          refine V_ldcS (i := 11) d_X3_readLine_89 sT_RX3_51 ?_
          obtain ⟨q5, hq5, hf⟩ := ob hf
          refine B_callV1 (s_X8_takesWord hG sS_11 hq5) k_1 clX8 m_X8_takesWord kv_RX3_27 d_X3_readLine_91 rfl (Nat.le_of_ble_eq_true rfl) ⟨rfl, rfl, Nat.le_of_ble_eq_true rfl, Nat.le_of_ble_eq_true rfl, Nat.le_of_ble_eq_true rfl⟩ (fun n => ?_)
          refine V_if_eq (tgt := 117) d_X3_readLine_94 (by decide) (fun c94 => ?_) (fun c94 => ?_)
          · replace hf := iteF (b2i_nt (b2i_eq0 c94)) hf
            refine V_aload_n d_X3_readLine_117 rfl rfl ?_
            refine B_get k_72 fl_RX3_15 d_X3_readLine_118 g_3_0 ?_
            refine V_ldcS (i := 12) d_X3_readLine_121 sT_RX3_61 ?_
            obtain ⟨q6, hq6, hf⟩ := ob hf
            refine B_callV1 (s_X8_takesWord hG sS_12 hq6) k_1 clX8 m_X8_takesWord kv_RX3_27 d_X3_readLine_123 rfl (Nat.le_of_ble_eq_true rfl) ⟨rfl, rfl, Nat.le_of_ble_eq_true rfl, Nat.le_of_ble_eq_true rfl, Nat.le_of_ble_eq_true rfl⟩ (fun n => ?_)
            refine V_if_eq (tgt := 150) d_X3_readLine_126 (by decide) (fun c126 => ?_) (fun c126 => ?_)
            · replace hf := iteF (b2i_nt (b2i_eq0 c126)) hf
              refine V_aload_n d_X3_readLine_150 rfl rfl ?_
              refine B_get k_72 fl_RX3_15 d_X3_readLine_151 g_3_0 ?_
              refine V_iload_n d_X3_readLine_154 rfl rfl ?_
              obtain ⟨q7, hq7, hf⟩ := ob hf
              refine B_callV0 (s_X8_refuse hG hq7) k_1 clX8 m_X8_refuse kv_RX3_65 d_X3_readLine_155 rfl (Nat.le_of_ble_eq_true rfl) ⟨rfl, rfl, Nat.le_of_ble_eq_true rfl, Nat.le_of_ble_eq_true rfl, Nat.le_of_ble_eq_true rfl⟩ (fun n => ?_)
              refine V_less (ls' := [none, none]) trivial ?_
              exact s_X3_readLine_j158 hG hf hK
            · replace hf := iteT (b2i_ne0 c126) hf
              refine V_aload_n d_X3_readLine_129 rfl rfl ?_
              refine B_get k_72 fl_RX3_9 d_X3_readLine_130 g_3_2 ?_
              refine V_aload_n d_X3_readLine_133 rfl rfl ?_
              refine B_get k_72 fl_RX3_15 d_X3_readLine_134 g_3_0 ?_
              refine V_iconst (v := 0) d_X3_readLine_137 ic_0 ?_
              refine V_sipush (v := 999) d_X3_readLine_138 sp_999 ?_
              obtain ⟨q8, hq8, hf⟩ := ob hf
              refine B_callV1 (s_X8_takeNumber hG hq8) k_1 clX8 m_X8_takeNumber kv_RX3_53 d_X3_readLine_141 rfl (Nat.le_of_ble_eq_true rfl) ⟨rfl, rfl, Nat.le_of_ble_eq_true rfl, Nat.le_of_ble_eq_true rfl, Nat.le_of_ble_eq_true rfl⟩ (fun n => ?_)
              refine B_putI k_18 fl_RX3_63 pt_2_2 (Nat.le_of_ble_eq_true rfl) p_2_2 d_X3_readLine_144 ?_
              refine V_goto (tgt := 158) d_X3_readLine_147 (by decide) ?_
              refine V_less (ls' := [none, none]) trivial ?_
              exact s_X3_readLine_j158 hG hf hK
          · replace hf := iteT (b2i_ne0 c94) hf
            refine V_aload_n d_X3_readLine_97 rfl rfl ?_
            refine B_get k_72 fl_RX3_9 d_X3_readLine_98 g_3_2 ?_
            refine V_aload_n d_X3_readLine_101 rfl rfl ?_
            refine B_get k_72 fl_RX3_15 d_X3_readLine_102 g_3_0 ?_
            refine V_iconst (v := 0) d_X3_readLine_105 ic_0 ?_
            refine V_bipush (v := 99) d_X3_readLine_106 bp_99 ?_
            obtain ⟨q9, hq9, hf⟩ := ob hf
            refine B_callV1 (s_X8_takeNumber hG hq9) k_1 clX8 m_X8_takeNumber kv_RX3_53 d_X3_readLine_108 rfl (Nat.le_of_ble_eq_true rfl) ⟨rfl, rfl, Nat.le_of_ble_eq_true rfl, Nat.le_of_ble_eq_true rfl, Nat.le_of_ble_eq_true rfl⟩ (fun n => ?_)
            refine B_putI k_18 fl_RX3_57 pt_2_3 (Nat.le_of_ble_eq_true rfl) p_2_3 d_X3_readLine_111 ?_
            refine V_goto (tgt := 158) d_X3_readLine_114 (by decide) ?_
            refine V_less (ls' := [none, none]) trivial ?_
            exact s_X3_readLine_j158 hG hf hK
        · replace hf := iteT (b2i_ne0 c75) hf
          refine V_aload_n d_X3_readLine_78 rfl rfl ?_
          obtain ⟨q10, hq10, hf⟩ := ob hf
          refine B_callV0 (s_X3_readGoal hG hq10) k_72 clX3 m_X3_readGoal kv_RX3_48 d_X3_readLine_79 rfl (Nat.le_of_ble_eq_true rfl) ⟨rfl, rfl, Nat.le_of_ble_eq_true rfl, Nat.le_of_ble_eq_true rfl, Nat.le_of_ble_eq_true rfl⟩ (fun n => ?_)
          refine V_goto (tgt := 158) d_X3_readLine_82 (by decide) ?_
          refine V_less (ls' := [none, none]) trivial ?_
          exact s_X3_readLine_j158 hG hf hK
      · replace hf := iteT (b2i_ne0 c56) hf
        refine V_aload_n d_X3_readLine_59 rfl rfl ?_
        obtain ⟨q11, hq11, hf⟩ := ob hf
        refine B_callV0 (s_X3_readMud hG hq11) k_72 clX3 m_X3_readMud kv_RX3_43 d_X3_readLine_60 rfl (Nat.le_of_ble_eq_true rfl) ⟨rfl, rfl, Nat.le_of_ble_eq_true rfl, Nat.le_of_ble_eq_true rfl, Nat.le_of_ble_eq_true rfl⟩ (fun n => ?_)
        refine V_goto (tgt := 158) d_X3_readLine_63 (by decide) ?_
        refine V_less (ls' := [none, none]) trivial ?_
        exact s_X3_readLine_j158 hG hf hK
    · replace hf := iteT (b2i_ne0 c37) hf
      refine V_aload_n d_X3_readLine_40 rfl rfl ?_
      obtain ⟨q12, hq12, hf⟩ := ob hf
      refine B_callV0 (s_X3_readPledge hG hq12) k_72 clX3 m_X3_readPledge kv_RX3_37 d_X3_readLine_41 rfl (Nat.le_of_ble_eq_true rfl) ⟨rfl, rfl, Nat.le_of_ble_eq_true rfl, Nat.le_of_ble_eq_true rfl, Nat.le_of_ble_eq_true rfl⟩ (fun n => ?_)
      refine V_goto (tgt := 158) d_X3_readLine_44 (by decide) ?_
      refine V_less (ls' := [none, none]) trivial ?_
      exact s_X3_readLine_j158 hG hf hK
  · replace hf := iteT (b2i_ne0 c17) hf
    refine V_aload_n d_X3_readLine_20 rfl rfl ?_
    refine V_iload_n d_X3_readLine_21 rfl rfl ?_
    obtain ⟨q13, hq13, hf⟩ := ob hf
    refine B_callV0 (s_X3_readPerson hG hq13) k_72 clX3 m_X3_readPerson kv_RX3_31 d_X3_readLine_22 rfl (Nat.le_of_ble_eq_true rfl) ⟨rfl, rfl, Nat.le_of_ble_eq_true rfl, Nat.le_of_ble_eq_true rfl, Nat.le_of_ble_eq_true rfl⟩ (fun n => ?_)
    refine V_goto (tgt := 158) d_X3_readLine_25 (by decide) ?_
    refine V_less (ls' := [none, none]) trivial ?_
    exact s_X3_readLine_j158 hG hf hK
theorem s_X3_readLine {G : Gl} (hG : G.1.stackTraces = false) {μ : Mem} {r : Mem} (hf : f_X3_readLine μ = some r) : Rt G yX3_readLine F_X3_readLine none [.ref (G.2.1 + 72)] μ none r := fun n => Sd.of hG ⟨by decide +kernel, rfl, rfl⟩ rfl (Nat.le_of_ble_eq_true rfl) rfl (fun C hK => s_X3_readLine_e hG hf hK)
theorem d_X4_clear_0 : decode cX4_clear 0 = .ok (.aload_n 0, 1) := by decide +kernel
theorem d_X4_clear_1 : decode cX4_clear 1 = .ok (.iconst 0, 1) := by decide +kernel
theorem d_X4_clear_2 : decode cX4_clear 2 = .ok (.putfield 9, 3) := by decide +kernel
theorem d_X4_clear_5 : decode cX4_clear 5 = .ok (.aload_n 0, 1) := by decide +kernel
theorem d_X4_clear_6 : decode cX4_clear 6 = .ok (.iconst 0, 1) := by decide +kernel
theorem d_X4_clear_7 : decode cX4_clear 7 = .ok (.putfield 15, 3) := by decide +kernel
theorem d_X4_clear_10 : decode cX4_clear 10 = .ok (.aload_n 0, 1) := by decide +kernel
theorem d_X4_clear_11 : decode cX4_clear 11 = .ok (.iconst 0, 1) := by decide +kernel
theorem d_X4_clear_12 : decode cX4_clear 12 = .ok (.putfield 19, 3) := by decide +kernel
theorem d_X4_clear_15 : decode cX4_clear 15 = .ok (.return_, 1) := by decide +kernel
theorem s_X4_clear_e {G : Gl} (hG : G.1.stackTraces = false) {C : Cx} {n : Nat} {μ : Mem} {a0 : Nat} (ha0 : a0 ∈ lawL) {r : Mem} (hf : f_X4_clear μ a0 = some r) (hK : FinR G C F_X4_clear none none r) : V G C F_X4_clear 0 [some (.ref (G.2.1 + a0))] [] (pic G μ) n 0 0 := by
  unfold f_X4_clear at hf
  refine V_aload_n d_X4_clear_0 rfl rfl ?_
  refine V_iconst (v := 0) d_X4_clear_1 ic_0 ?_
  refine B_putZ (v := false) (kLaw _ ha0) fl_RX4_9 pt_4_0 (Nat.le_of_ble_eq_true rfl) p_4_0 d_X4_clear_2 ?_
  refine V_aload_n d_X4_clear_5 rfl rfl ?_
  refine V_iconst (v := 0) d_X4_clear_6 ic_0 ?_
  refine B_putI (kLaw _ ha0) fl_RX4_15 pt_4_1 (Nat.le_of_ble_eq_true rfl) p_4_1 d_X4_clear_7 ?_
  refine V_aload_n d_X4_clear_10 rfl rfl ?_
  refine V_iconst (v := 0) d_X4_clear_11 ic_0 ?_
  refine B_putI (kLaw _ ha0) fl_RX4_19 pt_4_2 (Nat.le_of_ble_eq_true rfl) p_4_2 d_X4_clear_12 ?_
  cases hf
  exact R_v hK d_X4_clear_15 (Nat.le_of_ble_eq_true rfl) (Nat.le_of_ble_eq_true rfl)
theorem s_X4_clear {G : Gl} (hG : G.1.stackTraces = false) {μ : Mem} {a0 : Nat} (ha0 : a0 ∈ lawL) {r : Mem} (hf : f_X4_clear μ a0 = some r) : Rt G yX4_clear F_X4_clear none [.ref (G.2.1 + a0)] μ none r := fun n => Sd.of hG ⟨by decide +kernel, rfl, rfl⟩ rfl (Nat.le_of_ble_eq_true rfl) rfl (fun C hK => s_X4_clear_e hG ha0 hf hK)
theorem d_X4_copyFrom_0 : decode cX4_copyFrom 0 = .ok (.aload_n 0, 1) := by decide +kernel
theorem d_X4_copyFrom_1 : decode cX4_copyFrom 1 = .ok (.aload_n 1, 1) := by decide +kernel
theorem d_X4_copyFrom_2 : decode cX4_copyFrom 2 = .ok (.getfield 9, 3) := by decide +kernel
theorem d_X4_copyFrom_5 : decode cX4_copyFrom 5 = .ok (.putfield 9, 3) := by decide +kernel
theorem d_X4_copyFrom_8 : decode cX4_copyFrom 8 = .ok (.aload_n 0, 1) := by decide +kernel
theorem d_X4_copyFrom_9 : decode cX4_copyFrom 9 = .ok (.aload_n 1, 1) := by decide +kernel
theorem d_X4_copyFrom_10 : decode cX4_copyFrom 10 = .ok (.getfield 15, 3) := by decide +kernel
theorem d_X4_copyFrom_13 : decode cX4_copyFrom 13 = .ok (.putfield 15, 3) := by decide +kernel
theorem d_X4_copyFrom_16 : decode cX4_copyFrom 16 = .ok (.aload_n 0, 1) := by decide +kernel
theorem d_X4_copyFrom_17 : decode cX4_copyFrom 17 = .ok (.aload_n 1, 1) := by decide +kernel
theorem d_X4_copyFrom_18 : decode cX4_copyFrom 18 = .ok (.getfield 19, 3) := by decide +kernel
theorem d_X4_copyFrom_21 : decode cX4_copyFrom 21 = .ok (.putfield 19, 3) := by decide +kernel
theorem d_X4_copyFrom_24 : decode cX4_copyFrom 24 = .ok (.aload_n 1, 1) := by decide +kernel
theorem d_X4_copyFrom_25 : decode cX4_copyFrom 25 = .ok (.getfield 22, 3) := by decide +kernel
theorem d_X4_copyFrom_28 : decode cX4_copyFrom 28 = .ok (.iconst 0, 1) := by decide +kernel
theorem d_X4_copyFrom_29 : decode cX4_copyFrom 29 = .ok (.aload_n 0, 1) := by decide +kernel
theorem d_X4_copyFrom_30 : decode cX4_copyFrom 30 = .ok (.getfield 22, 3) := by decide +kernel
theorem d_X4_copyFrom_33 : decode cX4_copyFrom 33 = .ok (.iconst 0, 1) := by decide +kernel
theorem d_X4_copyFrom_34 : decode cX4_copyFrom 34 = .ok (.bipush 12, 2) := by decide +kernel
theorem d_X4_copyFrom_36 : decode cX4_copyFrom 36 = .ok (.invokestatic 44, 3) := by decide +kernel
theorem d_X4_copyFrom_39 : decode cX4_copyFrom 39 = .ok (.aload_n 1, 1) := by decide +kernel
theorem d_X4_copyFrom_40 : decode cX4_copyFrom 40 = .ok (.getfield 26, 3) := by decide +kernel
theorem d_X4_copyFrom_43 : decode cX4_copyFrom 43 = .ok (.iconst 0, 1) := by decide +kernel
theorem d_X4_copyFrom_44 : decode cX4_copyFrom 44 = .ok (.aload_n 0, 1) := by decide +kernel
theorem d_X4_copyFrom_45 : decode cX4_copyFrom 45 = .ok (.getfield 26, 3) := by decide +kernel
theorem d_X4_copyFrom_48 : decode cX4_copyFrom 48 = .ok (.iconst 0, 1) := by decide +kernel
theorem d_X4_copyFrom_49 : decode cX4_copyFrom 49 = .ok (.bipush 12, 2) := by decide +kernel
theorem d_X4_copyFrom_51 : decode cX4_copyFrom 51 = .ok (.invokestatic 44, 3) := by decide +kernel
theorem d_X4_copyFrom_54 : decode cX4_copyFrom 54 = .ok (.aload_n 1, 1) := by decide +kernel
theorem d_X4_copyFrom_55 : decode cX4_copyFrom 55 = .ok (.getfield 29, 3) := by decide +kernel
theorem d_X4_copyFrom_58 : decode cX4_copyFrom 58 = .ok (.iconst 0, 1) := by decide +kernel
theorem d_X4_copyFrom_59 : decode cX4_copyFrom 59 = .ok (.aload_n 0, 1) := by decide +kernel
theorem d_X4_copyFrom_60 : decode cX4_copyFrom 60 = .ok (.getfield 29, 3) := by decide +kernel
theorem d_X4_copyFrom_63 : decode cX4_copyFrom 63 = .ok (.iconst 0, 1) := by decide +kernel
theorem d_X4_copyFrom_64 : decode cX4_copyFrom 64 = .ok (.bipush 12, 2) := by decide +kernel
theorem d_X4_copyFrom_66 : decode cX4_copyFrom 66 = .ok (.invokestatic 44, 3) := by decide +kernel
theorem d_X4_copyFrom_69 : decode cX4_copyFrom 69 = .ok (.aload_n 1, 1) := by decide +kernel
theorem d_X4_copyFrom_70 : decode cX4_copyFrom 70 = .ok (.getfield 32, 3) := by decide +kernel
theorem d_X4_copyFrom_73 : decode cX4_copyFrom 73 = .ok (.iconst 0, 1) := by decide +kernel
theorem d_X4_copyFrom_74 : decode cX4_copyFrom 74 = .ok (.aload_n 0, 1) := by decide +kernel
theorem d_X4_copyFrom_75 : decode cX4_copyFrom 75 = .ok (.getfield 32, 3) := by decide +kernel
theorem d_X4_copyFrom_78 : decode cX4_copyFrom 78 = .ok (.iconst 0, 1) := by decide +kernel
theorem d_X4_copyFrom_79 : decode cX4_copyFrom 79 = .ok (.bipush 12, 2) := by decide +kernel
theorem d_X4_copyFrom_81 : decode cX4_copyFrom 81 = .ok (.invokestatic 44, 3) := by decide +kernel
theorem d_X4_copyFrom_84 : decode cX4_copyFrom 84 = .ok (.aload_n 1, 1) := by decide +kernel
theorem d_X4_copyFrom_85 : decode cX4_copyFrom 85 = .ok (.getfield 35, 3) := by decide +kernel
theorem d_X4_copyFrom_88 : decode cX4_copyFrom 88 = .ok (.iconst 0, 1) := by decide +kernel
theorem d_X4_copyFrom_89 : decode cX4_copyFrom 89 = .ok (.aload_n 0, 1) := by decide +kernel
theorem d_X4_copyFrom_90 : decode cX4_copyFrom 90 = .ok (.getfield 35, 3) := by decide +kernel
theorem d_X4_copyFrom_93 : decode cX4_copyFrom 93 = .ok (.iconst 0, 1) := by decide +kernel
theorem d_X4_copyFrom_94 : decode cX4_copyFrom 94 = .ok (.sipush 400, 3) := by decide +kernel
theorem d_X4_copyFrom_97 : decode cX4_copyFrom 97 = .ok (.invokestatic 44, 3) := by decide +kernel
theorem d_X4_copyFrom_100 : decode cX4_copyFrom 100 = .ok (.return_, 1) := by decide +kernel
theorem s_X4_copyFrom_e {G : Gl} (hG : G.1.stackTraces = false) {C : Cx} {n : Nat} {μ : Mem} {a0 : Nat} {a1 : Nat} (ha0 : a0 ∈ lawL) (ha1 : a1 ∈ lawL) {r : Mem} (hf : f_X4_copyFrom μ a0 a1 = some r) (hK : FinR G C F_X4_copyFrom none none r) : V G C F_X4_copyFrom 0 [some (.ref (G.2.1 + a0)), some (.ref (G.2.1 + a1))] [] (pic G μ) n 0 0 := by
  unfold f_X4_copyFrom at hf
  refine V_aload_n d_X4_copyFrom_0 rfl rfl ?_
  refine V_aload_n d_X4_copyFrom_1 rfl rfl ?_
  refine B_get (kLaw _ ha1) fl_RX4_9 d_X4_copyFrom_2 g_4_0 ?_
  refine B_putZ (v := (i2b (μ a1 0))) (kLaw _ ha0) fl_RX4_9 pt_4_0 (Nat.le_of_ble_eq_true rfl) p_4_0 d_X4_copyFrom_5 ?_
  refine V_aload_n d_X4_copyFrom_8 rfl rfl ?_
  refine V_aload_n d_X4_copyFrom_9 rfl rfl ?_
  refine B_get (kLaw _ ha1) fl_RX4_15 d_X4_copyFrom_10 g_4_1 ?_
  refine B_putI (kLaw _ ha0) fl_RX4_15 pt_4_1 (Nat.le_of_ble_eq_true rfl) p_4_1 d_X4_copyFrom_13 ?_
  refine V_aload_n d_X4_copyFrom_16 rfl rfl ?_
  refine V_aload_n d_X4_copyFrom_17 rfl rfl ?_
  refine B_get (kLaw _ ha1) fl_RX4_19 d_X4_copyFrom_18 g_4_2 ?_
  refine B_putI (kLaw _ ha0) fl_RX4_19 pt_4_2 (Nat.le_of_ble_eq_true rfl) p_4_2 d_X4_copyFrom_21 ?_
  refine V_aload_n d_X4_copyFrom_24 rfl rfl ?_
  refine B_get (kLaw _ ha1) fl_RX4_22 d_X4_copyFrom_25 g_4_3 ?_
  refine V_iconst (v := 0) d_X4_copyFrom_28 ic_0 ?_
  refine V_aload_n d_X4_copyFrom_29 rfl rfl ?_
  refine B_get (kLaw _ ha0) fl_RX4_22 d_X4_copyFrom_30 g_4_3 ?_
  refine V_iconst (v := 0) d_X4_copyFrom_33 ic_0 ?_
  refine V_bipush (v := 12) d_X4_copyFrom_34 bp_12 ?_
  obtain ⟨μ1, hμ1, hf⟩ := ob hf
  refine B_acopy (kLaw_1 _ ha1) (kLaw_1 _ ha0) hμ1 w_562 w_547 w_546 w_14 d_X4_copyFrom_36 (Nat.le_of_ble_eq_true rfl) ?_
  refine V_aload_n d_X4_copyFrom_39 rfl rfl ?_
  refine B_get (kLaw _ ha1) fl_RX4_26 d_X4_copyFrom_40 g_4_4 ?_
  refine V_iconst (v := 0) d_X4_copyFrom_43 ic_0 ?_
  refine V_aload_n d_X4_copyFrom_44 rfl rfl ?_
  refine B_get (kLaw _ ha0) fl_RX4_26 d_X4_copyFrom_45 g_4_4 ?_
  refine V_iconst (v := 0) d_X4_copyFrom_48 ic_0 ?_
  refine V_bipush (v := 12) d_X4_copyFrom_49 bp_12 ?_
  obtain ⟨μ2, hμ2, hf⟩ := ob hf
  refine B_acopy (kLaw_2 _ ha1) (kLaw_2 _ ha0) hμ2 w_562 w_547 w_546 w_14 d_X4_copyFrom_51 (Nat.le_of_ble_eq_true rfl) ?_
  refine V_aload_n d_X4_copyFrom_54 rfl rfl ?_
  refine B_get (kLaw _ ha1) fl_RX4_29 d_X4_copyFrom_55 g_4_5 ?_
  refine V_iconst (v := 0) d_X4_copyFrom_58 ic_0 ?_
  refine V_aload_n d_X4_copyFrom_59 rfl rfl ?_
  refine B_get (kLaw _ ha0) fl_RX4_29 d_X4_copyFrom_60 g_4_5 ?_
  refine V_iconst (v := 0) d_X4_copyFrom_63 ic_0 ?_
  refine V_bipush (v := 12) d_X4_copyFrom_64 bp_12 ?_
  obtain ⟨μ3, hμ3, hf⟩ := ob hf
  refine B_acopy (kLaw_3 _ ha1) (kLaw_3 _ ha0) hμ3 w_562 w_547 w_546 w_14 d_X4_copyFrom_66 (Nat.le_of_ble_eq_true rfl) ?_
  refine V_aload_n d_X4_copyFrom_69 rfl rfl ?_
  refine B_get (kLaw _ ha1) fl_RX4_32 d_X4_copyFrom_70 g_4_6 ?_
  refine V_iconst (v := 0) d_X4_copyFrom_73 ic_0 ?_
  refine V_aload_n d_X4_copyFrom_74 rfl rfl ?_
  refine B_get (kLaw _ ha0) fl_RX4_32 d_X4_copyFrom_75 g_4_6 ?_
  refine V_iconst (v := 0) d_X4_copyFrom_78 ic_0 ?_
  refine V_bipush (v := 12) d_X4_copyFrom_79 bp_12 ?_
  obtain ⟨μ4, hμ4, hf⟩ := ob hf
  refine B_acopy (kLaw_4 _ ha1) (kLaw_4 _ ha0) hμ4 w_562 w_547 w_546 w_14 d_X4_copyFrom_81 (Nat.le_of_ble_eq_true rfl) ?_
  refine V_aload_n d_X4_copyFrom_84 rfl rfl ?_
  refine B_get (kLaw _ ha1) fl_RX4_35 d_X4_copyFrom_85 g_4_7 ?_
  refine V_iconst (v := 0) d_X4_copyFrom_88 ic_0 ?_
  refine V_aload_n d_X4_copyFrom_89 rfl rfl ?_
  refine B_get (kLaw _ ha0) fl_RX4_35 d_X4_copyFrom_90 g_4_7 ?_
  refine V_iconst (v := 0) d_X4_copyFrom_93 ic_0 ?_
  refine V_sipush (v := 400) d_X4_copyFrom_94 sp_400 ?_
  obtain ⟨μ5, hμ5, hf⟩ := ob hf
  refine B_acopy (kLaw_5 _ ha1) (kLaw_5 _ ha0) hμ5 w_562 w_547 w_546 w_14 d_X4_copyFrom_97 (Nat.le_of_ble_eq_true rfl) ?_
  cases hf
  exact R_v hK d_X4_copyFrom_100 (Nat.le_of_ble_eq_true rfl) (Nat.le_of_ble_eq_true rfl)
theorem s_X4_copyFrom {G : Gl} (hG : G.1.stackTraces = false) {μ : Mem} {a0 : Nat} {a1 : Nat} (ha0 : a0 ∈ lawL) (ha1 : a1 ∈ lawL) {r : Mem} (hf : f_X4_copyFrom μ a0 a1 = some r) : Rt G yX4_copyFrom F_X4_copyFrom none [.ref (G.2.1 + a0), .ref (G.2.1 + a1)] μ none r := fun n => Sd.of hG ⟨by decide +kernel, rfl, rfl⟩ rfl (Nat.le_of_ble_eq_true rfl) rfl (fun C hK => s_X4_copyFrom_e hG ha0 ha1 hf hK)
