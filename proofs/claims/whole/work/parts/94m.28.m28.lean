theorem d_X12_oneDay_0 : decode cX12_oneDay 0 = .ok (.iconst 0, 1) := by decide +kernel
theorem d_X12_oneDay_1 : decode cX12_oneDay 1 = .ok (.istore_n 2, 1) := by decide +kernel
theorem d_X12_oneDay_2 : decode cX12_oneDay 2 = .ok (.iload_n 2, 1) := by decide +kernel
theorem d_X12_oneDay_3 : decode cX12_oneDay 3 = .ok (.aload_n 0, 1) := by decide +kernel
theorem d_X12_oneDay_4 : decode cX12_oneDay 4 = .ok (.invokevirtual 59, 3) := by decide +kernel
theorem d_X12_oneDay_7 : decode cX12_oneDay 7 = .ok (.if_icmp .ge 51, 3) := by decide +kernel
theorem d_X12_oneDay_10 : decode cX12_oneDay 10 = .ok (.aload_n 0, 1) := by decide +kernel
theorem d_X12_oneDay_11 : decode cX12_oneDay 11 = .ok (.iload_n 2, 1) := by decide +kernel
theorem d_X12_oneDay_12 : decode cX12_oneDay 12 = .ok (.invokevirtual 277, 3) := by decide +kernel
theorem d_X12_oneDay_15 : decode cX12_oneDay 15 = .ok (.ifCond .eq 6, 3) := by decide +kernel
theorem d_X12_oneDay_18 : decode cX12_oneDay 18 = .ok (.goto 34, 3) := by decide +kernel
theorem d_X12_oneDay_21 : decode cX12_oneDay 21 = .ok (.iload_n 1, 1) := by decide +kernel
theorem d_X12_oneDay_22 : decode cX12_oneDay 22 = .ok (.ifCond .ne 25, 3) := by decide +kernel
theorem d_X12_oneDay_25 : decode cX12_oneDay 25 = .ok (.aload_n 0, 1) := by decide +kernel
theorem d_X12_oneDay_26 : decode cX12_oneDay 26 = .ok (.bipush 100, 2) := by decide +kernel
theorem d_X12_oneDay_28 : decode cX12_oneDay 28 = .ok (.invokevirtual 351, 3) := by decide +kernel
theorem d_X12_oneDay_31 : decode cX12_oneDay 31 = .ok (.aload_n 0, 1) := by decide +kernel
theorem d_X12_oneDay_32 : decode cX12_oneDay 32 = .ok (.iload_n 2, 1) := by decide +kernel
theorem d_X12_oneDay_33 : decode cX12_oneDay 33 = .ok (.invokevirtual 326, 3) := by decide +kernel
theorem d_X12_oneDay_36 : decode cX12_oneDay 36 = .ok (.if_icmp .ge 11, 3) := by decide +kernel
theorem d_X12_oneDay_39 : decode cX12_oneDay 39 = .ok (.aload_n 0, 1) := by decide +kernel
theorem d_X12_oneDay_40 : decode cX12_oneDay 40 = .ok (.iload_n 2, 1) := by decide +kernel
theorem d_X12_oneDay_41 : decode cX12_oneDay 41 = .ok (.invokevirtual 354, 3) := by decide +kernel
theorem d_X12_oneDay_44 : decode cX12_oneDay 44 = .ok (.goto 8, 3) := by decide +kernel
theorem d_X12_oneDay_47 : decode cX12_oneDay 47 = .ok (.aload_n 0, 1) := by decide +kernel
theorem d_X12_oneDay_48 : decode cX12_oneDay 48 = .ok (.iload_n 2, 1) := by decide +kernel
theorem d_X12_oneDay_49 : decode cX12_oneDay 49 = .ok (.invokevirtual 357, 3) := by decide +kernel
theorem d_X12_oneDay_52 : decode cX12_oneDay 52 = .ok (.iinc 2 1, 3) := by decide +kernel
theorem d_X12_oneDay_55 : decode cX12_oneDay 55 = .ok (.goto (-53), 3) := by decide +kernel
theorem d_X12_oneDay_58 : decode cX12_oneDay 58 = .ok (.iconst 0, 1) := by decide +kernel
theorem d_X12_oneDay_59 : decode cX12_oneDay 59 = .ok (.istore_n 2, 1) := by decide +kernel
theorem d_X12_oneDay_60 : decode cX12_oneDay 60 = .ok (.iload_n 2, 1) := by decide +kernel
theorem d_X12_oneDay_61 : decode cX12_oneDay 61 = .ok (.aload_n 0, 1) := by decide +kernel
theorem d_X12_oneDay_62 : decode cX12_oneDay 62 = .ok (.invokevirtual 77, 3) := by decide +kernel
theorem d_X12_oneDay_65 : decode cX12_oneDay 65 = .ok (.if_icmp .ge 45, 3) := by decide +kernel
theorem d_X12_oneDay_68 : decode cX12_oneDay 68 = .ok (.aload_n 0, 1) := by decide +kernel
theorem d_X12_oneDay_69 : decode cX12_oneDay 69 = .ok (.iload_n 2, 1) := by decide +kernel
theorem d_X12_oneDay_70 : decode cX12_oneDay 70 = .ok (.invokevirtual 296, 3) := by decide +kernel
theorem d_X12_oneDay_73 : decode cX12_oneDay 73 = .ok (.ifCond .eq 31, 3) := by decide +kernel
theorem d_X12_oneDay_76 : decode cX12_oneDay 76 = .ok (.aload_n 0, 1) := by decide +kernel
theorem d_X12_oneDay_77 : decode cX12_oneDay 77 = .ok (.getfield 13, 3) := by decide +kernel
theorem d_X12_oneDay_80 : decode cX12_oneDay 80 = .ok (.iload_n 2, 1) := by decide +kernel
theorem d_X12_oneDay_81 : decode cX12_oneDay 81 = .ok (.iconst 2, 1) := by decide +kernel
theorem d_X12_oneDay_82 : decode cX12_oneDay 82 = .ok (.invokestatic 67, 3) := by decide +kernel
theorem d_X12_oneDay_85 : decode cX12_oneDay 85 = .ok (.sipush 999, 3) := by decide +kernel
theorem d_X12_oneDay_88 : decode cX12_oneDay 88 = .ok (.aload_n 0, 1) := by decide +kernel
theorem d_X12_oneDay_89 : decode cX12_oneDay 89 = .ok (.iload_n 2, 1) := by decide +kernel
theorem d_X12_oneDay_90 : decode cX12_oneDay 90 = .ok (.iconst 2, 1) := by decide +kernel
theorem d_X12_oneDay_91 : decode cX12_oneDay 91 = .ok (.invokevirtual 70, 3) := by decide +kernel
theorem d_X12_oneDay_94 : decode cX12_oneDay 94 = .ok (.aload_n 0, 1) := by decide +kernel
theorem d_X12_oneDay_95 : decode cX12_oneDay 95 = .ok (.iload_n 2, 1) := by decide +kernel
theorem d_X12_oneDay_96 : decode cX12_oneDay 96 = .ok (.invokevirtual 329, 3) := by decide +kernel
theorem d_X12_oneDay_99 : decode cX12_oneDay 99 = .ok (.iadd, 1) := by decide +kernel
theorem d_X12_oneDay_100 : decode cX12_oneDay 100 = .ok (.invokestatic 87, 3) := by decide +kernel
theorem d_X12_oneDay_103 : decode cX12_oneDay 103 = .ok (.iastore, 1) := by decide +kernel
theorem d_X12_oneDay_104 : decode cX12_oneDay 104 = .ok (.iinc 2 1, 3) := by decide +kernel
theorem d_X12_oneDay_107 : decode cX12_oneDay 107 = .ok (.goto (-47), 3) := by decide +kernel
theorem d_X12_oneDay_110 : decode cX12_oneDay 110 = .ok (.iconst 0, 1) := by decide +kernel
theorem d_X12_oneDay_111 : decode cX12_oneDay 111 = .ok (.istore_n 2, 1) := by decide +kernel
theorem d_X12_oneDay_112 : decode cX12_oneDay 112 = .ok (.iload_n 2, 1) := by decide +kernel
theorem d_X12_oneDay_113 : decode cX12_oneDay 113 = .ok (.aload_n 0, 1) := by decide +kernel
theorem d_X12_oneDay_114 : decode cX12_oneDay 114 = .ok (.invokevirtual 77, 3) := by decide +kernel
theorem d_X12_oneDay_117 : decode cX12_oneDay 117 = .ok (.if_icmp .ge 37, 3) := by decide +kernel
theorem d_X12_oneDay_120 : decode cX12_oneDay 120 = .ok (.aload_n 0, 1) := by decide +kernel
theorem d_X12_oneDay_121 : decode cX12_oneDay 121 = .ok (.iload_n 2, 1) := by decide +kernel
theorem d_X12_oneDay_122 : decode cX12_oneDay 122 = .ok (.invokevirtual 296, 3) := by decide +kernel
theorem d_X12_oneDay_125 : decode cX12_oneDay 125 = .ok (.ifCond .eq 23, 3) := by decide +kernel
theorem d_X12_oneDay_128 : decode cX12_oneDay 128 = .ok (.aload_n 0, 1) := by decide +kernel
theorem d_X12_oneDay_129 : decode cX12_oneDay 129 = .ok (.iload_n 2, 1) := by decide +kernel
theorem d_X12_oneDay_130 : decode cX12_oneDay 130 = .ok (.iconst 4, 1) := by decide +kernel
theorem d_X12_oneDay_131 : decode cX12_oneDay 131 = .ok (.invokevirtual 70, 3) := by decide +kernel
theorem d_X12_oneDay_134 : decode cX12_oneDay 134 = .ok (.aload_n 0, 1) := by decide +kernel
theorem d_X12_oneDay_135 : decode cX12_oneDay 135 = .ok (.getfield 13, 3) := by decide +kernel
theorem d_X12_oneDay_138 : decode cX12_oneDay 138 = .ok (.iconst 3, 1) := by decide +kernel
theorem d_X12_oneDay_139 : decode cX12_oneDay 139 = .ok (.iaload, 1) := by decide +kernel
theorem d_X12_oneDay_140 : decode cX12_oneDay 140 = .ok (.if_icmp .gt 8, 3) := by decide +kernel
theorem d_X12_oneDay_143 : decode cX12_oneDay 143 = .ok (.aload_n 0, 1) := by decide +kernel
theorem d_X12_oneDay_144 : decode cX12_oneDay 144 = .ok (.iload_n 2, 1) := by decide +kernel
theorem d_X12_oneDay_145 : decode cX12_oneDay 145 = .ok (.invokevirtual 360, 3) := by decide +kernel
theorem d_X12_oneDay_148 : decode cX12_oneDay 148 = .ok (.iinc 2 1, 3) := by decide +kernel
theorem d_X12_oneDay_151 : decode cX12_oneDay 151 = .ok (.goto (-39), 3) := by decide +kernel
theorem d_X12_oneDay_154 : decode cX12_oneDay 154 = .ok (.aload_n 0, 1) := by decide +kernel
theorem d_X12_oneDay_155 : decode cX12_oneDay 155 = .ok (.getfield 13, 3) := by decide +kernel
theorem d_X12_oneDay_158 : decode cX12_oneDay 158 = .ok (.iconst 3, 1) := by decide +kernel
theorem d_X12_oneDay_159 : decode cX12_oneDay 159 = .ok (.sipush 9999, 3) := by decide +kernel
theorem d_X12_oneDay_162 : decode cX12_oneDay 162 = .ok (.aload_n 0, 1) := by decide +kernel
theorem d_X12_oneDay_163 : decode cX12_oneDay 163 = .ok (.getfield 13, 3) := by decide +kernel
theorem d_X12_oneDay_166 : decode cX12_oneDay 166 = .ok (.iconst 3, 1) := by decide +kernel
theorem d_X12_oneDay_167 : decode cX12_oneDay 167 = .ok (.iaload, 1) := by decide +kernel
theorem d_X12_oneDay_168 : decode cX12_oneDay 168 = .ok (.iconst 1, 1) := by decide +kernel
theorem d_X12_oneDay_169 : decode cX12_oneDay 169 = .ok (.iadd, 1) := by decide +kernel
theorem d_X12_oneDay_170 : decode cX12_oneDay 170 = .ok (.invokestatic 87, 3) := by decide +kernel
theorem d_X12_oneDay_173 : decode cX12_oneDay 173 = .ok (.iastore, 1) := by decide +kernel
theorem d_X12_oneDay_174 : decode cX12_oneDay 174 = .ok (.return_, 1) := by decide +kernel
theorem s_X12_oneDay_j52_2 {G : Gl} (hG : G.1.stackTraces = false) {C : Cx} {n : Nat} {μ : Mem} {l1 : Bool} {l2 : Int32} {y : ((Int32 × Mem) ⊕ Mem)} (hf : f_X12_oneDay_j52_2 μ l1 l2 = some y) (hK : (∀ z', y = .inl z' → ∀ n, V G C F_X12_oneDay 2 [some (.ref (G.2.1 + 264)), some (.int (b2i l1)), some (.int z'.1)] [] (pic G z'.2) n 0 0) ∧ (∀ x', y = .inr x' → ∀ n, V G C F_X12_oneDay 58 [some (.ref (G.2.1 + 264)), none, none] [] (pic G x') n 0 0)) : V G C F_X12_oneDay 52 [some (.ref (G.2.1 + 264)), some (.int (b2i l1)), some (.int l2)] [] (pic G μ) n 0 0 := by
  unfold f_X12_oneDay_j52_2 at hf
  refine V_iinc (v := (l2 + 1)) (ls' := [_, _, _]) d_X12_oneDay_52 rfl (by rw [ic_1]) rfl ?_
  refine V_goto (tgt := 2) d_X12_oneDay_55 (by decide) ?_
  refine V_less (ls' := [some _, some _, some _]) ⟨rfl, rfl, rfl, trivial⟩ ?_
  cases hf
  exact hK.1 _ rfl _
theorem s_X12_oneDay_j47_2 {G : Gl} (hG : G.1.stackTraces = false) {C : Cx} {n : Nat} {μ : Mem} {l1 : Bool} {l2 : Int32} {y : ((Int32 × Mem) ⊕ Mem)} (hf : f_X12_oneDay_j47_2 μ l1 l2 = some y) (hK : (∀ z', y = .inl z' → ∀ n, V G C F_X12_oneDay 2 [some (.ref (G.2.1 + 264)), some (.int (b2i l1)), some (.int z'.1)] [] (pic G z'.2) n 0 0) ∧ (∀ x', y = .inr x' → ∀ n, V G C F_X12_oneDay 58 [some (.ref (G.2.1 + 264)), none, none] [] (pic G x') n 0 0)) : V G C F_X12_oneDay 47 [some (.ref (G.2.1 + 264)), some (.int (b2i l1)), some (.int l2)] [] (pic G μ) n 0 0 := by
  unfold f_X12_oneDay_j47_2 at hf
  refine V_aload_n d_X12_oneDay_47 rfl rfl ?_
  refine V_iload_n d_X12_oneDay_48 rfl rfl ?_
  obtain ⟨q1, hq1, hf⟩ := ob hf
  refine B_callV0 (s_X12_walksOn hG hq1) k_264 clX12 m_X12_walksOn kv_RX12_357 d_X12_oneDay_49 rfl (Nat.le_of_ble_eq_true rfl) ⟨rfl, rfl, Nat.le_of_ble_eq_true rfl, Nat.le_of_ble_eq_true rfl, Nat.le_of_ble_eq_true rfl⟩ (fun n => ?_)
  refine V_less (ls' := [some _, some _, some _]) ⟨rfl, rfl, rfl, trivial⟩ ?_
  exact s_X12_oneDay_j52_2 hG hf hK
theorem s_X12_oneDay_b2 {G : Gl} (hG : G.1.stackTraces = false) {C : Cx} {n : Nat} {μ : Mem} {l1 : Bool} {l2 : Int32} {y : ((Int32 × Mem) ⊕ Mem)} (hf : f_X12_oneDay_b2 μ l1 l2 = some y) (hK : (∀ z', y = .inl z' → ∀ n, V G C F_X12_oneDay 2 [some (.ref (G.2.1 + 264)), some (.int (b2i l1)), some (.int z'.1)] [] (pic G z'.2) n 0 0) ∧ (∀ x', y = .inr x' → ∀ n, V G C F_X12_oneDay 58 [some (.ref (G.2.1 + 264)), none, none] [] (pic G x') n 0 0)) : V G C F_X12_oneDay 2 [some (.ref (G.2.1 + 264)), some (.int (b2i l1)), some (.int l2)] [] (pic G μ) n 0 0 := by
  unfold f_X12_oneDay_b2 at hf
  refine V_iload_n d_X12_oneDay_2 rfl rfl ?_
  refine V_aload_n d_X12_oneDay_3 rfl rfl ?_
  obtain ⟨t1, ht1, hf⟩ := ob hf
  refine B_callV1 (s_X12_people hG ht1) k_264 clX12 m_X12_people kv_RX12_59 d_X12_oneDay_4 rfl (Nat.le_of_ble_eq_true rfl) ⟨rfl, rfl, Nat.le_of_ble_eq_true rfl, Nat.le_of_ble_eq_true rfl, Nat.le_of_ble_eq_true rfl⟩ (fun n => ?_)
  refine V_icmp_ge (tgt := 58) d_X12_oneDay_7 (by decide) (fun c7 => ?_) (fun c7 => ?_)
  · replace hf := iteT c7 hf
    refine V_less (ls' := [some _, none, none]) ⟨rfl, trivial⟩ ?_
    cases hf
    exact hK.2 _ rfl _
  · replace hf := iteF c7 hf
    refine V_aload_n d_X12_oneDay_10 rfl rfl ?_
    refine V_iload_n d_X12_oneDay_11 rfl rfl ?_
    obtain ⟨t2, ht2, hf⟩ := ob hf
    refine B_callV1 (s_X12_isThere hG ht2) k_264 clX12 m_X12_isThere kv_RX12_277 d_X12_oneDay_12 rfl (Nat.le_of_ble_eq_true rfl) ⟨rfl, rfl, Nat.le_of_ble_eq_true rfl, Nat.le_of_ble_eq_true rfl, Nat.le_of_ble_eq_true rfl⟩ (fun n => ?_)
    refine V_if_eq (tgt := 21) d_X12_oneDay_15 (by decide) (fun c15 => ?_) (fun c15 => ?_)
    · replace hf := iteF (b2i_nt (b2i_eq0 c15)) hf
      refine V_iload_n d_X12_oneDay_21 rfl rfl ?_
      refine V_if_ne (tgt := 47) d_X12_oneDay_22 (by decide) (fun c22 => ?_) (fun c22 => ?_)
      · replace hf := iteT (b2i_ne0 c22) hf
        refine V_less (ls' := [some _, some _, some _]) ⟨rfl, rfl, rfl, trivial⟩ ?_
        exact s_X12_oneDay_j47_2 hG hf hK
      · replace hf := iteF (b2i_nt (b2i_eq0 c22)) hf
        refine V_aload_n d_X12_oneDay_25 rfl rfl ?_
        refine V_bipush (v := 100) d_X12_oneDay_26 bp_100 ?_
        obtain ⟨q3, hq3, hf⟩ := ob hf
        refine B_callV1 (s_X12_drawn hG hq3) k_264 clX12 m_X12_drawn kv_RX12_351 d_X12_oneDay_28 rfl (Nat.le_of_ble_eq_true rfl) ⟨rfl, rfl, Nat.le_of_ble_eq_true rfl, Nat.le_of_ble_eq_true rfl, Nat.le_of_ble_eq_true rfl⟩ (fun n => ?_)
        refine V_aload_n d_X12_oneDay_31 rfl rfl ?_
        refine V_iload_n d_X12_oneDay_32 rfl rfl ?_
        obtain ⟨q4, hq4, hf⟩ := ob hf
        refine B_callV1 (s_X12_fallsBy hG hq4) k_264 clX12 m_X12_fallsBy kv_RX12_326 d_X12_oneDay_33 rfl (Nat.le_of_ble_eq_true rfl) ⟨rfl, rfl, Nat.le_of_ble_eq_true rfl, Nat.le_of_ble_eq_true rfl, Nat.le_of_ble_eq_true rfl⟩ (fun n => ?_)
        refine V_icmp_ge (tgt := 47) d_X12_oneDay_36 (by decide) (fun c36 => ?_) (fun c36 => ?_)
        · replace hf := iteT c36 hf
          refine V_less (ls' := [some _, some _, some _]) ⟨rfl, rfl, rfl, trivial⟩ ?_
          exact s_X12_oneDay_j47_2 hG hf hK
        · replace hf := iteF c36 hf
          refine V_aload_n d_X12_oneDay_39 rfl rfl ?_
          refine V_iload_n d_X12_oneDay_40 rfl rfl ?_
          obtain ⟨q5, hq5, hf⟩ := ob hf
          refine B_callV0 (s_X12_falls hG hq5) k_264 clX12 m_X12_falls kv_RX12_354 d_X12_oneDay_41 rfl (Nat.le_of_ble_eq_true rfl) ⟨rfl, rfl, Nat.le_of_ble_eq_true rfl, Nat.le_of_ble_eq_true rfl, Nat.le_of_ble_eq_true rfl⟩ (fun n => ?_)
          refine V_goto (tgt := 52) d_X12_oneDay_44 (by decide) ?_
          refine V_less (ls' := [some _, some _, some _]) ⟨rfl, rfl, rfl, trivial⟩ ?_
          exact s_X12_oneDay_j52_2 hG hf hK
    · replace hf := iteT (b2i_ne0 c15) hf
      refine V_goto (tgt := 52) d_X12_oneDay_18 (by decide) ?_
      refine V_less (ls' := [some _, some _, some _]) ⟨rfl, rfl, rfl, trivial⟩ ?_
      exact s_X12_oneDay_j52_2 hG hf hK
theorem s_X12_oneDay_j104_60 {G : Gl} (hG : G.1.stackTraces = false) {C : Cx} {n : Nat} {μ : Mem} {l2 : Int32} {y : ((Int32 × Mem) ⊕ Mem)} (hf : f_X12_oneDay_j104_60 μ l2 = some y) (hK : (∀ z', y = .inl z' → ∀ n, V G C F_X12_oneDay 60 [some (.ref (G.2.1 + 264)), none, some (.int z'.1)] [] (pic G z'.2) n 0 0) ∧ (∀ x', y = .inr x' → ∀ n, V G C F_X12_oneDay 110 [some (.ref (G.2.1 + 264)), none, none] [] (pic G x') n 0 0)) : V G C F_X12_oneDay 104 [some (.ref (G.2.1 + 264)), none, some (.int l2)] [] (pic G μ) n 0 0 := by
  unfold f_X12_oneDay_j104_60 at hf
  refine V_iinc (v := (l2 + 1)) (ls' := [_, _, _]) d_X12_oneDay_104 rfl (by rw [ic_1]) rfl ?_
  refine V_goto (tgt := 60) d_X12_oneDay_107 (by decide) ?_
  refine V_less (ls' := [some _, none, some _]) ⟨rfl, rfl, trivial⟩ ?_
  cases hf
  exact hK.1 _ rfl _
theorem s_X12_oneDay_b60 {G : Gl} (hG : G.1.stackTraces = false) {C : Cx} {n : Nat} {μ : Mem} {l2 : Int32} {y : ((Int32 × Mem) ⊕ Mem)} (hf : f_X12_oneDay_b60 μ l2 = some y) (hK : (∀ z', y = .inl z' → ∀ n, V G C F_X12_oneDay 60 [some (.ref (G.2.1 + 264)), none, some (.int z'.1)] [] (pic G z'.2) n 0 0) ∧ (∀ x', y = .inr x' → ∀ n, V G C F_X12_oneDay 110 [some (.ref (G.2.1 + 264)), none, none] [] (pic G x') n 0 0)) : V G C F_X12_oneDay 60 [some (.ref (G.2.1 + 264)), none, some (.int l2)] [] (pic G μ) n 0 0 := by
  unfold f_X12_oneDay_b60 at hf
  refine V_iload_n d_X12_oneDay_60 rfl rfl ?_
  refine V_aload_n d_X12_oneDay_61 rfl rfl ?_
  obtain ⟨t1, ht1, hf⟩ := ob hf
  refine B_callV1 (s_X12_laces hG ht1) k_264 clX12 m_X12_laces kv_RX12_77 d_X12_oneDay_62 rfl (Nat.le_of_ble_eq_true rfl) ⟨rfl, rfl, Nat.le_of_ble_eq_true rfl, Nat.le_of_ble_eq_true rfl, Nat.le_of_ble_eq_true rfl⟩ (fun n => ?_)
  refine V_icmp_ge (tgt := 110) d_X12_oneDay_65 (by decide) (fun c65 => ?_) (fun c65 => ?_)
  · replace hf := iteT c65 hf
    refine V_less (ls' := [some _, none, none]) ⟨rfl, trivial⟩ ?_
    cases hf
    exact hK.2 _ rfl _
  · replace hf := iteF c65 hf
    refine V_aload_n d_X12_oneDay_68 rfl rfl ?_
    refine V_iload_n d_X12_oneDay_69 rfl rfl ?_
    obtain ⟨t2, ht2, hf⟩ := ob hf
    refine B_callV1 (s_X12_isPledged hG ht2) k_264 clX12 m_X12_isPledged kv_RX12_296 d_X12_oneDay_70 rfl (Nat.le_of_ble_eq_true rfl) ⟨rfl, rfl, Nat.le_of_ble_eq_true rfl, Nat.le_of_ble_eq_true rfl, Nat.le_of_ble_eq_true rfl⟩ (fun n => ?_)
    refine V_if_eq (tgt := 104) d_X12_oneDay_73 (by decide) (fun c73 => ?_) (fun c73 => ?_)
    · replace hf := iteF (b2i_nt (b2i_eq0 c73)) hf
      refine V_less (ls' := [some _, none, some _]) ⟨rfl, rfl, trivial⟩ ?_
      exact s_X12_oneDay_j104_60 hG hf hK
    · replace hf := iteT (b2i_ne0 c73) hf
      refine V_aload_n d_X12_oneDay_76 rfl rfl ?_
      refine B_get k_264 fl_RX12_13 d_X12_oneDay_77 g_12_1 ?_
      refine V_iload_n d_X12_oneDay_80 rfl rfl ?_
      refine V_iconst (v := 2) d_X12_oneDay_81 ic_2 ?_
      obtain ⟨t3, ht3, hf⟩ := ob hf
      refine B_callS1 (s_X12_laceAt hG ht3) m_X12_laceAt ks_RX12_67 d_X12_oneDay_82 rfl (Nat.le_of_ble_eq_true rfl) ⟨rfl, rfl, Nat.le_of_ble_eq_true rfl, Nat.le_of_ble_eq_true rfl, Nat.le_of_ble_eq_true rfl⟩ (fun n => ?_)
      refine V_sipush (v := 999) d_X12_oneDay_85 sp_999 ?_
      refine V_aload_n d_X12_oneDay_88 rfl rfl ?_
      refine V_iload_n d_X12_oneDay_89 rfl rfl ?_
      refine V_iconst (v := 2) d_X12_oneDay_90 ic_2 ?_
      obtain ⟨t4, ht4, hf⟩ := ob hf
      refine B_callV1 (s_X12_ofLace hG ht4) k_264 clX12 m_X12_ofLace kv_RX12_70 d_X12_oneDay_91 rfl (Nat.le_of_ble_eq_true rfl) ⟨rfl, rfl, Nat.le_of_ble_eq_true rfl, Nat.le_of_ble_eq_true rfl, Nat.le_of_ble_eq_true rfl⟩ (fun n => ?_)
      refine V_aload_n d_X12_oneDay_94 rfl rfl ?_
      refine V_iload_n d_X12_oneDay_95 rfl rfl ?_
      obtain ⟨q5, hq5, hf⟩ := ob hf
      refine B_callV1 (s_X12_growsBy hG hq5) k_264 clX12 m_X12_growsBy kv_RX12_329 d_X12_oneDay_96 rfl (Nat.le_of_ble_eq_true rfl) ⟨rfl, rfl, Nat.le_of_ble_eq_true rfl, Nat.le_of_ble_eq_true rfl, Nat.le_of_ble_eq_true rfl⟩ (fun n => ?_)
      refine V_iadd d_X12_oneDay_99 ?_
      obtain ⟨t6, ht6, hf⟩ := ob hf
      refine B_callS1 (s_J9_min_7cf53 hG ht6) m_J9_min_7cf53 ks_RX12_87 d_X12_oneDay_100 rfl (Nat.le_of_ble_eq_true rfl) ⟨rfl, rfl, Nat.le_of_ble_eq_true rfl, Nat.le_of_ble_eq_true rfl, Nat.le_of_ble_eq_true rfl⟩ (fun n => ?_)
      obtain ⟨μ7, hμ7, hf⟩ := ob hf
      refine B_iast k_265 hμ7 d_X12_oneDay_103 ?_
      refine V_less (ls' := [some _, none, some _]) ⟨rfl, rfl, trivial⟩ ?_
      exact s_X12_oneDay_j104_60 hG hf hK
theorem s_X12_oneDay_j148_112 {G : Gl} (hG : G.1.stackTraces = false) {C : Cx} {n : Nat} {μ : Mem} {l2 : Int32} {y : ((Int32 × Mem) ⊕ Mem)} (hf : f_X12_oneDay_j148_112 μ l2 = some y) (hK : (∀ z', y = .inl z' → ∀ n, V G C F_X12_oneDay 112 [some (.ref (G.2.1 + 264)), none, some (.int z'.1)] [] (pic G z'.2) n 0 0) ∧ (∀ x', y = .inr x' → ∀ n, V G C F_X12_oneDay 154 [some (.ref (G.2.1 + 264)), none, none] [] (pic G x') n 0 0)) : V G C F_X12_oneDay 148 [some (.ref (G.2.1 + 264)), none, some (.int l2)] [] (pic G μ) n 0 0 := by
  unfold f_X12_oneDay_j148_112 at hf
  refine V_iinc (v := (l2 + 1)) (ls' := [_, _, _]) d_X12_oneDay_148 rfl (by rw [ic_1]) rfl ?_
  refine V_goto (tgt := 112) d_X12_oneDay_151 (by decide) ?_
  refine V_less (ls' := [some _, none, some _]) ⟨rfl, rfl, trivial⟩ ?_
  cases hf
  exact hK.1 _ rfl _
theorem s_X12_oneDay_b112 {G : Gl} (hG : G.1.stackTraces = false) {C : Cx} {n : Nat} {μ : Mem} {l2 : Int32} {y : ((Int32 × Mem) ⊕ Mem)} (hf : f_X12_oneDay_b112 μ l2 = some y) (hK : (∀ z', y = .inl z' → ∀ n, V G C F_X12_oneDay 112 [some (.ref (G.2.1 + 264)), none, some (.int z'.1)] [] (pic G z'.2) n 0 0) ∧ (∀ x', y = .inr x' → ∀ n, V G C F_X12_oneDay 154 [some (.ref (G.2.1 + 264)), none, none] [] (pic G x') n 0 0)) : V G C F_X12_oneDay 112 [some (.ref (G.2.1 + 264)), none, some (.int l2)] [] (pic G μ) n 0 0 := by
  unfold f_X12_oneDay_b112 at hf
  refine V_iload_n d_X12_oneDay_112 rfl rfl ?_
  refine V_aload_n d_X12_oneDay_113 rfl rfl ?_
  obtain ⟨t1, ht1, hf⟩ := ob hf
  refine B_callV1 (s_X12_laces hG ht1) k_264 clX12 m_X12_laces kv_RX12_77 d_X12_oneDay_114 rfl (Nat.le_of_ble_eq_true rfl) ⟨rfl, rfl, Nat.le_of_ble_eq_true rfl, Nat.le_of_ble_eq_true rfl, Nat.le_of_ble_eq_true rfl⟩ (fun n => ?_)
  refine V_icmp_ge (tgt := 154) d_X12_oneDay_117 (by decide) (fun c117 => ?_) (fun c117 => ?_)
  · replace hf := iteT c117 hf
    refine V_less (ls' := [some _, none, none]) ⟨rfl, trivial⟩ ?_
    cases hf
    exact hK.2 _ rfl _
  · replace hf := iteF c117 hf
    refine V_aload_n d_X12_oneDay_120 rfl rfl ?_
    refine V_iload_n d_X12_oneDay_121 rfl rfl ?_
    obtain ⟨t2, ht2, hf⟩ := ob hf
    refine B_callV1 (s_X12_isPledged hG ht2) k_264 clX12 m_X12_isPledged kv_RX12_296 d_X12_oneDay_122 rfl (Nat.le_of_ble_eq_true rfl) ⟨rfl, rfl, Nat.le_of_ble_eq_true rfl, Nat.le_of_ble_eq_true rfl, Nat.le_of_ble_eq_true rfl⟩ (fun n => ?_)
    refine V_if_eq (tgt := 148) d_X12_oneDay_125 (by decide) (fun c125 => ?_) (fun c125 => ?_)
    · replace hf := iteF (b2i_nt (b2i_eq0 c125)) hf
      refine V_less (ls' := [some _, none, some _]) ⟨rfl, rfl, trivial⟩ ?_
      exact s_X12_oneDay_j148_112 hG hf hK
    · replace hf := iteT (b2i_ne0 c125) hf
      refine V_aload_n d_X12_oneDay_128 rfl rfl ?_
      refine V_iload_n d_X12_oneDay_129 rfl rfl ?_
      refine V_iconst (v := 4) d_X12_oneDay_130 ic_4 ?_
      obtain ⟨t3, ht3, hf⟩ := ob hf
      refine B_callV1 (s_X12_ofLace hG ht3) k_264 clX12 m_X12_ofLace kv_RX12_70 d_X12_oneDay_131 rfl (Nat.le_of_ble_eq_true rfl) ⟨rfl, rfl, Nat.le_of_ble_eq_true rfl, Nat.le_of_ble_eq_true rfl, Nat.le_of_ble_eq_true rfl⟩ (fun n => ?_)
      refine V_aload_n d_X12_oneDay_134 rfl rfl ?_
      refine B_get k_264 fl_RX12_13 d_X12_oneDay_135 g_12_1 ?_
      refine V_iconst (v := 3) d_X12_oneDay_138 ic_3 ?_
      obtain ⟨t4, ht4, hf⟩ := ob hf
      refine B_iald k_265 ht4 d_X12_oneDay_139 ?_
      refine V_icmp_gt (tgt := 148) d_X12_oneDay_140 (by decide) (fun c140 => ?_) (fun c140 => ?_)
      · replace hf := iteT c140 hf
        refine V_less (ls' := [some _, none, some _]) ⟨rfl, rfl, trivial⟩ ?_
        exact s_X12_oneDay_j148_112 hG hf hK
      · replace hf := iteF c140 hf
        refine V_aload_n d_X12_oneDay_143 rfl rfl ?_
        refine V_iload_n d_X12_oneDay_144 rfl rfl ?_
        obtain ⟨q5, hq5, hf⟩ := ob hf
        refine B_callV0 (s_X12_isCalled hG hq5) k_264 clX12 m_X12_isCalled kv_RX12_360 d_X12_oneDay_145 rfl (Nat.le_of_ble_eq_true rfl) ⟨rfl, rfl, Nat.le_of_ble_eq_true rfl, Nat.le_of_ble_eq_true rfl, Nat.le_of_ble_eq_true rfl⟩ (fun n => ?_)
        refine V_less (ls' := [some _, none, some _]) ⟨rfl, rfl, trivial⟩ ?_
        exact s_X12_oneDay_j148_112 hG hf hK
theorem s_X12_oneDay_j154 {G : Gl} (hG : G.1.stackTraces = false) {C : Cx} {n : Nat} {μ : Mem}  {r : Mem} (hf : f_X12_oneDay_j154 μ = some r) (hK : FinR G C F_X12_oneDay none none r) : V G C F_X12_oneDay 154 [some (.ref (G.2.1 + 264)), none, none] [] (pic G μ) n 0 0 := by
  unfold f_X12_oneDay_j154 at hf
  refine V_aload_n d_X12_oneDay_154 rfl rfl ?_
  refine B_get k_264 fl_RX12_13 d_X12_oneDay_155 g_12_1 ?_
  refine V_iconst (v := 3) d_X12_oneDay_158 ic_3 ?_
  refine V_sipush (v := 9999) d_X12_oneDay_159 sp_9999 ?_
  refine V_aload_n d_X12_oneDay_162 rfl rfl ?_
  refine B_get k_264 fl_RX12_13 d_X12_oneDay_163 g_12_1 ?_
  refine V_iconst (v := 3) d_X12_oneDay_166 ic_3 ?_
  obtain ⟨t1, ht1, hf⟩ := ob hf
  refine B_iald k_265 ht1 d_X12_oneDay_167 ?_
  refine V_iconst (v := 1) d_X12_oneDay_168 ic_1 ?_
  refine V_iadd d_X12_oneDay_169 ?_
  obtain ⟨t2, ht2, hf⟩ := ob hf
  refine B_callS1 (s_J9_min_7cf53 hG ht2) m_J9_min_7cf53 ks_RX12_87 d_X12_oneDay_170 rfl (Nat.le_of_ble_eq_true rfl) ⟨rfl, rfl, Nat.le_of_ble_eq_true rfl, Nat.le_of_ble_eq_true rfl, Nat.le_of_ble_eq_true rfl⟩ (fun n => ?_)
  obtain ⟨μ3, hμ3, hf⟩ := ob hf
  refine B_iast k_265 hμ3 d_X12_oneDay_173 ?_
  cases hf
  exact R_v hK d_X12_oneDay_174 (Nat.le_of_ble_eq_true rfl) (Nat.le_of_ble_eq_true rfl)
theorem s_X12_oneDay_l112 {G : Gl} (hG : G.1.stackTraces = false) {C : Cx} {n : Nat} {μ : Mem} {l2 : Int32} {r : Mem} (hf : f_X12_oneDay_l112 μ l2 = some r) (hK : FinR G C F_X12_oneDay none none r) : V G C F_X12_oneDay 112 [some (.ref (G.2.1 + 264)), none, some (.int l2)] [] (pic G μ) n 0 0 := by
  unfold f_X12_oneDay_l112 at hf
  obtain ⟨t, hl, hf⟩ := ob hf
  refine loopV (P := fun z => ∀ n, V G C F_X12_oneDay 112 [some (.ref (G.2.1 + 264)), none, some (.int z.1)] [] (pic G z.2) n 0 0) (t := t) ?_ _ _ hl n
  intro z y' hy hI hT n
  refine s_X12_oneDay_b112 hG hy ⟨hI, fun x9 ex => ?_⟩
  have ex2 := hT x9 ex
  subst ex2
  intro n
  exact s_X12_oneDay_j154 hG hf hK
theorem s_X12_oneDay_j110 {G : Gl} (hG : G.1.stackTraces = false) {C : Cx} {n : Nat} {μ : Mem}  {r : Mem} (hf : f_X12_oneDay_j110 μ = some r) (hK : FinR G C F_X12_oneDay none none r) : V G C F_X12_oneDay 110 [some (.ref (G.2.1 + 264)), none, none] [] (pic G μ) n 0 0 := by
  unfold f_X12_oneDay_j110 at hf
  refine V_iconst (v := 0) d_X12_oneDay_110 ic_0 ?_
  refine V_istore_n (ls' := [_, _, _]) d_X12_oneDay_111 rfl rfl rfl ?_
  refine V_less (ls' := [some _, none, some _]) ⟨rfl, rfl, trivial⟩ ?_
  exact s_X12_oneDay_l112 hG hf hK
theorem s_X12_oneDay_l60 {G : Gl} (hG : G.1.stackTraces = false) {C : Cx} {n : Nat} {μ : Mem} {l2 : Int32} {r : Mem} (hf : f_X12_oneDay_l60 μ l2 = some r) (hK : FinR G C F_X12_oneDay none none r) : V G C F_X12_oneDay 60 [some (.ref (G.2.1 + 264)), none, some (.int l2)] [] (pic G μ) n 0 0 := by
  unfold f_X12_oneDay_l60 at hf
  obtain ⟨t, hl, hf⟩ := ob hf
  refine loopV (P := fun z => ∀ n, V G C F_X12_oneDay 60 [some (.ref (G.2.1 + 264)), none, some (.int z.1)] [] (pic G z.2) n 0 0) (t := t) ?_ _ _ hl n
  intro z y' hy hI hT n
  refine s_X12_oneDay_b60 hG hy ⟨hI, fun x9 ex => ?_⟩
  have ex2 := hT x9 ex
  subst ex2
  intro n
  exact s_X12_oneDay_j110 hG hf hK
theorem s_X12_oneDay_j58 {G : Gl} (hG : G.1.stackTraces = false) {C : Cx} {n : Nat} {μ : Mem}  {r : Mem} (hf : f_X12_oneDay_j58 μ = some r) (hK : FinR G C F_X12_oneDay none none r) : V G C F_X12_oneDay 58 [some (.ref (G.2.1 + 264)), none, none] [] (pic G μ) n 0 0 := by
  unfold f_X12_oneDay_j58 at hf
  refine V_iconst (v := 0) d_X12_oneDay_58 ic_0 ?_
  refine V_istore_n (ls' := [_, _, _]) d_X12_oneDay_59 rfl rfl rfl ?_
  refine V_less (ls' := [some _, none, some _]) ⟨rfl, rfl, trivial⟩ ?_
  exact s_X12_oneDay_l60 hG hf hK
theorem s_X12_oneDay_l2 {G : Gl} (hG : G.1.stackTraces = false) {C : Cx} {n : Nat} {μ : Mem} {l1 : Bool} {l2 : Int32} {r : Mem} (hf : f_X12_oneDay_l2 μ l1 l2 = some r) (hK : FinR G C F_X12_oneDay none none r) : V G C F_X12_oneDay 2 [some (.ref (G.2.1 + 264)), some (.int (b2i l1)), some (.int l2)] [] (pic G μ) n 0 0 := by
  unfold f_X12_oneDay_l2 at hf
  obtain ⟨t, hl, hf⟩ := ob hf
  refine loopV (P := fun z => ∀ n, V G C F_X12_oneDay 2 [some (.ref (G.2.1 + 264)), some (.int (b2i l1)), some (.int z.1)] [] (pic G z.2) n 0 0) (t := t) ?_ _ _ hl n
  intro z y' hy hI hT n
  refine s_X12_oneDay_b2 hG hy ⟨hI, fun x9 ex => ?_⟩
  have ex2 := hT x9 ex
  subst ex2
  intro n
  exact s_X12_oneDay_j58 hG hf hK
theorem s_X12_oneDay_e {G : Gl} (hG : G.1.stackTraces = false) {C : Cx} {n : Nat} {μ : Mem} {p1 : Bool} {r : Mem} (hf : f_X12_oneDay μ p1 = some r) (hK : FinR G C F_X12_oneDay none none r) : V G C F_X12_oneDay 0 [some (.ref (G.2.1 + 264)), some (.int (b2i p1)), none] [] (pic G μ) n 0 0 := by
  unfold f_X12_oneDay at hf
  refine V_iconst (v := 0) d_X12_oneDay_0 ic_0 ?_
  refine V_istore_n (ls' := [_, _, _]) d_X12_oneDay_1 rfl rfl rfl ?_
  refine V_less (ls' := [some _, some _, some _]) ⟨rfl, rfl, rfl, trivial⟩ ?_
  exact s_X12_oneDay_l2 hG hf hK
theorem s_X12_oneDay {G : Gl} (hG : G.1.stackTraces = false) {μ : Mem} {p1 : Bool} {r : Mem} (hf : f_X12_oneDay μ p1 = some r) : Rt G yX12_oneDay F_X12_oneDay none [.ref (G.2.1 + 264), .int (b2i p1)] μ none r := fun n => Sd.of hG ⟨by decide +kernel, rfl, rfl⟩ rfl (Nat.le_of_ble_eq_true rfl) rfl (fun C hK => s_X12_oneDay_e hG hf hK)
theorem d_X12_keepsAll_0 : decode cX12_keepsAll 0 = .ok (.iconst 0, 1) := by decide +kernel
theorem d_X12_keepsAll_1 : decode cX12_keepsAll 1 = .ok (.istore_n 1, 1) := by decide +kernel
theorem d_X12_keepsAll_2 : decode cX12_keepsAll 2 = .ok (.iload_n 1, 1) := by decide +kernel
theorem d_X12_keepsAll_3 : decode cX12_keepsAll 3 = .ok (.sipush 370, 3) := by decide +kernel
theorem d_X12_keepsAll_6 : decode cX12_keepsAll 6 = .ok (.if_icmp .ge 21, 3) := by decide +kernel
theorem d_X12_keepsAll_9 : decode cX12_keepsAll 9 = .ok (.aload_n 0, 1) := by decide +kernel
theorem d_X12_keepsAll_10 : decode cX12_keepsAll 10 = .ok (.getfield 23, 3) := by decide +kernel
theorem d_X12_keepsAll_13 : decode cX12_keepsAll 13 = .ok (.iload_n 1, 1) := by decide +kernel
theorem d_X12_keepsAll_14 : decode cX12_keepsAll 14 = .ok (.aload_n 0, 1) := by decide +kernel
theorem d_X12_keepsAll_15 : decode cX12_keepsAll 15 = .ok (.getfield 13, 3) := by decide +kernel
theorem d_X12_keepsAll_18 : decode cX12_keepsAll 18 = .ok (.iload_n 1, 1) := by decide +kernel
theorem d_X12_keepsAll_19 : decode cX12_keepsAll 19 = .ok (.iaload, 1) := by decide +kernel
theorem d_X12_keepsAll_20 : decode cX12_keepsAll 20 = .ok (.iastore, 1) := by decide +kernel
theorem d_X12_keepsAll_21 : decode cX12_keepsAll 21 = .ok (.iinc 1 1, 3) := by decide +kernel
theorem d_X12_keepsAll_24 : decode cX12_keepsAll 24 = .ok (.goto (-22), 3) := by decide +kernel
theorem d_X12_keepsAll_27 : decode cX12_keepsAll 27 = .ok (.return_, 1) := by decide +kernel
theorem s_X12_keepsAll_b2 {G : Gl} (hG : G.1.stackTraces = false) {C : Cx} {n : Nat} {μ : Mem} {l1 : Int32} {y : ((Int32 × Mem) ⊕ Mem)} (hf : f_X12_keepsAll_b2 μ l1 = some y) (hK : (∀ z', y = .inl z' → ∀ n, V G C F_X12_keepsAll 2 [some (.ref (G.2.1 + 264)), some (.int z'.1)] [] (pic G z'.2) n 0 0) ∧ (∀ x', y = .inr x' → ∀ n, V G C F_X12_keepsAll 27 [none, none] [] (pic G x') n 0 0)) : V G C F_X12_keepsAll 2 [some (.ref (G.2.1 + 264)), some (.int l1)] [] (pic G μ) n 0 0 := by
  unfold f_X12_keepsAll_b2 at hf
  refine V_iload_n d_X12_keepsAll_2 rfl rfl ?_
  refine V_sipush (v := 370) d_X12_keepsAll_3 sp_370 ?_
  refine V_icmp_ge (tgt := 27) d_X12_keepsAll_6 (by decide) (fun c6 => ?_) (fun c6 => ?_)
  · replace hf := iteT c6 hf
    refine V_less (ls' := [none, none]) trivial ?_
    cases hf
    exact hK.2 _ rfl _
  · replace hf := iteF c6 hf
    refine V_aload_n d_X12_keepsAll_9 rfl rfl ?_
    refine B_get k_264 fl_RX12_23 d_X12_keepsAll_10 g_12_4 ?_
    refine V_iload_n d_X12_keepsAll_13 rfl rfl ?_
    refine V_aload_n d_X12_keepsAll_14 rfl rfl ?_
    refine B_get k_264 fl_RX12_13 d_X12_keepsAll_15 g_12_1 ?_
    refine V_iload_n d_X12_keepsAll_18 rfl rfl ?_
    obtain ⟨t1, ht1, hf⟩ := ob hf
    refine B_iald k_265 ht1 d_X12_keepsAll_19 ?_
    obtain ⟨μ2, hμ2, hf⟩ := ob hf
    refine B_iast k_268 hμ2 d_X12_keepsAll_20 ?_
    refine V_iinc (v := (l1 + 1)) (ls' := [_, _]) d_X12_keepsAll_21 rfl (by rw [ic_1]) rfl ?_
    refine V_goto (tgt := 2) d_X12_keepsAll_24 (by decide) ?_
    refine V_less (ls' := [some _, some _]) ⟨rfl, rfl, trivial⟩ ?_
    cases hf
    exact hK.1 _ rfl _
theorem s_X12_keepsAll_j27 {G : Gl} (hG : G.1.stackTraces = false) {C : Cx} {n : Nat} {μ : Mem}  {r : Mem} (hf : f_X12_keepsAll_j27 μ = some r) (hK : FinR G C F_X12_keepsAll none none r) : V G C F_X12_keepsAll 27 [none, none] [] (pic G μ) n 0 0 := by
  unfold f_X12_keepsAll_j27 at hf
  cases hf
  exact R_v hK d_X12_keepsAll_27 (Nat.le_of_ble_eq_true rfl) (Nat.le_of_ble_eq_true rfl)
theorem s_X12_keepsAll_l2 {G : Gl} (hG : G.1.stackTraces = false) {C : Cx} {n : Nat} {μ : Mem} {l1 : Int32} {r : Mem} (hf : f_X12_keepsAll_l2 μ l1 = some r) (hK : FinR G C F_X12_keepsAll none none r) : V G C F_X12_keepsAll 2 [some (.ref (G.2.1 + 264)), some (.int l1)] [] (pic G μ) n 0 0 := by
  unfold f_X12_keepsAll_l2 at hf
  obtain ⟨t, hl, hf⟩ := ob hf
  refine loopV (P := fun z => ∀ n, V G C F_X12_keepsAll 2 [some (.ref (G.2.1 + 264)), some (.int z.1)] [] (pic G z.2) n 0 0) (t := t) ?_ _ _ hl n
  intro z y' hy hI hT n
  refine s_X12_keepsAll_b2 hG hy ⟨hI, fun x9 ex => ?_⟩
  have ex2 := hT x9 ex
  subst ex2
  intro n
  exact s_X12_keepsAll_j27 hG hf hK
theorem s_X12_keepsAll_e {G : Gl} (hG : G.1.stackTraces = false) {C : Cx} {n : Nat} {μ : Mem}  {r : Mem} (hf : f_X12_keepsAll μ = some r) (hK : FinR G C F_X12_keepsAll none none r) : V G C F_X12_keepsAll 0 [some (.ref (G.2.1 + 264)), none] [] (pic G μ) n 0 0 := by
  unfold f_X12_keepsAll at hf
  refine V_iconst (v := 0) d_X12_keepsAll_0 ic_0 ?_
  refine V_istore_n (ls' := [_, _]) d_X12_keepsAll_1 rfl rfl rfl ?_
  refine V_less (ls' := [some _, some _]) ⟨rfl, rfl, trivial⟩ ?_
  exact s_X12_keepsAll_l2 hG hf hK
theorem s_X12_keepsAll {G : Gl} (hG : G.1.stackTraces = false) {μ : Mem} {r : Mem} (hf : f_X12_keepsAll μ = some r) : Rt G yX12_keepsAll F_X12_keepsAll none [.ref (G.2.1 + 264)] μ none r := fun n => Sd.of hG ⟨by decide +kernel, rfl, rfl⟩ rfl (Nat.le_of_ble_eq_true rfl) rfl (fun C hK => s_X12_keepsAll_e hG hf hK)
theorem d_X12_bringsBack_0 : decode cX12_bringsBack 0 = .ok (.iconst 0, 1) := by decide +kernel
theorem d_X12_bringsBack_1 : decode cX12_bringsBack 1 = .ok (.istore_n 1, 1) := by decide +kernel
theorem d_X12_bringsBack_2 : decode cX12_bringsBack 2 = .ok (.iload_n 1, 1) := by decide +kernel
theorem d_X12_bringsBack_3 : decode cX12_bringsBack 3 = .ok (.sipush 370, 3) := by decide +kernel
theorem d_X12_bringsBack_6 : decode cX12_bringsBack 6 = .ok (.if_icmp .ge 21, 3) := by decide +kernel
theorem d_X12_bringsBack_9 : decode cX12_bringsBack 9 = .ok (.aload_n 0, 1) := by decide +kernel
theorem d_X12_bringsBack_10 : decode cX12_bringsBack 10 = .ok (.getfield 13, 3) := by decide +kernel
theorem d_X12_bringsBack_13 : decode cX12_bringsBack 13 = .ok (.iload_n 1, 1) := by decide +kernel
theorem d_X12_bringsBack_14 : decode cX12_bringsBack 14 = .ok (.aload_n 0, 1) := by decide +kernel
theorem d_X12_bringsBack_15 : decode cX12_bringsBack 15 = .ok (.getfield 23, 3) := by decide +kernel
theorem d_X12_bringsBack_18 : decode cX12_bringsBack 18 = .ok (.iload_n 1, 1) := by decide +kernel
theorem d_X12_bringsBack_19 : decode cX12_bringsBack 19 = .ok (.iaload, 1) := by decide +kernel
theorem d_X12_bringsBack_20 : decode cX12_bringsBack 20 = .ok (.iastore, 1) := by decide +kernel
theorem d_X12_bringsBack_21 : decode cX12_bringsBack 21 = .ok (.iinc 1 1, 3) := by decide +kernel
theorem d_X12_bringsBack_24 : decode cX12_bringsBack 24 = .ok (.goto (-22), 3) := by decide +kernel
theorem d_X12_bringsBack_27 : decode cX12_bringsBack 27 = .ok (.return_, 1) := by decide +kernel
theorem s_X12_bringsBack_b2 {G : Gl} (hG : G.1.stackTraces = false) {C : Cx} {n : Nat} {μ : Mem} {l1 : Int32} {y : ((Int32 × Mem) ⊕ Mem)} (hf : f_X12_bringsBack_b2 μ l1 = some y) (hK : (∀ z', y = .inl z' → ∀ n, V G C F_X12_bringsBack 2 [some (.ref (G.2.1 + 264)), some (.int z'.1)] [] (pic G z'.2) n 0 0) ∧ (∀ x', y = .inr x' → ∀ n, V G C F_X12_bringsBack 27 [none, none] [] (pic G x') n 0 0)) : V G C F_X12_bringsBack 2 [some (.ref (G.2.1 + 264)), some (.int l1)] [] (pic G μ) n 0 0 := by
  unfold f_X12_bringsBack_b2 at hf
  refine V_iload_n d_X12_bringsBack_2 rfl rfl ?_
  refine V_sipush (v := 370) d_X12_bringsBack_3 sp_370 ?_
  refine V_icmp_ge (tgt := 27) d_X12_bringsBack_6 (by decide) (fun c6 => ?_) (fun c6 => ?_)
  · replace hf := iteT c6 hf
    refine V_less (ls' := [none, none]) trivial ?_
    cases hf
    exact hK.2 _ rfl _
  · replace hf := iteF c6 hf
    refine V_aload_n d_X12_bringsBack_9 rfl rfl ?_
    refine B_get k_264 fl_RX12_13 d_X12_bringsBack_10 g_12_1 ?_
    refine V_iload_n d_X12_bringsBack_13 rfl rfl ?_
    refine V_aload_n d_X12_bringsBack_14 rfl rfl ?_
    refine B_get k_264 fl_RX12_23 d_X12_bringsBack_15 g_12_4 ?_
    refine V_iload_n d_X12_bringsBack_18 rfl rfl ?_
    obtain ⟨t1, ht1, hf⟩ := ob hf
    refine B_iald k_268 ht1 d_X12_bringsBack_19 ?_
    obtain ⟨μ2, hμ2, hf⟩ := ob hf
    refine B_iast k_265 hμ2 d_X12_bringsBack_20 ?_
    refine V_iinc (v := (l1 + 1)) (ls' := [_, _]) d_X12_bringsBack_21 rfl (by rw [ic_1]) rfl ?_
    refine V_goto (tgt := 2) d_X12_bringsBack_24 (by decide) ?_
    refine V_less (ls' := [some _, some _]) ⟨rfl, rfl, trivial⟩ ?_
    cases hf
    exact hK.1 _ rfl _
theorem s_X12_bringsBack_j27 {G : Gl} (hG : G.1.stackTraces = false) {C : Cx} {n : Nat} {μ : Mem}  {r : Mem} (hf : f_X12_bringsBack_j27 μ = some r) (hK : FinR G C F_X12_bringsBack none none r) : V G C F_X12_bringsBack 27 [none, none] [] (pic G μ) n 0 0 := by
  unfold f_X12_bringsBack_j27 at hf
  cases hf
  exact R_v hK d_X12_bringsBack_27 (Nat.le_of_ble_eq_true rfl) (Nat.le_of_ble_eq_true rfl)
theorem s_X12_bringsBack_l2 {G : Gl} (hG : G.1.stackTraces = false) {C : Cx} {n : Nat} {μ : Mem} {l1 : Int32} {r : Mem} (hf : f_X12_bringsBack_l2 μ l1 = some r) (hK : FinR G C F_X12_bringsBack none none r) : V G C F_X12_bringsBack 2 [some (.ref (G.2.1 + 264)), some (.int l1)] [] (pic G μ) n 0 0 := by
  unfold f_X12_bringsBack_l2 at hf
  obtain ⟨t, hl, hf⟩ := ob hf
  refine loopV (P := fun z => ∀ n, V G C F_X12_bringsBack 2 [some (.ref (G.2.1 + 264)), some (.int z.1)] [] (pic G z.2) n 0 0) (t := t) ?_ _ _ hl n
  intro z y' hy hI hT n
  refine s_X12_bringsBack_b2 hG hy ⟨hI, fun x9 ex => ?_⟩
  have ex2 := hT x9 ex
  subst ex2
  intro n
  exact s_X12_bringsBack_j27 hG hf hK
theorem s_X12_bringsBack_e {G : Gl} (hG : G.1.stackTraces = false) {C : Cx} {n : Nat} {μ : Mem}  {r : Mem} (hf : f_X12_bringsBack μ = some r) (hK : FinR G C F_X12_bringsBack none none r) : V G C F_X12_bringsBack 0 [some (.ref (G.2.1 + 264)), none] [] (pic G μ) n 0 0 := by
  unfold f_X12_bringsBack at hf
  refine V_iconst (v := 0) d_X12_bringsBack_0 ic_0 ?_
  refine V_istore_n (ls' := [_, _]) d_X12_bringsBack_1 rfl rfl rfl ?_
  refine V_less (ls' := [some _, some _]) ⟨rfl, rfl, trivial⟩ ?_
  exact s_X12_bringsBack_l2 hG hf hK
theorem s_X12_bringsBack {G : Gl} (hG : G.1.stackTraces = false) {μ : Mem} {r : Mem} (hf : f_X12_bringsBack μ = some r) : Rt G yX12_bringsBack F_X12_bringsBack none [.ref (G.2.1 + 264)] μ none r := fun n => Sd.of hG ⟨by decide +kernel, rfl, rfl⟩ rfl (Nat.le_of_ble_eq_true rfl) rfl (fun C hK => s_X12_bringsBack_e hG hf hK)
theorem d_X12_days_0 : decode cX12_days 0 = .ok (.aload_n 0, 1) := by decide +kernel
theorem d_X12_days_1 : decode cX12_days 1 = .ok (.iconst 0, 1) := by decide +kernel
theorem d_X12_days_2 : decode cX12_days 2 = .ok (.putfield 3, 3) := by decide +kernel
theorem d_X12_days_5 : decode cX12_days 5 = .ok (.aload_n 0, 1) := by decide +kernel
theorem d_X12_days_6 : decode cX12_days 6 = .ok (.iload_n 1, 1) := by decide +kernel
theorem d_X12_days_7 : decode cX12_days 7 = .ok (.iconst 1, 1) := by decide +kernel
theorem d_X12_days_8 : decode cX12_days 8 = .ok (.bipush 60, 2) := by decide +kernel
theorem d_X12_days_10 : decode cX12_days 10 = .ok (.invokestatic 73, 3) := by decide +kernel
theorem d_X12_days_13 : decode cX12_days 13 = .ok (.ifCond .ne 7, 3) := by decide +kernel
theorem d_X12_days_16 : decode cX12_days 16 = .ok (.iconst 1, 1) := by decide +kernel
theorem d_X12_days_17 : decode cX12_days 17 = .ok (.goto 4, 3) := by decide +kernel
theorem d_X12_days_20 : decode cX12_days 20 = .ok (.iconst 0, 1) := by decide +kernel
theorem d_X12_days_21 : decode cX12_days 21 = .ok (.iconst 1, 1) := by decide +kernel
theorem d_X12_days_22 : decode cX12_days 22 = .ok (.invokevirtual 263, 3) := by decide +kernel
theorem d_X12_days_25 : decode cX12_days 25 = .ok (.ifCond .eq 5, 3) := by decide +kernel
theorem d_X12_days_28 : decode cX12_days 28 = .ok (.iconst 0, 1) := by decide +kernel
theorem d_X12_days_29 : decode cX12_days 29 = .ok (.ireturn, 1) := by decide +kernel
theorem d_X12_days_30 : decode cX12_days 30 = .ok (.aload_n 0, 1) := by decide +kernel
theorem d_X12_days_31 : decode cX12_days 31 = .ok (.invokevirtual 339, 3) := by decide +kernel
theorem d_X12_days_34 : decode cX12_days 34 = .ok (.aload_n 0, 1) := by decide +kernel
theorem d_X12_days_35 : decode cX12_days 35 = .ok (.getfield 13, 3) := by decide +kernel
theorem d_X12_days_38 : decode cX12_days 38 = .ok (.iconst 5, 1) := by decide +kernel
theorem d_X12_days_39 : decode cX12_days 39 = .ok (.iaload, 1) := by decide +kernel
theorem d_X12_days_40 : decode cX12_days 40 = .ok (.istore_n 2, 1) := by decide +kernel
theorem d_X12_days_41 : decode cX12_days 41 = .ok (.iconst 0, 1) := by decide +kernel
theorem d_X12_days_42 : decode cX12_days 42 = .ok (.istore_n 3, 1) := by decide +kernel
theorem d_X12_days_43 : decode cX12_days 43 = .ok (.iload_n 3, 1) := by decide +kernel
theorem d_X12_days_44 : decode cX12_days 44 = .ok (.iload_n 1, 1) := by decide +kernel
theorem d_X12_days_45 : decode cX12_days 45 = .ok (.if_icmp .ge 14, 3) := by decide +kernel
theorem d_X12_days_48 : decode cX12_days 48 = .ok (.aload_n 0, 1) := by decide +kernel
theorem d_X12_days_49 : decode cX12_days 49 = .ok (.iconst 0, 1) := by decide +kernel
theorem d_X12_days_50 : decode cX12_days 50 = .ok (.invokevirtual 363, 3) := by decide +kernel
theorem d_X12_days_53 : decode cX12_days 53 = .ok (.iinc 3 1, 3) := by decide +kernel
theorem d_X12_days_56 : decode cX12_days 56 = .ok (.goto (-13), 3) := by decide +kernel
theorem d_X12_days_59 : decode cX12_days 59 = .ok (.aload_n 0, 1) := by decide +kernel
theorem d_X12_days_60 : decode cX12_days 60 = .ok (.getfield 13, 3) := by decide +kernel
theorem d_X12_days_63 : decode cX12_days 63 = .ok (.iconst 5, 1) := by decide +kernel
theorem d_X12_days_64 : decode cX12_days 64 = .ok (.iaload, 1) := by decide +kernel
theorem d_X12_days_65 : decode cX12_days 65 = .ok (.iload_n 2, 1) := by decide +kernel
theorem d_X12_days_66 : decode cX12_days 66 = .ok (.isub, 1) := by decide +kernel
theorem d_X12_days_67 : decode cX12_days 67 = .ok (.ireturn, 1) := by decide +kernel
theorem s_X12_days_b43 {G : Gl} (hG : G.1.stackTraces = false) {C : Cx} {n : Nat} {μ : Mem} {l1 : Int32} {l2 : Int32} {l3 : Int32} {y : ((Int32 × Mem) ⊕ Mem)} (hf : f_X12_days_b43 μ l1 l2 l3 = some y) (hK : (∀ z', y = .inl z' → ∀ n, V G C F_X12_days 43 [some (.ref (G.2.1 + 264)), some (.int l1), some (.int l2), some (.int z'.1)] [] (pic G z'.2) n 0 0) ∧ (∀ x', y = .inr x' → ∀ n, V G C F_X12_days 59 [some (.ref (G.2.1 + 264)), none, some (.int l2), none] [] (pic G x') n 0 0)) : V G C F_X12_days 43 [some (.ref (G.2.1 + 264)), some (.int l1), some (.int l2), some (.int l3)] [] (pic G μ) n 0 0 := by
  unfold f_X12_days_b43 at hf
  refine V_iload_n d_X12_days_43 rfl rfl ?_
  refine V_iload_n d_X12_days_44 rfl rfl ?_
  refine V_icmp_ge (tgt := 59) d_X12_days_45 (by decide) (fun c45 => ?_) (fun c45 => ?_)
  · replace hf := iteT c45 hf
    refine V_less (ls' := [some _, none, some _, none]) ⟨rfl, rfl, trivial⟩ ?_
    cases hf
    exact hK.2 _ rfl _
  · replace hf := iteF c45 hf
    refine V_aload_n d_X12_days_48 rfl rfl ?_
    refine V_iconst (v := 0) d_X12_days_49 ic_0 ?_
    obtain ⟨q1, hq1, hf⟩ := ob hf
    refine B_callV0 (s_X12_oneDay hG hq1) k_264 clX12 m_X12_oneDay kv_RX12_363 d_X12_days_50 rfl (Nat.le_of_ble_eq_true rfl) ⟨rfl, rfl, Nat.le_of_ble_eq_true rfl, Nat.le_of_ble_eq_true rfl, Nat.le_of_ble_eq_true rfl⟩ (fun n => ?_)
    refine V_iinc (v := (l3 + 1)) (ls' := [_, _, _, _]) d_X12_days_53 rfl (by rw [ic_1]) rfl ?_
    refine V_goto (tgt := 43) d_X12_days_56 (by decide) ?_
    refine V_less (ls' := [some _, some _, some _, some _]) ⟨rfl, rfl, rfl, rfl, trivial⟩ ?_
    cases hf
    exact hK.1 _ rfl _
theorem s_X12_days_j59 {G : Gl} (hG : G.1.stackTraces = false) {C : Cx} {n : Nat} {μ : Mem} {l2 : Int32} {r : (Int32 × Mem)} (hf : f_X12_days_j59 μ l2 = some r) (hK : FinR G C F_X12_days (some .int) (some (.int r.1)) r.2) : V G C F_X12_days 59 [some (.ref (G.2.1 + 264)), none, some (.int l2), none] [] (pic G μ) n 0 0 := by
  unfold f_X12_days_j59 at hf
  refine V_aload_n d_X12_days_59 rfl rfl ?_
  refine B_get k_264 fl_RX12_13 d_X12_days_60 g_12_1 ?_
  refine V_iconst (v := 5) d_X12_days_63 ic_5 ?_
  obtain ⟨t1, ht1, hf⟩ := ob hf
  refine B_iald k_265 ht1 d_X12_days_64 ?_
  refine V_iload_n d_X12_days_65 rfl rfl ?_
  refine V_isub d_X12_days_66 ?_
  cases hf
  exact R_i hK d_X12_days_67 (Nat.le_of_ble_eq_true rfl) (Nat.le_of_ble_eq_true rfl)
theorem s_X12_days_l43 {G : Gl} (hG : G.1.stackTraces = false) {C : Cx} {n : Nat} {μ : Mem} {l1 : Int32} {l2 : Int32} {l3 : Int32} {r : (Int32 × Mem)} (hf : f_X12_days_l43 μ l1 l2 l3 = some r) (hK : FinR G C F_X12_days (some .int) (some (.int r.1)) r.2) : V G C F_X12_days 43 [some (.ref (G.2.1 + 264)), some (.int l1), some (.int l2), some (.int l3)] [] (pic G μ) n 0 0 := by
  unfold f_X12_days_l43 at hf
  obtain ⟨t, hl, hf⟩ := ob hf
  refine loopV (P := fun z => ∀ n, V G C F_X12_days 43 [some (.ref (G.2.1 + 264)), some (.int l1), some (.int l2), some (.int z.1)] [] (pic G z.2) n 0 0) (t := t) ?_ _ _ hl n
  intro z y' hy hI hT n
  refine s_X12_days_b43 hG hy ⟨hI, fun x9 ex => ?_⟩
  have ex2 := hT x9 ex
  subst ex2
  intro n
  exact s_X12_days_j59 hG hf hK
theorem s_X12_days_e {G : Gl} (hG : G.1.stackTraces = false) {C : Cx} {n : Nat} {μ : Mem} {p1 : Int32} {r : (Int32 × Mem)} (hf : f_X12_days μ p1 = some r) (hK : FinR G C F_X12_days (some .int) (some (.int r.1)) r.2) : V G C F_X12_days 0 [some (.ref (G.2.1 + 264)), some (.int p1), none, none] [] (pic G μ) n 0 0 := by
  unfold f_X12_days at hf
  refine V_aload_n d_X12_days_0 rfl rfl ?_
  refine V_iconst (v := 0) d_X12_days_1 ic_0 ?_
  refine B_putI k_264 fl_RX12_3 pt_12_0 (Nat.le_of_ble_eq_true rfl) p_12_0 d_X12_days_2 ?_
  refine V_aload_n d_X12_days_5 rfl rfl ?_
  refine V_iload_n d_X12_days_6 rfl rfl ?_
  refine V_iconst (v := 1) d_X12_days_7 ic_1 ?_
  refine V_bipush (v := 60) d_X12_days_8 bp_60 ?_
  obtain ⟨t1, ht1, hf⟩ := ob hf
  refine B_callS1 (s_X12_in hG ht1) m_X12_in ks_RX12_73 d_X12_days_10 rfl (Nat.le_of_ble_eq_true rfl) ⟨rfl, rfl, Nat.le_of_ble_eq_true rfl, Nat.le_of_ble_eq_true rfl, Nat.le_of_ble_eq_true rfl⟩ (fun n => ?_)
  have hJj2 : ∀ j2 : Bool, j2 = (if t1 = true then (false : Bool) else true) → V G C F_X12_days 21 [some (.ref (G.2.1 + 264)), some (.int p1), none, none] [.int (b2i j2), .ref (G.2.1 + 264)] (pic G (mset μ 264 0 0)) n 0 0 := by
    intro j2 ej2
    subst ej2
    refine V_iconst (v := 1) d_X12_days_21 ic_1 ?_
    obtain ⟨q3, hq3, hf⟩ := ob hf
    refine B_callV1 (s_X12_throwsIf hG hq3) k_264 clX12 m_X12_throwsIf kv_RX12_263 d_X12_days_22 rfl (Nat.le_of_ble_eq_true rfl) ⟨rfl, rfl, Nat.le_of_ble_eq_true rfl, Nat.le_of_ble_eq_true rfl, Nat.le_of_ble_eq_true rfl⟩ (fun n => ?_)
    refine V_if_eq (tgt := 30) d_X12_days_25 (by decide) (fun c25 => ?_) (fun c25 => ?_)
    · replace hf := iteF (b2i_nt (b2i_eq0 c25)) hf
      refine V_aload_n d_X12_days_30 rfl rfl ?_
      obtain ⟨q4, hq4, hf⟩ := ob hf
      refine B_callV0 (s_X12_remembers hG hq4) k_264 clX12 m_X12_remembers kv_RX12_339 d_X12_days_31 rfl (Nat.le_of_ble_eq_true rfl) ⟨rfl, rfl, Nat.le_of_ble_eq_true rfl, Nat.le_of_ble_eq_true rfl, Nat.le_of_ble_eq_true rfl⟩ (fun n => ?_)
      refine V_aload_n d_X12_days_34 rfl rfl ?_
      refine B_get k_264 fl_RX12_13 d_X12_days_35 g_12_1 ?_
      refine V_iconst (v := 5) d_X12_days_38 ic_5 ?_
      obtain ⟨t5, ht5, hf⟩ := ob hf
      refine B_iald k_265 ht5 d_X12_days_39 ?_
      refine V_istore_n (ls' := [_, _, _, _]) d_X12_days_40 rfl rfl rfl ?_
      refine V_iconst (v := 0) d_X12_days_41 ic_0 ?_
      refine V_istore_n (ls' := [_, _, _, _]) d_X12_days_42 rfl rfl rfl ?_
      refine V_less (ls' := [some _, some _, some _, some _]) ⟨rfl, rfl, rfl, rfl, trivial⟩ ?_
      exact s_X12_days_l43 hG hf hK
    · replace hf := iteT (b2i_ne0 c25) hf
      refine V_iconst (v := 0) d_X12_days_28 ic_0 ?_
      cases hf
      exact R_i hK d_X12_days_29 (Nat.le_of_ble_eq_true rfl) (Nat.le_of_ble_eq_true rfl)
  refine V_if_ne (tgt := 20) d_X12_days_13 (by decide) (fun c13 => ?_) (fun c13 => ?_)
  · refine V_iconst (v := 0) d_X12_days_20 ic_0 ?_
    refine V_less (ls' := [some _, some _, none, none]) ⟨rfl, rfl, trivial⟩ ?_
    exact hJj2 false (by rw [if_pos (b2i_ne0 c13)])
  · refine V_iconst (v := 1) d_X12_days_16 ic_1 ?_
    refine V_goto (tgt := 21) d_X12_days_17 (by decide) ?_
    refine V_less (ls' := [some _, some _, none, none]) ⟨rfl, rfl, trivial⟩ ?_
    exact hJj2 true (by rw [if_neg (b2i_nt (b2i_eq0 c13))])
theorem s_X12_days {G : Gl} (hG : G.1.stackTraces = false) {μ : Mem} {p1 : Int32} {r : (Int32 × Mem)} (hf : f_X12_days μ p1 = some r) : Rt G yX12_days F_X12_days (some .int) [.ref (G.2.1 + 264), .int p1] μ (some (.int r.1)) r.2 := fun n => Sd.of hG ⟨by decide +kernel, rfl, rfl⟩ rfl (Nat.le_of_ble_eq_true rfl) rfl (fun C hK => s_X12_days_e hG hf hK)
theorem d_X12_ahead_0 : decode cX12_ahead 0 = .ok (.aload_n 0, 1) := by decide +kernel
theorem d_X12_ahead_1 : decode cX12_ahead 1 = .ok (.iconst 0, 1) := by decide +kernel
theorem d_X12_ahead_2 : decode cX12_ahead 2 = .ok (.putfield 3, 3) := by decide +kernel
theorem d_X12_ahead_5 : decode cX12_ahead 5 = .ok (.aload_n 0, 1) := by decide +kernel
theorem d_X12_ahead_6 : decode cX12_ahead 6 = .ok (.aload_n 0, 1) := by decide +kernel
theorem d_X12_ahead_7 : decode cX12_ahead 7 = .ok (.iload_n 1, 1) := by decide +kernel
theorem d_X12_ahead_8 : decode cX12_ahead 8 = .ok (.invokevirtual 305, 3) := by decide +kernel
theorem d_X12_ahead_11 : decode cX12_ahead 11 = .ok (.iconst 1, 1) := by decide +kernel
theorem d_X12_ahead_12 : decode cX12_ahead 12 = .ok (.invokevirtual 263, 3) := by decide +kernel
theorem d_X12_ahead_15 : decode cX12_ahead 15 = .ok (.ifCond .ne 26, 3) := by decide +kernel
theorem d_X12_ahead_18 : decode cX12_ahead 18 = .ok (.aload_n 0, 1) := by decide +kernel
theorem d_X12_ahead_19 : decode cX12_ahead 19 = .ok (.iload_n 2, 1) := by decide +kernel
theorem d_X12_ahead_20 : decode cX12_ahead 20 = .ok (.iconst 0, 1) := by decide +kernel
theorem d_X12_ahead_21 : decode cX12_ahead 21 = .ok (.bipush 60, 2) := by decide +kernel
theorem d_X12_ahead_23 : decode cX12_ahead 23 = .ok (.invokestatic 73, 3) := by decide +kernel
theorem d_X12_ahead_26 : decode cX12_ahead 26 = .ok (.ifCond .ne 7, 3) := by decide +kernel
theorem d_X12_ahead_29 : decode cX12_ahead 29 = .ok (.iconst 1, 1) := by decide +kernel
theorem d_X12_ahead_30 : decode cX12_ahead 30 = .ok (.goto 4, 3) := by decide +kernel
theorem d_X12_ahead_33 : decode cX12_ahead 33 = .ok (.iconst 0, 1) := by decide +kernel
theorem d_X12_ahead_34 : decode cX12_ahead 34 = .ok (.iconst 2, 1) := by decide +kernel
theorem d_X12_ahead_35 : decode cX12_ahead 35 = .ok (.invokevirtual 263, 3) := by decide +kernel
theorem d_X12_ahead_38 : decode cX12_ahead 38 = .ok (.ifCond .eq 5, 3) := by decide +kernel
theorem d_X12_ahead_41 : decode cX12_ahead 41 = .ok (.iconst 0, 1) := by decide +kernel
theorem d_X12_ahead_42 : decode cX12_ahead 42 = .ok (.ireturn, 1) := by decide +kernel
theorem d_X12_ahead_43 : decode cX12_ahead 43 = .ok (.aload_n 0, 1) := by decide +kernel
theorem d_X12_ahead_44 : decode cX12_ahead 44 = .ok (.invokevirtual 367, 3) := by decide +kernel
theorem d_X12_ahead_47 : decode cX12_ahead 47 = .ok (.iconst 0, 1) := by decide +kernel
theorem d_X12_ahead_48 : decode cX12_ahead 48 = .ok (.istore 4, 2) := by decide +kernel
theorem d_X12_ahead_50 : decode cX12_ahead 50 = .ok (.iload 4, 2) := by decide +kernel
theorem d_X12_ahead_52 : decode cX12_ahead 52 = .ok (.iload_n 2, 1) := by decide +kernel
theorem d_X12_ahead_53 : decode cX12_ahead 53 = .ok (.if_icmp .ge 14, 3) := by decide +kernel
theorem d_X12_ahead_56 : decode cX12_ahead 56 = .ok (.aload_n 0, 1) := by decide +kernel
theorem d_X12_ahead_57 : decode cX12_ahead 57 = .ok (.iconst 1, 1) := by decide +kernel
theorem d_X12_ahead_58 : decode cX12_ahead 58 = .ok (.invokevirtual 363, 3) := by decide +kernel
theorem d_X12_ahead_61 : decode cX12_ahead 61 = .ok (.iinc 4 1, 3) := by decide +kernel
theorem d_X12_ahead_64 : decode cX12_ahead 64 = .ok (.goto (-14), 3) := by decide +kernel
theorem d_X12_ahead_67 : decode cX12_ahead 67 = .ok (.aload_n 0, 1) := by decide +kernel
theorem d_X12_ahead_68 : decode cX12_ahead 68 = .ok (.iload_n 1, 1) := by decide +kernel
theorem d_X12_ahead_69 : decode cX12_ahead 69 = .ok (.iload_n 3, 1) := by decide +kernel
theorem d_X12_ahead_70 : decode cX12_ahead 70 = .ok (.ifCond .eq 7, 3) := by decide +kernel
theorem d_X12_ahead_73 : decode cX12_ahead 73 = .ok (.iconst 0, 1) := by decide +kernel
theorem d_X12_ahead_74 : decode cX12_ahead 74 = .ok (.goto 4, 3) := by decide +kernel
theorem d_X12_ahead_77 : decode cX12_ahead 77 = .ok (.iconst 2, 1) := by decide +kernel
theorem d_X12_ahead_78 : decode cX12_ahead 78 = .ok (.invokevirtual 84, 3) := by decide +kernel
theorem d_X12_ahead_81 : decode cX12_ahead 81 = .ok (.istore 4, 2) := by decide +kernel
theorem d_X12_ahead_83 : decode cX12_ahead 83 = .ok (.aload_n 0, 1) := by decide +kernel
theorem d_X12_ahead_84 : decode cX12_ahead 84 = .ok (.invokevirtual 370, 3) := by decide +kernel
theorem d_X12_ahead_87 : decode cX12_ahead 87 = .ok (.iload 4, 2) := by decide +kernel
theorem d_X12_ahead_89 : decode cX12_ahead 89 = .ok (.ireturn, 1) := by decide +kernel
theorem s_X12_ahead_j41 {G : Gl} (hG : G.1.stackTraces = false) {C : Cx} {n : Nat} {μ : Mem}  {r : (Int32 × Mem)} (hf : f_X12_ahead_j41 μ = some r) (hK : FinR G C F_X12_ahead (some .int) (some (.int r.1)) r.2) : V G C F_X12_ahead 41 [none, none, none, none, none] [] (pic G μ) n 0 0 := by
  unfold f_X12_ahead_j41 at hf
  refine V_iconst (v := 0) d_X12_ahead_41 ic_0 ?_
  cases hf
  exact R_i hK d_X12_ahead_42 (Nat.le_of_ble_eq_true rfl) (Nat.le_of_ble_eq_true rfl)
theorem s_X12_ahead_b50 {G : Gl} (hG : G.1.stackTraces = false) {C : Cx} {n : Nat} {μ : Mem} {l1 : Int32} {l2 : Int32} {l3 : Bool} {l4 : Int32} {y : ((Int32 × Mem) ⊕ Mem)} (hf : f_X12_ahead_b50 μ l1 l2 l3 l4 = some y) (hK : (∀ z', y = .inl z' → ∀ n, V G C F_X12_ahead 50 [some (.ref (G.2.1 + 264)), some (.int l1), some (.int l2), some (.int (b2i l3)), some (.int z'.1)] [] (pic G z'.2) n 0 0) ∧ (∀ x', y = .inr x' → ∀ n, V G C F_X12_ahead 67 [some (.ref (G.2.1 + 264)), some (.int l1), none, some (.int (b2i l3)), none] [] (pic G x') n 0 0)) : V G C F_X12_ahead 50 [some (.ref (G.2.1 + 264)), some (.int l1), some (.int l2), some (.int (b2i l3)), some (.int l4)] [] (pic G μ) n 0 0 := by
  unfold f_X12_ahead_b50 at hf
  refine V_iload d_X12_ahead_50 rfl ?_
  refine V_iload_n d_X12_ahead_52 rfl rfl ?_
  refine V_icmp_ge (tgt := 67) d_X12_ahead_53 (by decide) (fun c53 => ?_) (fun c53 => ?_)
  · replace hf := iteT c53 hf
    refine V_less (ls' := [some _, some _, none, some _, none]) ⟨rfl, rfl, rfl, trivial⟩ ?_
    cases hf
    exact hK.2 _ rfl _
  · replace hf := iteF c53 hf
    refine V_aload_n d_X12_ahead_56 rfl rfl ?_
    refine V_iconst (v := 1) d_X12_ahead_57 ic_1 ?_
    obtain ⟨q1, hq1, hf⟩ := ob hf
    refine B_callV0 (s_X12_oneDay hG hq1) k_264 clX12 m_X12_oneDay kv_RX12_363 d_X12_ahead_58 rfl (Nat.le_of_ble_eq_true rfl) ⟨rfl, rfl, Nat.le_of_ble_eq_true rfl, Nat.le_of_ble_eq_true rfl, Nat.le_of_ble_eq_true rfl⟩ (fun n => ?_)
    refine V_iinc (v := (l4 + 1)) (ls' := [_, _, _, _, _]) d_X12_ahead_61 rfl (by rw [ic_1]) rfl ?_
    refine V_goto (tgt := 50) d_X12_ahead_64 (by decide) ?_
    refine V_less (ls' := [some _, some _, some _, some _, some _]) ⟨rfl, rfl, rfl, rfl, rfl, trivial⟩ ?_
    cases hf
    exact hK.1 _ rfl _
theorem s_X12_ahead_j67 {G : Gl} (hG : G.1.stackTraces = false) {C : Cx} {n : Nat} {μ : Mem} {l1 : Int32} {l3 : Bool} {r : (Int32 × Mem)} (hf : f_X12_ahead_j67 μ l1 l3 = some r) (hK : FinR G C F_X12_ahead (some .int) (some (.int r.1)) r.2) : V G C F_X12_ahead 67 [some (.ref (G.2.1 + 264)), some (.int l1), none, some (.int (b2i l3)), none] [] (pic G μ) n 0 0 := by
  unfold f_X12_ahead_j67 at hf
  refine V_aload_n d_X12_ahead_67 rfl rfl ?_
  refine V_iload_n d_X12_ahead_68 rfl rfl ?_
  refine V_iload_n d_X12_ahead_69 rfl rfl ?_
  have hJj1 : ∀ j1 : Int32, j1 = (if l3 = true then (0 : Int32) else 2) → V G C F_X12_ahead 78 [some (.ref (G.2.1 + 264)), none, none, none, none] [.int j1, .int l1, .ref (G.2.1 + 264)] (pic G μ) n 0 0 := by
    intro j1 ej1
    subst ej1
    obtain ⟨t2, ht2, hf⟩ := ob hf
    refine B_callV1 (s_X12_of hG ht2) k_264 clX12 m_X12_of kv_RX12_84 d_X12_ahead_78 rfl (Nat.le_of_ble_eq_true rfl) ⟨rfl, rfl, Nat.le_of_ble_eq_true rfl, Nat.le_of_ble_eq_true rfl, Nat.le_of_ble_eq_true rfl⟩ (fun n => ?_)
    refine V_istore (ls' := [_, _, _, _, _]) d_X12_ahead_81 rfl rfl ?_
    refine V_aload_n d_X12_ahead_83 rfl rfl ?_
    obtain ⟨q3, hq3, hf⟩ := ob hf
    refine B_callV0 (s_X12_bringsBack hG hq3) k_264 clX12 m_X12_bringsBack kv_RX12_370 d_X12_ahead_84 rfl (Nat.le_of_ble_eq_true rfl) ⟨rfl, rfl, Nat.le_of_ble_eq_true rfl, Nat.le_of_ble_eq_true rfl, Nat.le_of_ble_eq_true rfl⟩ (fun n => ?_)
    refine V_iload d_X12_ahead_87 rfl ?_
    cases hf
    exact R_i hK d_X12_ahead_89 (Nat.le_of_ble_eq_true rfl) (Nat.le_of_ble_eq_true rfl)
  refine V_if_eq (tgt := 77) d_X12_ahead_70 (by decide) (fun c70 => ?_) (fun c70 => ?_)
  · refine V_iconst (v := 2) d_X12_ahead_77 ic_2 ?_
    refine V_less (ls' := [some _, none, none, none, none]) ⟨rfl, trivial⟩ ?_
    exact hJj1 2 (by rw [if_neg (b2i_nt (b2i_eq0 c70))])
  · refine V_iconst (v := 0) d_X12_ahead_73 ic_0 ?_
    refine V_goto (tgt := 78) d_X12_ahead_74 (by decide) ?_
    refine V_less (ls' := [some _, none, none, none, none]) ⟨rfl, trivial⟩ ?_
    exact hJj1 0 (by rw [if_pos (b2i_ne0 c70)])
theorem s_X12_ahead_l50 {G : Gl} (hG : G.1.stackTraces = false) {C : Cx} {n : Nat} {μ : Mem} {l1 : Int32} {l2 : Int32} {l3 : Bool} {l4 : Int32} {r : (Int32 × Mem)} (hf : f_X12_ahead_l50 μ l1 l2 l3 l4 = some r) (hK : FinR G C F_X12_ahead (some .int) (some (.int r.1)) r.2) : V G C F_X12_ahead 50 [some (.ref (G.2.1 + 264)), some (.int l1), some (.int l2), some (.int (b2i l3)), some (.int l4)] [] (pic G μ) n 0 0 := by
  unfold f_X12_ahead_l50 at hf
  obtain ⟨t, hl, hf⟩ := ob hf
  refine loopV (P := fun z => ∀ n, V G C F_X12_ahead 50 [some (.ref (G.2.1 + 264)), some (.int l1), some (.int l2), some (.int (b2i l3)), some (.int z.1)] [] (pic G z.2) n 0 0) (t := t) ?_ _ _ hl n
  intro z y' hy hI hT n
  refine s_X12_ahead_b50 hG hy ⟨hI, fun x9 ex => ?_⟩
  have ex2 := hT x9 ex
  subst ex2
  intro n
  exact s_X12_ahead_j67 hG hf hK
theorem s_X12_ahead_e {G : Gl} (hG : G.1.stackTraces = false) {C : Cx} {n : Nat} {μ : Mem} {p1 : Int32} {p2 : Int32} {p3 : Bool} {r : (Int32 × Mem)} (hf : f_X12_ahead μ p1 p2 p3 = some r) (hK : FinR G C F_X12_ahead (some .int) (some (.int r.1)) r.2) : V G C F_X12_ahead 0 [some (.ref (G.2.1 + 264)), some (.int p1), some (.int p2), some (.int (b2i p3)), none] [] (pic G μ) n 0 0 := by
  unfold f_X12_ahead at hf
  refine V_aload_n d_X12_ahead_0 rfl rfl ?_
  refine V_iconst (v := 0) d_X12_ahead_1 ic_0 ?_
  refine B_putI k_264 fl_RX12_3 pt_12_0 (Nat.le_of_ble_eq_true rfl) p_12_0 d_X12_ahead_2 ?_
  refine V_aload_n d_X12_ahead_5 rfl rfl ?_
  refine V_aload_n d_X12_ahead_6 rfl rfl ?_
  refine V_iload_n d_X12_ahead_7 rfl rfl ?_
  obtain ⟨t1, ht1, hf⟩ := ob hf
  refine B_callV1 (s_X12_noPerson hG ht1) k_264 clX12 m_X12_noPerson kv_RX12_305 d_X12_ahead_8 rfl (Nat.le_of_ble_eq_true rfl) ⟨rfl, rfl, Nat.le_of_ble_eq_true rfl, Nat.le_of_ble_eq_true rfl, Nat.le_of_ble_eq_true rfl⟩ (fun n => ?_)
  refine V_iconst (v := 1) d_X12_ahead_11 ic_1 ?_
  obtain ⟨q2, hq2, hf⟩ := ob hf
  refine B_callV1 (s_X12_throwsIf hG hq2) k_264 clX12 m_X12_throwsIf kv_RX12_263 d_X12_ahead_12 rfl (Nat.le_of_ble_eq_true rfl) ⟨rfl, rfl, Nat.le_of_ble_eq_true rfl, Nat.le_of_ble_eq_true rfl, Nat.le_of_ble_eq_true rfl⟩ (fun n => ?_)
  refine V_if_ne (tgt := 41) d_X12_ahead_15 (by decide) (fun c15 => ?_) (fun c15 => ?_)
  · replace hf := iteT (b2i_ne0 c15) hf
    refine V_less (ls' := [none, none, none, none, none]) trivial ?_
    exact s_X12_ahead_j41 hG hf hK
  · replace hf := iteF (b2i_nt (b2i_eq0 c15)) hf
    refine V_aload_n d_X12_ahead_18 rfl rfl ?_
    refine V_iload_n d_X12_ahead_19 rfl rfl ?_
    refine V_iconst (v := 0) d_X12_ahead_20 ic_0 ?_
    refine V_bipush (v := 60) d_X12_ahead_21 bp_60 ?_
    obtain ⟨t3, ht3, hf⟩ := ob hf
    refine B_callS1 (s_X12_in hG ht3) m_X12_in ks_RX12_73 d_X12_ahead_23 rfl (Nat.le_of_ble_eq_true rfl) ⟨rfl, rfl, Nat.le_of_ble_eq_true rfl, Nat.le_of_ble_eq_true rfl, Nat.le_of_ble_eq_true rfl⟩ (fun n => ?_)
    have hJj4 : ∀ j4 : Bool, j4 = (if t3 = true then (false : Bool) else true) → V G C F_X12_ahead 34 [some (.ref (G.2.1 + 264)), some (.int p1), some (.int p2), some (.int (b2i p3)), none] [.int (b2i j4), .ref (G.2.1 + 264)] (pic G q2.2) n 0 0 := by
      intro j4 ej4
      subst ej4
      refine V_iconst (v := 2) d_X12_ahead_34 ic_2 ?_
      obtain ⟨q5, hq5, hf⟩ := ob hf
      refine B_callV1 (s_X12_throwsIf hG hq5) k_264 clX12 m_X12_throwsIf kv_RX12_263 d_X12_ahead_35 rfl (Nat.le_of_ble_eq_true rfl) ⟨rfl, rfl, Nat.le_of_ble_eq_true rfl, Nat.le_of_ble_eq_true rfl, Nat.le_of_ble_eq_true rfl⟩ (fun n => ?_)
      refine V_if_eq (tgt := 43) d_X12_ahead_38 (by decide) (fun c38 => ?_) (fun c38 => ?_)
      · replace hf := iteF (b2i_nt (b2i_eq0 c38)) hf
        refine V_aload_n d_X12_ahead_43 rfl rfl ?_
        obtain ⟨q6, hq6, hf⟩ := ob hf
        refine B_callV0 (s_X12_keepsAll hG hq6) k_264 clX12 m_X12_keepsAll kv_RX12_367 d_X12_ahead_44 rfl (Nat.le_of_ble_eq_true rfl) ⟨rfl, rfl, Nat.le_of_ble_eq_true rfl, Nat.le_of_ble_eq_true rfl, Nat.le_of_ble_eq_true rfl⟩ (fun n => ?_)
        refine V_iconst (v := 0) d_X12_ahead_47 ic_0 ?_
        refine V_istore (ls' := [_, _, _, _, _]) d_X12_ahead_48 rfl rfl ?_
        refine V_less (ls' := [some _, some _, some _, some _, some _]) ⟨rfl, rfl, rfl, rfl, rfl, trivial⟩ ?_
        exact s_X12_ahead_l50 hG hf hK
      · replace hf := iteT (b2i_ne0 c38) hf
        refine V_less (ls' := [none, none, none, none, none]) trivial ?_
        exact s_X12_ahead_j41 hG hf hK
    refine V_if_ne (tgt := 33) d_X12_ahead_26 (by decide) (fun c26 => ?_) (fun c26 => ?_)
    · refine V_iconst (v := 0) d_X12_ahead_33 ic_0 ?_
      refine V_less (ls' := [some _, some _, some _, some _, none]) ⟨rfl, rfl, rfl, rfl, trivial⟩ ?_
      exact hJj4 false (by rw [if_pos (b2i_ne0 c26)])
    · refine V_iconst (v := 1) d_X12_ahead_29 ic_1 ?_
      refine V_goto (tgt := 34) d_X12_ahead_30 (by decide) ?_
      refine V_less (ls' := [some _, some _, some _, some _, none]) ⟨rfl, rfl, rfl, rfl, trivial⟩ ?_
      exact hJj4 true (by rw [if_neg (b2i_nt (b2i_eq0 c26))])
theorem s_X12_ahead {G : Gl} (hG : G.1.stackTraces = false) {μ : Mem} {p1 : Int32} {p2 : Int32} {p3 : Bool} {r : (Int32 × Mem)} (hf : f_X12_ahead μ p1 p2 p3 = some r) : Rt G yX12_ahead F_X12_ahead (some .int) [.ref (G.2.1 + 264), .int p1, .int p2, .int (b2i p3)] μ (some (.int r.1)) r.2 := fun n => Sd.of hG ⟨by decide +kernel, rfl, rfl⟩ rfl (Nat.le_of_ble_eq_true rfl) rfl (fun C hK => s_X12_ahead_e hG hf hK)
theorem d_X12_comesTo_0 : decode cX12_comesTo 0 = .ok (.aload_n 0, 1) := by decide +kernel
theorem d_X12_comesTo_1 : decode cX12_comesTo 1 = .ok (.invokevirtual 367, 3) := by decide +kernel
theorem d_X12_comesTo_4 : decode cX12_comesTo 4 = .ok (.aload_n 0, 1) := by decide +kernel
theorem d_X12_comesTo_5 : decode cX12_comesTo 5 = .ok (.getfield 13, 3) := by decide +kernel
theorem d_X12_comesTo_8 : decode cX12_comesTo 8 = .ok (.iload_n 1, 1) := by decide +kernel
theorem d_X12_comesTo_9 : decode cX12_comesTo 9 = .ok (.iconst 3, 1) := by decide +kernel
theorem d_X12_comesTo_10 : decode cX12_comesTo 10 = .ok (.invokestatic 63, 3) := by decide +kernel
theorem d_X12_comesTo_13 : decode cX12_comesTo 13 = .ok (.iload_n 2, 1) := by decide +kernel
theorem d_X12_comesTo_14 : decode cX12_comesTo 14 = .ok (.iastore, 1) := by decide +kernel
theorem d_X12_comesTo_15 : decode cX12_comesTo 15 = .ok (.ldc_w 373, 3) := by decide +kernel
theorem d_X12_comesTo_18 : decode cX12_comesTo 18 = .ok (.istore_n 3, 1) := by decide +kernel
theorem d_X12_comesTo_19 : decode cX12_comesTo 19 = .ok (.iconst 0, 1) := by decide +kernel
theorem d_X12_comesTo_20 : decode cX12_comesTo 20 = .ok (.istore 4, 2) := by decide +kernel
theorem d_X12_comesTo_22 : decode cX12_comesTo 22 = .ok (.iload 4, 2) := by decide +kernel
theorem d_X12_comesTo_24 : decode cX12_comesTo 24 = .ok (.bipush 60, 2) := by decide +kernel
theorem d_X12_comesTo_26 : decode cX12_comesTo 26 = .ok (.if_icmp .gt 40, 3) := by decide +kernel
theorem d_X12_comesTo_29 : decode cX12_comesTo 29 = .ok (.iload_n 3, 1) := by decide +kernel
theorem d_X12_comesTo_30 : decode cX12_comesTo 30 = .ok (.ldc_w 373, 3) := by decide +kernel
theorem d_X12_comesTo_33 : decode cX12_comesTo 33 = .ok (.if_icmp .ne 33, 3) := by decide +kernel
theorem d_X12_comesTo_36 : decode cX12_comesTo 36 = .ok (.aload_n 0, 1) := by decide +kernel
theorem d_X12_comesTo_37 : decode cX12_comesTo 37 = .ok (.iload_n 1, 1) := by decide +kernel
theorem d_X12_comesTo_38 : decode cX12_comesTo 38 = .ok (.iconst 2, 1) := by decide +kernel
theorem d_X12_comesTo_39 : decode cX12_comesTo 39 = .ok (.invokevirtual 84, 3) := by decide +kernel
theorem d_X12_comesTo_42 : decode cX12_comesTo 42 = .ok (.iload_n 2, 1) := by decide +kernel
theorem d_X12_comesTo_43 : decode cX12_comesTo 43 = .ok (.if_icmp .ne 8, 3) := by decide +kernel
theorem d_X12_comesTo_46 : decode cX12_comesTo 46 = .ok (.iload 4, 2) := by decide +kernel
theorem d_X12_comesTo_48 : decode cX12_comesTo 48 = .ok (.goto 6, 3) := by decide +kernel
theorem d_X12_comesTo_51 : decode cX12_comesTo 51 = .ok (.ldc_w 373, 3) := by decide +kernel
theorem d_X12_comesTo_54 : decode cX12_comesTo 54 = .ok (.istore_n 3, 1) := by decide +kernel
theorem d_X12_comesTo_55 : decode cX12_comesTo 55 = .ok (.aload_n 0, 1) := by decide +kernel
theorem d_X12_comesTo_56 : decode cX12_comesTo 56 = .ok (.iconst 1, 1) := by decide +kernel
theorem d_X12_comesTo_57 : decode cX12_comesTo 57 = .ok (.invokevirtual 363, 3) := by decide +kernel
theorem d_X12_comesTo_60 : decode cX12_comesTo 60 = .ok (.iinc 4 1, 3) := by decide +kernel
theorem d_X12_comesTo_63 : decode cX12_comesTo 63 = .ok (.goto (-41), 3) := by decide +kernel
theorem d_X12_comesTo_66 : decode cX12_comesTo 66 = .ok (.aload_n 0, 1) := by decide +kernel
theorem d_X12_comesTo_67 : decode cX12_comesTo 67 = .ok (.invokevirtual 370, 3) := by decide +kernel
theorem d_X12_comesTo_70 : decode cX12_comesTo 70 = .ok (.iload_n 3, 1) := by decide +kernel
theorem d_X12_comesTo_71 : decode cX12_comesTo 71 = .ok (.ireturn, 1) := by decide +kernel
theorem s_X12_comesTo_j54_22 {G : Gl} (hG : G.1.stackTraces = false) {C : Cx} {n : Nat} {μ : Mem} {l1 : Int32} {l2 : Int32} {l4 : Int32} {k0 : Int32} {y : ((Int32 × Int32 × Mem) ⊕ (Int32 × Mem))} (hf : f_X12_comesTo_j54_22 μ l1 l2 l4 k0 = some y) (hK : (∀ z', y = .inl z' → ∀ n, V G C F_X12_comesTo 22 [some (.ref (G.2.1 + 264)), some (.int l1), some (.int l2), some (.int z'.1), some (.int z'.2.1)] [] (pic G z'.2.2) n 0 0) ∧ (∀ x', y = .inr x' → ∀ n, V G C F_X12_comesTo 66 [some (.ref (G.2.1 + 264)), none, none, some (.int x'.1), none] [] (pic G x'.2) n 0 0)) : V G C F_X12_comesTo 54 [some (.ref (G.2.1 + 264)), some (.int l1), some (.int l2), none, some (.int l4)] [.int k0] (pic G μ) n 0 0 := by
  unfold f_X12_comesTo_j54_22 at hf
  refine V_istore_n (ls' := [_, _, _, _, _]) d_X12_comesTo_54 rfl rfl rfl ?_
  refine V_aload_n d_X12_comesTo_55 rfl rfl ?_
  refine V_iconst (v := 1) d_X12_comesTo_56 ic_1 ?_
  obtain ⟨q1, hq1, hf⟩ := ob hf
  refine B_callV0 (s_X12_oneDay hG hq1) k_264 clX12 m_X12_oneDay kv_RX12_363 d_X12_comesTo_57 rfl (Nat.le_of_ble_eq_true rfl) ⟨rfl, rfl, Nat.le_of_ble_eq_true rfl, Nat.le_of_ble_eq_true rfl, Nat.le_of_ble_eq_true rfl⟩ (fun n => ?_)
  refine V_iinc (v := (l4 + 1)) (ls' := [_, _, _, _, _]) d_X12_comesTo_60 rfl (by rw [ic_1]) rfl ?_
  refine V_goto (tgt := 22) d_X12_comesTo_63 (by decide) ?_
  refine V_less (ls' := [some _, some _, some _, some _, some _]) ⟨rfl, rfl, rfl, rfl, rfl, trivial⟩ ?_
  cases hf
  exact hK.1 _ rfl _
theorem s_X12_comesTo_b22 {G : Gl} (hG : G.1.stackTraces = false) {C : Cx} {n : Nat} {μ : Mem} {l1 : Int32} {l2 : Int32} {l3 : Int32} {l4 : Int32} {y : ((Int32 × Int32 × Mem) ⊕ (Int32 × Mem))} (hf : f_X12_comesTo_b22 μ l1 l2 l3 l4 = some y) (hK : (∀ z', y = .inl z' → ∀ n, V G C F_X12_comesTo 22 [some (.ref (G.2.1 + 264)), some (.int l1), some (.int l2), some (.int z'.1), some (.int z'.2.1)] [] (pic G z'.2.2) n 0 0) ∧ (∀ x', y = .inr x' → ∀ n, V G C F_X12_comesTo 66 [some (.ref (G.2.1 + 264)), none, none, some (.int x'.1), none] [] (pic G x'.2) n 0 0)) : V G C F_X12_comesTo 22 [some (.ref (G.2.1 + 264)), some (.int l1), some (.int l2), some (.int l3), some (.int l4)] [] (pic G μ) n 0 0 := by
  unfold f_X12_comesTo_b22 at hf
  refine V_iload d_X12_comesTo_22 rfl ?_
  refine V_bipush (v := 60) d_X12_comesTo_24 bp_60 ?_
  refine V_icmp_gt (tgt := 66) d_X12_comesTo_26 (by decide) (fun c26 => ?_) (fun c26 => ?_)
  · replace hf := iteT c26 hf
    refine V_less (ls' := [some _, none, none, some _, none]) ⟨rfl, rfl, trivial⟩ ?_
    cases hf
    exact hK.2 _ rfl _
  · replace hf := iteF c26 hf
    refine V_iload_n d_X12_comesTo_29 rfl rfl ?_
    refine V_ldcw (v := 1000000) d_X12_comesTo_30 w_1899 ?_
    refine V_icmp_ne (tgt := 66) d_X12_comesTo_33 (by decide) (fun c33 => ?_) (fun c33 => ?_)
    · replace hf := iteF c33 hf
      refine V_less (ls' := [some _, none, none, some _, none]) ⟨rfl, rfl, trivial⟩ ?_
      cases hf
      exact hK.2 _ rfl _
    · replace hf := iteT c33 hf
      refine V_aload_n d_X12_comesTo_36 rfl rfl ?_
      refine V_iload_n d_X12_comesTo_37 rfl rfl ?_
      refine V_iconst (v := 2) d_X12_comesTo_38 ic_2 ?_
      obtain ⟨t1, ht1, hf⟩ := ob hf
      refine B_callV1 (s_X12_of hG ht1) k_264 clX12 m_X12_of kv_RX12_84 d_X12_comesTo_39 rfl (Nat.le_of_ble_eq_true rfl) ⟨rfl, rfl, Nat.le_of_ble_eq_true rfl, Nat.le_of_ble_eq_true rfl, Nat.le_of_ble_eq_true rfl⟩ (fun n => ?_)
      refine V_iload_n d_X12_comesTo_42 rfl rfl ?_
      refine V_icmp_ne (tgt := 51) d_X12_comesTo_43 (by decide) (fun c43 => ?_) (fun c43 => ?_)
      · replace hf := iteF c43 hf
        refine V_ldcw (v := 1000000) d_X12_comesTo_51 w_1899 ?_
        refine V_less (ls' := [some _, some _, some _, none, some _]) ⟨rfl, rfl, rfl, rfl, trivial⟩ ?_
        exact s_X12_comesTo_j54_22 hG hf hK
      · replace hf := iteT c43 hf
        refine V_iload d_X12_comesTo_46 rfl ?_
        refine V_goto (tgt := 54) d_X12_comesTo_48 (by decide) ?_
        refine V_less (ls' := [some _, some _, some _, none, some _]) ⟨rfl, rfl, rfl, rfl, trivial⟩ ?_
        exact s_X12_comesTo_j54_22 hG hf hK
theorem s_X12_comesTo_j66 {G : Gl} (hG : G.1.stackTraces = false) {C : Cx} {n : Nat} {μ : Mem} {l3 : Int32} {r : (Int32 × Mem)} (hf : f_X12_comesTo_j66 μ l3 = some r) (hK : FinR G C F_X12_comesTo (some .int) (some (.int r.1)) r.2) : V G C F_X12_comesTo 66 [some (.ref (G.2.1 + 264)), none, none, some (.int l3), none] [] (pic G μ) n 0 0 := by
  unfold f_X12_comesTo_j66 at hf
  refine V_aload_n d_X12_comesTo_66 rfl rfl ?_
  obtain ⟨q1, hq1, hf⟩ := ob hf
  refine B_callV0 (s_X12_bringsBack hG hq1) k_264 clX12 m_X12_bringsBack kv_RX12_370 d_X12_comesTo_67 rfl (Nat.le_of_ble_eq_true rfl) ⟨rfl, rfl, Nat.le_of_ble_eq_true rfl, Nat.le_of_ble_eq_true rfl, Nat.le_of_ble_eq_true rfl⟩ (fun n => ?_)
  refine V_iload_n d_X12_comesTo_70 rfl rfl ?_
  cases hf
  exact R_i hK d_X12_comesTo_71 (Nat.le_of_ble_eq_true rfl) (Nat.le_of_ble_eq_true rfl)
theorem s_X12_comesTo_l22 {G : Gl} (hG : G.1.stackTraces = false) {C : Cx} {n : Nat} {μ : Mem} {l1 : Int32} {l2 : Int32} {l3 : Int32} {l4 : Int32} {r : (Int32 × Mem)} (hf : f_X12_comesTo_l22 μ l1 l2 l3 l4 = some r) (hK : FinR G C F_X12_comesTo (some .int) (some (.int r.1)) r.2) : V G C F_X12_comesTo 22 [some (.ref (G.2.1 + 264)), some (.int l1), some (.int l2), some (.int l3), some (.int l4)] [] (pic G μ) n 0 0 := by
  unfold f_X12_comesTo_l22 at hf
  obtain ⟨t, hl, hf⟩ := ob hf
  refine loopV (P := fun z => ∀ n, V G C F_X12_comesTo 22 [some (.ref (G.2.1 + 264)), some (.int l1), some (.int l2), some (.int z.1), some (.int z.2.1)] [] (pic G z.2.2) n 0 0) (t := t) ?_ _ _ hl n
  intro z y' hy hI hT n
  refine s_X12_comesTo_b22 hG hy ⟨hI, fun x9 ex => ?_⟩
  have ex2 := hT x9 ex
  subst ex2
  intro n
  exact s_X12_comesTo_j66 hG hf hK
theorem s_X12_comesTo_e {G : Gl} (hG : G.1.stackTraces = false) {C : Cx} {n : Nat} {μ : Mem} {p1 : Int32} {p2 : Int32} {r : (Int32 × Mem)} (hf : f_X12_comesTo μ p1 p2 = some r) (hK : FinR G C F_X12_comesTo (some .int) (some (.int r.1)) r.2) : V G C F_X12_comesTo 0 [some (.ref (G.2.1 + 264)), some (.int p1), some (.int p2), none, none] [] (pic G μ) n 0 0 := by
  unfold f_X12_comesTo at hf
  refine V_aload_n d_X12_comesTo_0 rfl rfl ?_
  obtain ⟨q1, hq1, hf⟩ := ob hf
  refine B_callV0 (s_X12_keepsAll hG hq1) k_264 clX12 m_X12_keepsAll kv_RX12_367 d_X12_comesTo_1 rfl (Nat.le_of_ble_eq_true rfl) ⟨rfl, rfl, Nat.le_of_ble_eq_true rfl, Nat.le_of_ble_eq_true rfl, Nat.le_of_ble_eq_true rfl⟩ (fun n => ?_)
  refine V_aload_n d_X12_comesTo_4 rfl rfl ?_
  refine B_get k_264 fl_RX12_13 d_X12_comesTo_5 g_12_1 ?_
  refine V_iload_n d_X12_comesTo_8 rfl rfl ?_
  refine V_iconst (v := 3) d_X12_comesTo_9 ic_3 ?_
  obtain ⟨t2, ht2, hf⟩ := ob hf
  refine B_callS1 (s_X12_at hG ht2) m_X12_at ks_RX12_63 d_X12_comesTo_10 rfl (Nat.le_of_ble_eq_true rfl) ⟨rfl, rfl, Nat.le_of_ble_eq_true rfl, Nat.le_of_ble_eq_true rfl, Nat.le_of_ble_eq_true rfl⟩ (fun n => ?_)
  refine V_iload_n d_X12_comesTo_13 rfl rfl ?_
  obtain ⟨μ3, hμ3, hf⟩ := ob hf
  refine B_iast k_265 hμ3 d_X12_comesTo_14 ?_
  refine V_ldcw (v := 1000000) d_X12_comesTo_15 w_1899 ?_
  refine V_istore_n (ls' := [_, _, _, _, _]) d_X12_comesTo_18 rfl rfl rfl ?_
  refine V_iconst (v := 0) d_X12_comesTo_19 ic_0 ?_
  refine V_istore (ls' := [_, _, _, _, _]) d_X12_comesTo_20 rfl rfl ?_
  refine V_less (ls' := [some _, some _, some _, some _, some _]) ⟨rfl, rfl, rfl, rfl, rfl, trivial⟩ ?_
  exact s_X12_comesTo_l22 hG hf hK
theorem s_X12_comesTo {G : Gl} (hG : G.1.stackTraces = false) {μ : Mem} {p1 : Int32} {p2 : Int32} {r : (Int32 × Mem)} (hf : f_X12_comesTo μ p1 p2 = some r) : Rt G yX12_comesTo F_X12_comesTo (some .int) [.ref (G.2.1 + 264), .int p1, .int p2] μ (some (.int r.1)) r.2 := fun n => Sd.of hG ⟨by decide +kernel, rfl, rfl⟩ rfl (Nat.le_of_ble_eq_true rfl) rfl (fun C hK => s_X12_comesTo_e hG hf hK)
theorem d_X12_comes_0 : decode cX12_comes 0 = .ok (.aload_n 0, 1) := by decide +kernel
theorem d_X12_comes_1 : decode cX12_comes 1 = .ok (.iconst 0, 1) := by decide +kernel
theorem d_X12_comes_2 : decode cX12_comes 2 = .ok (.putfield 3, 3) := by decide +kernel
theorem d_X12_comes_5 : decode cX12_comes 5 = .ok (.aload_n 0, 1) := by decide +kernel
theorem d_X12_comes_6 : decode cX12_comes 6 = .ok (.aload_n 0, 1) := by decide +kernel
theorem d_X12_comes_7 : decode cX12_comes 7 = .ok (.iload_n 1, 1) := by decide +kernel
theorem d_X12_comes_8 : decode cX12_comes 8 = .ok (.invokevirtual 305, 3) := by decide +kernel
theorem d_X12_comes_11 : decode cX12_comes 11 = .ok (.ifCond .ne 10, 3) := by decide +kernel
theorem d_X12_comes_14 : decode cX12_comes 14 = .ok (.iload_n 2, 1) := by decide +kernel
theorem d_X12_comes_15 : decode cX12_comes 15 = .ok (.invokestatic 320, 3) := by decide +kernel
theorem d_X12_comes_18 : decode cX12_comes 18 = .ok (.ifCond .eq 7, 3) := by decide +kernel
theorem d_X12_comes_21 : decode cX12_comes 21 = .ok (.iconst 1, 1) := by decide +kernel
theorem d_X12_comes_22 : decode cX12_comes 22 = .ok (.goto 4, 3) := by decide +kernel
theorem d_X12_comes_25 : decode cX12_comes 25 = .ok (.iconst 0, 1) := by decide +kernel
theorem d_X12_comes_26 : decode cX12_comes 26 = .ok (.iconst 1, 1) := by decide +kernel
theorem d_X12_comes_27 : decode cX12_comes 27 = .ok (.invokevirtual 263, 3) := by decide +kernel
theorem d_X12_comes_30 : decode cX12_comes 30 = .ok (.ifCond .eq 5, 3) := by decide +kernel
theorem d_X12_comes_33 : decode cX12_comes 33 = .ok (.iconst 0, 1) := by decide +kernel
theorem d_X12_comes_34 : decode cX12_comes 34 = .ok (.ireturn, 1) := by decide +kernel
theorem d_X12_comes_35 : decode cX12_comes 35 = .ok (.aload_n 0, 1) := by decide +kernel
theorem d_X12_comes_36 : decode cX12_comes 36 = .ok (.iload_n 1, 1) := by decide +kernel
theorem d_X12_comes_37 : decode cX12_comes 37 = .ok (.iload_n 2, 1) := by decide +kernel
theorem d_X12_comes_38 : decode cX12_comes 38 = .ok (.invokevirtual 374, 3) := by decide +kernel
theorem d_X12_comes_41 : decode cX12_comes 41 = .ok (.istore_n 3, 1) := by decide +kernel
theorem d_X12_comes_42 : decode cX12_comes 42 = .ok (.iload_n 3, 1) := by decide +kernel
theorem d_X12_comes_43 : decode cX12_comes 43 = .ok (.ldc_w 373, 3) := by decide +kernel
theorem d_X12_comes_46 : decode cX12_comes 46 = .ok (.if_icmp .lt 7, 3) := by decide +kernel
theorem d_X12_comes_49 : decode cX12_comes 49 = .ok (.iconst (-1), 1) := by decide +kernel
theorem d_X12_comes_50 : decode cX12_comes 50 = .ok (.goto 4, 3) := by decide +kernel
theorem d_X12_comes_53 : decode cX12_comes 53 = .ok (.iload_n 3, 1) := by decide +kernel
theorem d_X12_comes_54 : decode cX12_comes 54 = .ok (.ireturn, 1) := by decide +kernel
theorem s_X12_comes_j26 {G : Gl} (hG : G.1.stackTraces = false) {C : Cx} {n : Nat} {μ : Mem} {l1 : Int32} {l2 : Int32} {k1 : Bool} {r : (Int32 × Mem)} (hf : f_X12_comes_j26 μ l1 l2 k1 = some r) (hK : FinR G C F_X12_comes (some .int) (some (.int r.1)) r.2) : V G C F_X12_comes 26 [some (.ref (G.2.1 + 264)), some (.int l1), some (.int l2), none] [.int (b2i k1), .ref (G.2.1 + 264)] (pic G μ) n 0 0 := by
  unfold f_X12_comes_j26 at hf
  refine V_iconst (v := 1) d_X12_comes_26 ic_1 ?_
  obtain ⟨q1, hq1, hf⟩ := ob hf
  refine B_callV1 (s_X12_throwsIf hG hq1) k_264 clX12 m_X12_throwsIf kv_RX12_263 d_X12_comes_27 rfl (Nat.le_of_ble_eq_true rfl) ⟨rfl, rfl, Nat.le_of_ble_eq_true rfl, Nat.le_of_ble_eq_true rfl, Nat.le_of_ble_eq_true rfl⟩ (fun n => ?_)
  refine V_if_eq (tgt := 35) d_X12_comes_30 (by decide) (fun c30 => ?_) (fun c30 => ?_)
  · replace hf := iteF (b2i_nt (b2i_eq0 c30)) hf
    refine V_aload_n d_X12_comes_35 rfl rfl ?_
    refine V_iload_n d_X12_comes_36 rfl rfl ?_
    refine V_iload_n d_X12_comes_37 rfl rfl ?_
    obtain ⟨q2, hq2, hf⟩ := ob hf
    refine B_callV1 (s_X12_comesTo hG hq2) k_264 clX12 m_X12_comesTo kv_RX12_374 d_X12_comes_38 rfl (Nat.le_of_ble_eq_true rfl) ⟨rfl, rfl, Nat.le_of_ble_eq_true rfl, Nat.le_of_ble_eq_true rfl, Nat.le_of_ble_eq_true rfl⟩ (fun n => ?_)
    refine V_istore_n (ls' := [_, _, _, _]) d_X12_comes_41 rfl rfl rfl ?_
    refine V_iload_n d_X12_comes_42 rfl rfl ?_
    refine V_ldcw (v := 1000000) d_X12_comes_43 w_1899 ?_
    have hJj3 : ∀ j3 : Int32, j3 = (if q2.1 < 1000000 then (q2.1 : Int32) else (-1)) → V G C F_X12_comes 54 [none, none, none, none] [.int j3] (pic G q2.2) n 0 0 := by
      intro j3 ej3
      subst ej3
      cases hf
      exact R_i hK d_X12_comes_54 (Nat.le_of_ble_eq_true rfl) (Nat.le_of_ble_eq_true rfl)
    refine V_icmp_lt (tgt := 53) d_X12_comes_46 (by decide) (fun c46 => ?_) (fun c46 => ?_)
    · refine V_iload_n d_X12_comes_53 rfl rfl ?_
      refine V_less (ls' := [none, none, none, none]) trivial ?_
      exact hJj3 q2.1 (by rw [if_pos c46])
    · refine V_iconst (v := (-1)) d_X12_comes_49 ic_m1 ?_
      refine V_goto (tgt := 54) d_X12_comes_50 (by decide) ?_
      refine V_less (ls' := [none, none, none, none]) trivial ?_
      exact hJj3 (-1) (by rw [if_neg c46])
  · replace hf := iteT (b2i_ne0 c30) hf
    refine V_iconst (v := 0) d_X12_comes_33 ic_0 ?_
    cases hf
    exact R_i hK d_X12_comes_34 (Nat.le_of_ble_eq_true rfl) (Nat.le_of_ble_eq_true rfl)
theorem s_X12_comes_j21 {G : Gl} (hG : G.1.stackTraces = false) {C : Cx} {n : Nat} {μ : Mem} {l1 : Int32} {l2 : Int32} {r : (Int32 × Mem)} (hf : f_X12_comes_j21 μ l1 l2 = some r) (hK : FinR G C F_X12_comes (some .int) (some (.int r.1)) r.2) : V G C F_X12_comes 21 [some (.ref (G.2.1 + 264)), some (.int l1), some (.int l2), none] [.ref (G.2.1 + 264)] (pic G μ) n 0 0 := by
  unfold f_X12_comes_j21 at hf
  refine V_iconst (v := 1) d_X12_comes_21 ic_1 ?_
  refine V_goto (tgt := 26) d_X12_comes_22 (by decide) ?_
  refine V_less (ls' := [some _, some _, some _, none]) ⟨rfl, rfl, rfl, trivial⟩ ?_
  exact s_X12_comes_j26 hG hf hK
theorem s_X12_comes_e {G : Gl} (hG : G.1.stackTraces = false) {C : Cx} {n : Nat} {μ : Mem} {p1 : Int32} {p2 : Int32} {r : (Int32 × Mem)} (hf : f_X12_comes μ p1 p2 = some r) (hK : FinR G C F_X12_comes (some .int) (some (.int r.1)) r.2) : V G C F_X12_comes 0 [some (.ref (G.2.1 + 264)), some (.int p1), some (.int p2), none] [] (pic G μ) n 0 0 := by
  unfold f_X12_comes at hf
  refine V_aload_n d_X12_comes_0 rfl rfl ?_
  refine V_iconst (v := 0) d_X12_comes_1 ic_0 ?_
  refine B_putI k_264 fl_RX12_3 pt_12_0 (Nat.le_of_ble_eq_true rfl) p_12_0 d_X12_comes_2 ?_
  refine V_aload_n d_X12_comes_5 rfl rfl ?_
  refine V_aload_n d_X12_comes_6 rfl rfl ?_
  refine V_iload_n d_X12_comes_7 rfl rfl ?_
  obtain ⟨t1, ht1, hf⟩ := ob hf
  refine B_callV1 (s_X12_noPerson hG ht1) k_264 clX12 m_X12_noPerson kv_RX12_305 d_X12_comes_8 rfl (Nat.le_of_ble_eq_true rfl) ⟨rfl, rfl, Nat.le_of_ble_eq_true rfl, Nat.le_of_ble_eq_true rfl, Nat.le_of_ble_eq_true rfl⟩ (fun n => ?_)
  refine V_if_ne (tgt := 21) d_X12_comes_11 (by decide) (fun c11 => ?_) (fun c11 => ?_)
  · replace hf := iteT (b2i_ne0 c11) hf
    refine V_less (ls' := [some _, some _, some _, none]) ⟨rfl, rfl, rfl, trivial⟩ ?_
    exact s_X12_comes_j21 hG hf hK
  · replace hf := iteF (b2i_nt (b2i_eq0 c11)) hf
    refine V_iload_n d_X12_comes_14 rfl rfl ?_
    obtain ⟨t2, ht2, hf⟩ := ob hf
    refine B_callS1 (s_X12_noPlace hG ht2) m_X12_noPlace ks_RX12_320 d_X12_comes_15 rfl (Nat.le_of_ble_eq_true rfl) ⟨rfl, rfl, Nat.le_of_ble_eq_true rfl, Nat.le_of_ble_eq_true rfl, Nat.le_of_ble_eq_true rfl⟩ (fun n => ?_)
    have hJj3 : ∀ j3 : Bool, j3 = (if t2 = true then (true : Bool) else false) → V G C F_X12_comes 26 [some (.ref (G.2.1 + 264)), some (.int p1), some (.int p2), none] [.int (b2i j3), .ref (G.2.1 + 264)] (pic G (mset μ 264 0 0)) n 0 0 := by
      intro j3 ej3
      subst ej3
      refine V_iconst (v := 1) d_X12_comes_26 ic_1 ?_
      obtain ⟨q4, hq4, hf⟩ := ob hf
      refine B_callV1 (s_X12_throwsIf hG hq4) k_264 clX12 m_X12_throwsIf kv_RX12_263 d_X12_comes_27 rfl (Nat.le_of_ble_eq_true rfl) ⟨rfl, rfl, Nat.le_of_ble_eq_true rfl, Nat.le_of_ble_eq_true rfl, Nat.le_of_ble_eq_true rfl⟩ (fun n => ?_)
      refine V_if_eq (tgt := 35) d_X12_comes_30 (by decide) (fun c30 => ?_) (fun c30 => ?_)
      · replace hf := iteF (b2i_nt (b2i_eq0 c30)) hf
        refine V_aload_n d_X12_comes_35 rfl rfl ?_
        refine V_iload_n d_X12_comes_36 rfl rfl ?_
        refine V_iload_n d_X12_comes_37 rfl rfl ?_
        obtain ⟨q5, hq5, hf⟩ := ob hf
        refine B_callV1 (s_X12_comesTo hG hq5) k_264 clX12 m_X12_comesTo kv_RX12_374 d_X12_comes_38 rfl (Nat.le_of_ble_eq_true rfl) ⟨rfl, rfl, Nat.le_of_ble_eq_true rfl, Nat.le_of_ble_eq_true rfl, Nat.le_of_ble_eq_true rfl⟩ (fun n => ?_)
        refine V_istore_n (ls' := [_, _, _, _]) d_X12_comes_41 rfl rfl rfl ?_
        refine V_iload_n d_X12_comes_42 rfl rfl ?_
        refine V_ldcw (v := 1000000) d_X12_comes_43 w_1899 ?_
        have hJj6 : ∀ j6 : Int32, j6 = (if q5.1 < 1000000 then (q5.1 : Int32) else (-1)) → V G C F_X12_comes 54 [none, none, none, none] [.int j6] (pic G q5.2) n 0 0 := by
          intro j6 ej6
          subst ej6
          cases hf
          exact R_i hK d_X12_comes_54 (Nat.le_of_ble_eq_true rfl) (Nat.le_of_ble_eq_true rfl)
        refine V_icmp_lt (tgt := 53) d_X12_comes_46 (by decide) (fun c46 => ?_) (fun c46 => ?_)
        · refine V_iload_n d_X12_comes_53 rfl rfl ?_
          refine V_less (ls' := [none, none, none, none]) trivial ?_
          exact hJj6 q5.1 (by rw [if_pos c46])
        · refine V_iconst (v := (-1)) d_X12_comes_49 ic_m1 ?_
          refine V_goto (tgt := 54) d_X12_comes_50 (by decide) ?_
          refine V_less (ls' := [none, none, none, none]) trivial ?_
          exact hJj6 (-1) (by rw [if_neg c46])
      · replace hf := iteT (b2i_ne0 c30) hf
        refine V_iconst (v := 0) d_X12_comes_33 ic_0 ?_
        cases hf
        exact R_i hK d_X12_comes_34 (Nat.le_of_ble_eq_true rfl) (Nat.le_of_ble_eq_true rfl)
    refine V_if_eq (tgt := 25) d_X12_comes_18 (by decide) (fun c18 => ?_) (fun c18 => ?_)
    · refine V_iconst (v := 0) d_X12_comes_25 ic_0 ?_
      refine V_less (ls' := [some _, some _, some _, none]) ⟨rfl, rfl, rfl, trivial⟩ ?_
      exact hJj3 false (by rw [if_neg (b2i_nt (b2i_eq0 c18))])
    · refine V_iconst (v := 1) d_X12_comes_21 ic_1 ?_
      refine V_goto (tgt := 26) d_X12_comes_22 (by decide) ?_
      refine V_less (ls' := [some _, some _, some _, none]) ⟨rfl, rfl, rfl, trivial⟩ ?_
      exact hJj3 true (by rw [if_pos (b2i_ne0 c18)])
theorem s_X12_comes {G : Gl} (hG : G.1.stackTraces = false) {μ : Mem} {p1 : Int32} {p2 : Int32} {r : (Int32 × Mem)} (hf : f_X12_comes μ p1 p2 = some r) : Rt G yX12_comes F_X12_comes (some .int) [.ref (G.2.1 + 264), .int p1, .int p2] μ (some (.int r.1)) r.2 := fun n => Sd.of hG ⟨by decide +kernel, rfl, rfl⟩ rfl (Nat.le_of_ble_eq_true rfl) rfl (fun C hK => s_X12_comes_e hG hf hK)
theorem d_X12_soonest_0 : decode cX12_soonest 0 = .ok (.aload_n 0, 1) := by decide +kernel
theorem d_X12_soonest_1 : decode cX12_soonest 1 = .ok (.iconst 0, 1) := by decide +kernel
theorem d_X12_soonest_2 : decode cX12_soonest 2 = .ok (.putfield 3, 3) := by decide +kernel
theorem d_X12_soonest_5 : decode cX12_soonest 5 = .ok (.aload_n 0, 1) := by decide +kernel
theorem d_X12_soonest_6 : decode cX12_soonest 6 = .ok (.iload_n 1, 1) := by decide +kernel
theorem d_X12_soonest_7 : decode cX12_soonest 7 = .ok (.invokestatic 320, 3) := by decide +kernel
theorem d_X12_soonest_10 : decode cX12_soonest 10 = .ok (.iconst 1, 1) := by decide +kernel
theorem d_X12_soonest_11 : decode cX12_soonest 11 = .ok (.invokevirtual 263, 3) := by decide +kernel
theorem d_X12_soonest_14 : decode cX12_soonest 14 = .ok (.ifCond .eq 5, 3) := by decide +kernel
theorem d_X12_soonest_17 : decode cX12_soonest 17 = .ok (.iconst 0, 1) := by decide +kernel
theorem d_X12_soonest_18 : decode cX12_soonest 18 = .ok (.ireturn, 1) := by decide +kernel
theorem d_X12_soonest_19 : decode cX12_soonest 19 = .ok (.iconst (-1), 1) := by decide +kernel
theorem d_X12_soonest_20 : decode cX12_soonest 20 = .ok (.istore_n 2, 1) := by decide +kernel
theorem d_X12_soonest_21 : decode cX12_soonest 21 = .ok (.ldc_w 373, 3) := by decide +kernel
theorem d_X12_soonest_24 : decode cX12_soonest 24 = .ok (.istore_n 3, 1) := by decide +kernel
theorem d_X12_soonest_25 : decode cX12_soonest 25 = .ok (.iconst 0, 1) := by decide +kernel
theorem d_X12_soonest_26 : decode cX12_soonest 26 = .ok (.istore 4, 2) := by decide +kernel
theorem d_X12_soonest_28 : decode cX12_soonest 28 = .ok (.iload 4, 2) := by decide +kernel
theorem d_X12_soonest_30 : decode cX12_soonest 30 = .ok (.aload_n 0, 1) := by decide +kernel
theorem d_X12_soonest_31 : decode cX12_soonest 31 = .ok (.invokevirtual 59, 3) := by decide +kernel
theorem d_X12_soonest_34 : decode cX12_soonest 34 = .ok (.if_icmp .ge 38, 3) := by decide +kernel
theorem d_X12_soonest_37 : decode cX12_soonest 37 = .ok (.aload_n 0, 1) := by decide +kernel
theorem d_X12_soonest_38 : decode cX12_soonest 38 = .ok (.iload 4, 2) := by decide +kernel
theorem d_X12_soonest_40 : decode cX12_soonest 40 = .ok (.iload_n 1, 1) := by decide +kernel
theorem d_X12_soonest_41 : decode cX12_soonest 41 = .ok (.invokevirtual 374, 3) := by decide +kernel
theorem d_X12_soonest_44 : decode cX12_soonest 44 = .ok (.istore 5, 2) := by decide +kernel
theorem d_X12_soonest_46 : decode cX12_soonest 46 = .ok (.iload 5, 2) := by decide +kernel
theorem d_X12_soonest_48 : decode cX12_soonest 48 = .ok (.iload_n 3, 1) := by decide +kernel
theorem d_X12_soonest_49 : decode cX12_soonest 49 = .ok (.if_icmp .ge 8, 3) := by decide +kernel
theorem d_X12_soonest_52 : decode cX12_soonest 52 = .ok (.iload 4, 2) := by decide +kernel
theorem d_X12_soonest_54 : decode cX12_soonest 54 = .ok (.goto 4, 3) := by decide +kernel
theorem d_X12_soonest_57 : decode cX12_soonest 57 = .ok (.iload_n 2, 1) := by decide +kernel
theorem d_X12_soonest_58 : decode cX12_soonest 58 = .ok (.istore_n 2, 1) := by decide +kernel
theorem d_X12_soonest_59 : decode cX12_soonest 59 = .ok (.iload_n 3, 1) := by decide +kernel
theorem d_X12_soonest_60 : decode cX12_soonest 60 = .ok (.iload 5, 2) := by decide +kernel
theorem d_X12_soonest_62 : decode cX12_soonest 62 = .ok (.invokestatic 87, 3) := by decide +kernel
theorem d_X12_soonest_65 : decode cX12_soonest 65 = .ok (.istore_n 3, 1) := by decide +kernel
theorem d_X12_soonest_66 : decode cX12_soonest 66 = .ok (.iinc 4 1, 3) := by decide +kernel
theorem d_X12_soonest_69 : decode cX12_soonest 69 = .ok (.goto (-41), 3) := by decide +kernel
theorem d_X12_soonest_72 : decode cX12_soonest 72 = .ok (.iload_n 2, 1) := by decide +kernel
theorem d_X12_soonest_73 : decode cX12_soonest 73 = .ok (.ireturn, 1) := by decide +kernel
theorem s_X12_soonest_b28 {G : Gl} (hG : G.1.stackTraces = false) {C : Cx} {n : Nat} {μ : Mem} {l1 : Int32} {l2 : Int32} {l3 : Int32} {l4 : Int32} {y : ((Int32 × Int32 × Int32 × Mem) ⊕ (Int32 × Mem))} (hf : f_X12_soonest_b28 μ l1 l2 l3 l4 = some y) (hK : (∀ z', y = .inl z' → ∀ n, V G C F_X12_soonest 28 [some (.ref (G.2.1 + 264)), some (.int l1), some (.int z'.1), some (.int z'.2.1), some (.int z'.2.2.1), none] [] (pic G z'.2.2.2) n 0 0) ∧ (∀ x', y = .inr x' → ∀ n, V G C F_X12_soonest 72 [none, none, some (.int x'.1), none, none, none] [] (pic G x'.2) n 0 0)) : V G C F_X12_soonest 28 [some (.ref (G.2.1 + 264)), some (.int l1), some (.int l2), some (.int l3), some (.int l4), none] [] (pic G μ) n 0 0 := by
  unfold f_X12_soonest_b28 at hf
  refine V_iload d_X12_soonest_28 rfl ?_
  refine V_aload_n d_X12_soonest_30 rfl rfl ?_
  obtain ⟨t1, ht1, hf⟩ := ob hf
  refine B_callV1 (s_X12_people hG ht1) k_264 clX12 m_X12_people kv_RX12_59 d_X12_soonest_31 rfl (Nat.le_of_ble_eq_true rfl) ⟨rfl, rfl, Nat.le_of_ble_eq_true rfl, Nat.le_of_ble_eq_true rfl, Nat.le_of_ble_eq_true rfl⟩ (fun n => ?_)
  refine V_icmp_ge (tgt := 72) d_X12_soonest_34 (by decide) (fun c34 => ?_) (fun c34 => ?_)
  · replace hf := iteT c34 hf
    refine V_less (ls' := [none, none, some _, none, none, none]) ⟨rfl, trivial⟩ ?_
    cases hf
    exact hK.2 _ rfl _
  · replace hf := iteF c34 hf
    refine V_aload_n d_X12_soonest_37 rfl rfl ?_
    refine V_iload d_X12_soonest_38 rfl ?_
    refine V_iload_n d_X12_soonest_40 rfl rfl ?_
    obtain ⟨q2, hq2, hf⟩ := ob hf
    refine B_callV1 (s_X12_comesTo hG hq2) k_264 clX12 m_X12_comesTo kv_RX12_374 d_X12_soonest_41 rfl (Nat.le_of_ble_eq_true rfl) ⟨rfl, rfl, Nat.le_of_ble_eq_true rfl, Nat.le_of_ble_eq_true rfl, Nat.le_of_ble_eq_true rfl⟩ (fun n => ?_)
    refine V_istore (ls' := [_, _, _, _, _, _]) d_X12_soonest_44 rfl rfl ?_
    refine V_iload d_X12_soonest_46 rfl ?_
    refine V_iload_n d_X12_soonest_48 rfl rfl ?_
    have hJj3 : ∀ j3 : Int32, j3 = (if l3 ≤ q2.1 then (l2 : Int32) else l4) → V G C F_X12_soonest 58 [some (.ref (G.2.1 + 264)), some (.int l1), none, some (.int l3), some (.int l4), some (.int q2.1)] [.int j3] (pic G q2.2) n 0 0 := by
      intro j3 ej3
      subst ej3
      refine V_istore_n (ls' := [_, _, _, _, _, _]) d_X12_soonest_58 rfl rfl rfl ?_
      refine V_iload_n d_X12_soonest_59 rfl rfl ?_
      refine V_iload d_X12_soonest_60 rfl ?_
      obtain ⟨t4, ht4, hf⟩ := ob hf
      refine B_callS1 (s_J9_min_7cf53 hG ht4) m_J9_min_7cf53 ks_RX12_87 d_X12_soonest_62 rfl (Nat.le_of_ble_eq_true rfl) ⟨rfl, rfl, Nat.le_of_ble_eq_true rfl, Nat.le_of_ble_eq_true rfl, Nat.le_of_ble_eq_true rfl⟩ (fun n => ?_)
      refine V_istore_n (ls' := [_, _, _, _, _, _]) d_X12_soonest_65 rfl rfl rfl ?_
      refine V_iinc (v := (l4 + 1)) (ls' := [_, _, _, _, _, _]) d_X12_soonest_66 rfl (by rw [ic_1]) rfl ?_
      refine V_goto (tgt := 28) d_X12_soonest_69 (by decide) ?_
      refine V_less (ls' := [some _, some _, some _, some _, some _, none]) ⟨rfl, rfl, rfl, rfl, rfl, trivial⟩ ?_
      cases hf
      exact hK.1 _ rfl _
    refine V_icmp_ge (tgt := 57) d_X12_soonest_49 (by decide) (fun c49 => ?_) (fun c49 => ?_)
    · refine V_iload_n d_X12_soonest_57 rfl rfl ?_
      refine V_less (ls' := [some _, some _, none, some _, some _, some _]) ⟨rfl, rfl, rfl, rfl, rfl, trivial⟩ ?_
      exact hJj3 l2 (by rw [if_pos c49])
    · refine V_iload d_X12_soonest_52 rfl ?_
      refine V_goto (tgt := 58) d_X12_soonest_54 (by decide) ?_
      refine V_less (ls' := [some _, some _, none, some _, some _, some _]) ⟨rfl, rfl, rfl, rfl, rfl, trivial⟩ ?_
      exact hJj3 l4 (by rw [if_neg c49])
theorem s_X12_soonest_j72 {G : Gl} (hG : G.1.stackTraces = false) {C : Cx} {n : Nat} {μ : Mem} {l2 : Int32} {r : (Int32 × Mem)} (hf : f_X12_soonest_j72 μ l2 = some r) (hK : FinR G C F_X12_soonest (some .int) (some (.int r.1)) r.2) : V G C F_X12_soonest 72 [none, none, some (.int l2), none, none, none] [] (pic G μ) n 0 0 := by
  unfold f_X12_soonest_j72 at hf
  refine V_iload_n d_X12_soonest_72 rfl rfl ?_
  cases hf
  exact R_i hK d_X12_soonest_73 (Nat.le_of_ble_eq_true rfl) (Nat.le_of_ble_eq_true rfl)
theorem s_X12_soonest_l28 {G : Gl} (hG : G.1.stackTraces = false) {C : Cx} {n : Nat} {μ : Mem} {l1 : Int32} {l2 : Int32} {l3 : Int32} {l4 : Int32} {r : (Int32 × Mem)} (hf : f_X12_soonest_l28 μ l1 l2 l3 l4 = some r) (hK : FinR G C F_X12_soonest (some .int) (some (.int r.1)) r.2) : V G C F_X12_soonest 28 [some (.ref (G.2.1 + 264)), some (.int l1), some (.int l2), some (.int l3), some (.int l4), none] [] (pic G μ) n 0 0 := by
  unfold f_X12_soonest_l28 at hf
  obtain ⟨t, hl, hf⟩ := ob hf
  refine loopV (P := fun z => ∀ n, V G C F_X12_soonest 28 [some (.ref (G.2.1 + 264)), some (.int l1), some (.int z.1), some (.int z.2.1), some (.int z.2.2.1), none] [] (pic G z.2.2.2) n 0 0) (t := t) ?_ _ _ hl n
  intro z y' hy hI hT n
  refine s_X12_soonest_b28 hG hy ⟨hI, fun x9 ex => ?_⟩
  have ex2 := hT x9 ex
  subst ex2
  intro n
  exact s_X12_soonest_j72 hG hf hK
theorem s_X12_soonest_e {G : Gl} (hG : G.1.stackTraces = false) {C : Cx} {n : Nat} {μ : Mem} {p1 : Int32} {r : (Int32 × Mem)} (hf : f_X12_soonest μ p1 = some r) (hK : FinR G C F_X12_soonest (some .int) (some (.int r.1)) r.2) : V G C F_X12_soonest 0 [some (.ref (G.2.1 + 264)), some (.int p1), none, none, none, none] [] (pic G μ) n 0 0 := by
  unfold f_X12_soonest at hf
  refine V_aload_n d_X12_soonest_0 rfl rfl ?_
  refine V_iconst (v := 0) d_X12_soonest_1 ic_0 ?_
  refine B_putI k_264 fl_RX12_3 pt_12_0 (Nat.le_of_ble_eq_true rfl) p_12_0 d_X12_soonest_2 ?_
  refine V_aload_n d_X12_soonest_5 rfl rfl ?_
  refine V_iload_n d_X12_soonest_6 rfl rfl ?_
  obtain ⟨t1, ht1, hf⟩ := ob hf
  refine B_callS1 (s_X12_noPlace hG ht1) m_X12_noPlace ks_RX12_320 d_X12_soonest_7 rfl (Nat.le_of_ble_eq_true rfl) ⟨rfl, rfl, Nat.le_of_ble_eq_true rfl, Nat.le_of_ble_eq_true rfl, Nat.le_of_ble_eq_true rfl⟩ (fun n => ?_)
  refine V_iconst (v := 1) d_X12_soonest_10 ic_1 ?_
  obtain ⟨q2, hq2, hf⟩ := ob hf
  refine B_callV1 (s_X12_throwsIf hG hq2) k_264 clX12 m_X12_throwsIf kv_RX12_263 d_X12_soonest_11 rfl (Nat.le_of_ble_eq_true rfl) ⟨rfl, rfl, Nat.le_of_ble_eq_true rfl, Nat.le_of_ble_eq_true rfl, Nat.le_of_ble_eq_true rfl⟩ (fun n => ?_)
  refine V_if_eq (tgt := 19) d_X12_soonest_14 (by decide) (fun c14 => ?_) (fun c14 => ?_)
  · replace hf := iteF (b2i_nt (b2i_eq0 c14)) hf
    refine V_iconst (v := (-1)) d_X12_soonest_19 ic_m1 ?_
    refine V_istore_n (ls' := [_, _, _, _, _, _]) d_X12_soonest_20 rfl rfl rfl ?_
    refine V_ldcw (v := 1000000) d_X12_soonest_21 w_1899 ?_
    refine V_istore_n (ls' := [_, _, _, _, _, _]) d_X12_soonest_24 rfl rfl rfl ?_
    refine V_iconst (v := 0) d_X12_soonest_25 ic_0 ?_
    refine V_istore (ls' := [_, _, _, _, _, _]) d_X12_soonest_26 rfl rfl ?_
    refine V_less (ls' := [some _, some _, some _, some _, some _, none]) ⟨rfl, rfl, rfl, rfl, rfl, trivial⟩ ?_
    exact s_X12_soonest_l28 hG hf hK
  · replace hf := iteT (b2i_ne0 c14) hf
    refine V_iconst (v := 0) d_X12_soonest_17 ic_0 ?_
    cases hf
    exact R_i hK d_X12_soonest_18 (Nat.le_of_ble_eq_true rfl) (Nat.le_of_ble_eq_true rfl)
theorem s_X12_soonest {G : Gl} (hG : G.1.stackTraces = false) {μ : Mem} {p1 : Int32} {r : (Int32 × Mem)} (hf : f_X12_soonest μ p1 = some r) : Rt G yX12_soonest F_X12_soonest (some .int) [.ref (G.2.1 + 264), .int p1] μ (some (.int r.1)) r.2 := fun n => Sd.of hG ⟨by decide +kernel, rfl, rfl⟩ rfl (Nat.le_of_ble_eq_true rfl) rfl (fun C hK => s_X12_soonest_e hG hf hK)
theorem d_X12_leastOf_0 : decode cX12_leastOf 0 = .ok (.aload_n 0, 1) := by decide +kernel
theorem d_X12_leastOf_1 : decode cX12_leastOf 1 = .ok (.getfield 45, 3) := by decide +kernel
theorem d_X12_leastOf_4 : decode cX12_leastOf 4 = .ok (.iload_n 1, 1) := by decide +kernel
theorem d_X12_leastOf_5 : decode cX12_leastOf 5 = .ok (.bipush 6, 2) := by decide +kernel
theorem d_X12_leastOf_7 : decode cX12_leastOf 7 = .ok (.ishl, 1) := by decide +kernel
theorem d_X12_leastOf_8 : decode cX12_leastOf 8 = .ok (.iload_n 2, 1) := by decide +kernel
theorem d_X12_leastOf_9 : decode cX12_leastOf 9 = .ok (.iadd, 1) := by decide +kernel
theorem d_X12_leastOf_10 : decode cX12_leastOf 10 = .ok (.iaload, 1) := by decide +kernel
theorem d_X12_leastOf_11 : decode cX12_leastOf 11 = .ok (.ireturn, 1) := by decide +kernel
theorem s_X12_leastOf_e {G : Gl} (hG : G.1.stackTraces = false) {C : Cx} {n : Nat} {μ : Mem} {p1 : Int32} {p2 : Int32} {r : Int32} (hf : f_X12_leastOf μ p1 p2 = some r) (hK : FinR G C F_X12_leastOf (some .int) (some (.int r)) μ) : V G C F_X12_leastOf 0 [some (.ref (G.2.1 + 264)), some (.int p1), some (.int p2)] [] (pic G μ) n 0 0 := by
  unfold f_X12_leastOf at hf
  refine V_aload_n d_X12_leastOf_0 rfl rfl ?_
  refine B_get k_264 fl_RX12_45 d_X12_leastOf_1 g_12_19 ?_
  refine V_iload_n d_X12_leastOf_4 rfl rfl ?_
  refine V_bipush (v := 6) d_X12_leastOf_5 bp_6 ?_
  refine V_ishl d_X12_leastOf_7 ?_
  refine V_iload_n d_X12_leastOf_8 rfl rfl ?_
  refine V_iadd d_X12_leastOf_9 ?_
  obtain ⟨t1, ht1, hf⟩ := ob hf
  refine B_iald k_274 ht1 d_X12_leastOf_10 ?_
  cases hf
  exact R_i hK d_X12_leastOf_11 (Nat.le_of_ble_eq_true rfl) (Nat.le_of_ble_eq_true rfl)
theorem s_X12_leastOf {G : Gl} (hG : G.1.stackTraces = false) {μ : Mem} {p1 : Int32} {p2 : Int32} {r : Int32} (hf : f_X12_leastOf μ p1 p2 = some r) : Rt G yX12_leastOf F_X12_leastOf (some .int) [.ref (G.2.1 + 264), .int p1, .int p2] μ (some (.int r)) μ := fun n => Sd.of hG ⟨by decide +kernel, rfl, rfl⟩ rfl (Nat.le_of_ble_eq_true rfl) rfl (fun C hK => s_X12_leastOf_e hG hf hK)
theorem d_X12_leastBy_0 : decode cX12_leastBy 0 = .ok (.ldc_w 373, 3) := by decide +kernel
theorem d_X12_leastBy_3 : decode cX12_leastBy 3 = .ok (.aload_n 0, 1) := by decide +kernel
theorem d_X12_leastBy_4 : decode cX12_leastBy 4 = .ok (.getfield 42, 3) := by decide +kernel
theorem d_X12_leastBy_7 : decode cX12_leastBy 7 = .ok (.bipush 6, 2) := by decide +kernel
theorem d_X12_leastBy_9 : decode cX12_leastBy 9 = .ok (.iload_n 1, 1) := by decide +kernel
theorem d_X12_leastBy_10 : decode cX12_leastBy 10 = .ok (.imul, 1) := by decide +kernel
theorem d_X12_leastBy_11 : decode cX12_leastBy 11 = .ok (.iload_n 3, 1) := by decide +kernel
theorem d_X12_leastBy_12 : decode cX12_leastBy 12 = .ok (.iadd, 1) := by decide +kernel
theorem d_X12_leastBy_13 : decode cX12_leastBy 13 = .ok (.iaload, 1) := by decide +kernel
theorem d_X12_leastBy_14 : decode cX12_leastBy 14 = .ok (.aload_n 0, 1) := by decide +kernel
theorem d_X12_leastBy_15 : decode cX12_leastBy 15 = .ok (.iload_n 1, 1) := by decide +kernel
theorem d_X12_leastBy_16 : decode cX12_leastBy 16 = .ok (.iconst 1, 1) := by decide +kernel
theorem d_X12_leastBy_17 : decode cX12_leastBy 17 = .ok (.iadd, 1) := by decide +kernel
theorem d_X12_leastBy_18 : decode cX12_leastBy 18 = .ok (.iload_n 2, 1) := by decide +kernel
theorem d_X12_leastBy_19 : decode cX12_leastBy 19 = .ok (.iconst 1, 1) := by decide +kernel
theorem d_X12_leastBy_20 : decode cX12_leastBy 20 = .ok (.iload_n 3, 1) := by decide +kernel
theorem d_X12_leastBy_21 : decode cX12_leastBy 21 = .ok (.ishl, 1) := by decide +kernel
theorem d_X12_leastBy_22 : decode cX12_leastBy 22 = .ok (.ior, 1) := by decide +kernel
theorem d_X12_leastBy_23 : decode cX12_leastBy 23 = .ok (.invokevirtual 377, 3) := by decide +kernel
theorem d_X12_leastBy_26 : decode cX12_leastBy 26 = .ok (.iadd, 1) := by decide +kernel
theorem d_X12_leastBy_27 : decode cX12_leastBy 27 = .ok (.invokestatic 87, 3) := by decide +kernel
theorem d_X12_leastBy_30 : decode cX12_leastBy 30 = .ok (.ireturn, 1) := by decide +kernel
theorem s_X12_leastBy_e {G : Gl} (hG : G.1.stackTraces = false) {C : Cx} {n : Nat} {μ : Mem} {p1 : Int32} {p2 : Int32} {p3 : Int32} {r : Int32} (hf : f_X12_leastBy μ p1 p2 p3 = some r) (hK : FinR G C F_X12_leastBy (some .int) (some (.int r)) μ) : V G C F_X12_leastBy 0 [some (.ref (G.2.1 + 264)), some (.int p1), some (.int p2), some (.int p3)] [] (pic G μ) n 0 0 := by
  unfold f_X12_leastBy at hf
  refine V_ldcw (v := 1000000) d_X12_leastBy_0 w_1899 ?_
  refine V_aload_n d_X12_leastBy_3 rfl rfl ?_
  refine B_get k_264 fl_RX12_42 d_X12_leastBy_4 g_12_18 ?_
  refine V_bipush (v := 6) d_X12_leastBy_7 bp_6 ?_
  refine V_iload_n d_X12_leastBy_9 rfl rfl ?_
  refine V_imul d_X12_leastBy_10 ?_
  refine V_iload_n d_X12_leastBy_11 rfl rfl ?_
  refine V_iadd d_X12_leastBy_12 ?_
  obtain ⟨t1, ht1, hf⟩ := ob hf
  refine B_iald k_273 ht1 d_X12_leastBy_13 ?_
  refine V_aload_n d_X12_leastBy_14 rfl rfl ?_
  refine V_iload_n d_X12_leastBy_15 rfl rfl ?_
  refine V_iconst (v := 1) d_X12_leastBy_16 ic_1 ?_
  refine V_iadd d_X12_leastBy_17 ?_
  refine V_iload_n d_X12_leastBy_18 rfl rfl ?_
  refine V_iconst (v := 1) d_X12_leastBy_19 ic_1 ?_
  refine V_iload_n d_X12_leastBy_20 rfl rfl ?_
  refine V_ishl d_X12_leastBy_21 ?_
  refine V_ior d_X12_leastBy_22 ?_
  obtain ⟨t2, ht2, hf⟩ := ob hf
  refine B_callV1 (s_X12_leastOf hG ht2) k_264 clX12 m_X12_leastOf kv_RX12_377 d_X12_leastBy_23 rfl (Nat.le_of_ble_eq_true rfl) ⟨rfl, rfl, Nat.le_of_ble_eq_true rfl, Nat.le_of_ble_eq_true rfl, Nat.le_of_ble_eq_true rfl⟩ (fun n => ?_)
  refine V_iadd d_X12_leastBy_26 ?_
  obtain ⟨t3, ht3, hf⟩ := ob hf
  refine B_callS1 (s_J9_min_7cf53 hG ht3) m_J9_min_7cf53 ks_RX12_87 d_X12_leastBy_27 rfl (Nat.le_of_ble_eq_true rfl) ⟨rfl, rfl, Nat.le_of_ble_eq_true rfl, Nat.le_of_ble_eq_true rfl, Nat.le_of_ble_eq_true rfl⟩ (fun n => ?_)
  cases hf
  exact R_i hK d_X12_leastBy_30 (Nat.le_of_ble_eq_true rfl) (Nat.le_of_ble_eq_true rfl)
theorem s_X12_leastBy {G : Gl} (hG : G.1.stackTraces = false) {μ : Mem} {p1 : Int32} {p2 : Int32} {p3 : Int32} {r : Int32} (hf : f_X12_leastBy μ p1 p2 p3 = some r) : Rt G yX12_leastBy F_X12_leastBy (some .int) [.ref (G.2.1 + 264), .int p1, .int p2, .int p3] μ (some (.int r)) μ := fun n => Sd.of hG ⟨by decide +kernel, rfl, rfl⟩ rfl (Nat.le_of_ble_eq_true rfl) rfl (fun C hK => s_X12_leastBy_e hG hf hK)
theorem d_X12_laysLeast_0 : decode cX12_laysLeast 0 = .ok (.iconst 0, 1) := by decide +kernel
theorem d_X12_laysLeast_1 : decode cX12_laysLeast 1 = .ok (.istore_n 1, 1) := by decide +kernel
theorem d_X12_laysLeast_2 : decode cX12_laysLeast 2 = .ok (.iload_n 1, 1) := by decide +kernel
theorem d_X12_laysLeast_3 : decode cX12_laysLeast 3 = .ok (.aload_n 0, 1) := by decide +kernel
theorem d_X12_laysLeast_4 : decode cX12_laysLeast 4 = .ok (.invokevirtual 59, 3) := by decide +kernel
theorem d_X12_laysLeast_7 : decode cX12_laysLeast 7 = .ok (.if_icmp .ge 47, 3) := by decide +kernel
theorem d_X12_laysLeast_10 : decode cX12_laysLeast 10 = .ok (.iconst 0, 1) := by decide +kernel
theorem d_X12_laysLeast_11 : decode cX12_laysLeast 11 = .ok (.istore_n 2, 1) := by decide +kernel
theorem d_X12_laysLeast_12 : decode cX12_laysLeast 12 = .ok (.iload_n 2, 1) := by decide +kernel
theorem d_X12_laysLeast_13 : decode cX12_laysLeast 13 = .ok (.aload_n 0, 1) := by decide +kernel
theorem d_X12_laysLeast_14 : decode cX12_laysLeast 14 = .ok (.invokevirtual 59, 3) := by decide +kernel
theorem d_X12_laysLeast_17 : decode cX12_laysLeast 17 = .ok (.if_icmp .ge 31, 3) := by decide +kernel
theorem d_X12_laysLeast_20 : decode cX12_laysLeast 20 = .ok (.aload_n 0, 1) := by decide +kernel
theorem d_X12_laysLeast_21 : decode cX12_laysLeast 21 = .ok (.getfield 42, 3) := by decide +kernel
theorem d_X12_laysLeast_24 : decode cX12_laysLeast 24 = .ok (.bipush 6, 2) := by decide +kernel
theorem d_X12_laysLeast_26 : decode cX12_laysLeast 26 = .ok (.iload_n 1, 1) := by decide +kernel
theorem d_X12_laysLeast_27 : decode cX12_laysLeast 27 = .ok (.imul, 1) := by decide +kernel
theorem d_X12_laysLeast_28 : decode cX12_laysLeast 28 = .ok (.iload_n 2, 1) := by decide +kernel
theorem d_X12_laysLeast_29 : decode cX12_laysLeast 29 = .ok (.iadd, 1) := by decide +kernel
theorem d_X12_laysLeast_30 : decode cX12_laysLeast 30 = .ok (.aload_n 0, 1) := by decide +kernel
theorem d_X12_laysLeast_31 : decode cX12_laysLeast 31 = .ok (.iload_n 1, 1) := by decide +kernel
theorem d_X12_laysLeast_32 : decode cX12_laysLeast 32 = .ok (.aload_n 0, 1) := by decide +kernel
theorem d_X12_laysLeast_33 : decode cX12_laysLeast 33 = .ok (.getfield 29, 3) := by decide +kernel
theorem d_X12_laysLeast_36 : decode cX12_laysLeast 36 = .ok (.iload_n 2, 1) := by decide +kernel
theorem d_X12_laysLeast_37 : decode cX12_laysLeast 37 = .ok (.baload, 1) := by decide +kernel
theorem d_X12_laysLeast_38 : decode cX12_laysLeast 38 = .ok (.invokevirtual 374, 3) := by decide +kernel
theorem d_X12_laysLeast_41 : decode cX12_laysLeast 41 = .ok (.iastore, 1) := by decide +kernel
theorem d_X12_laysLeast_42 : decode cX12_laysLeast 42 = .ok (.iinc 2 1, 3) := by decide +kernel
theorem d_X12_laysLeast_45 : decode cX12_laysLeast 45 = .ok (.goto (-33), 3) := by decide +kernel
theorem d_X12_laysLeast_48 : decode cX12_laysLeast 48 = .ok (.iinc 1 1, 3) := by decide +kernel
theorem d_X12_laysLeast_51 : decode cX12_laysLeast 51 = .ok (.goto (-49), 3) := by decide +kernel
theorem d_X12_laysLeast_54 : decode cX12_laysLeast 54 = .ok (.iconst 0, 1) := by decide +kernel
theorem d_X12_laysLeast_55 : decode cX12_laysLeast 55 = .ok (.istore_n 1, 1) := by decide +kernel
theorem d_X12_laysLeast_56 : decode cX12_laysLeast 56 = .ok (.iload_n 1, 1) := by decide +kernel
theorem d_X12_laysLeast_57 : decode cX12_laysLeast 57 = .ok (.bipush 64, 2) := by decide +kernel
theorem d_X12_laysLeast_59 : decode cX12_laysLeast 59 = .ok (.if_icmp .ge 24, 3) := by decide +kernel
theorem d_X12_laysLeast_62 : decode cX12_laysLeast 62 = .ok (.aload_n 0, 1) := by decide +kernel
theorem d_X12_laysLeast_63 : decode cX12_laysLeast 63 = .ok (.getfield 45, 3) := by decide +kernel
theorem d_X12_laysLeast_66 : decode cX12_laysLeast 66 = .ok (.aload_n 0, 1) := by decide +kernel
theorem d_X12_laysLeast_67 : decode cX12_laysLeast 67 = .ok (.invokevirtual 59, 3) := by decide +kernel
theorem d_X12_laysLeast_70 : decode cX12_laysLeast 70 = .ok (.bipush 6, 2) := by decide +kernel
theorem d_X12_laysLeast_72 : decode cX12_laysLeast 72 = .ok (.ishl, 1) := by decide +kernel
theorem d_X12_laysLeast_73 : decode cX12_laysLeast 73 = .ok (.iload_n 1, 1) := by decide +kernel
theorem d_X12_laysLeast_74 : decode cX12_laysLeast 74 = .ok (.iadd, 1) := by decide +kernel
theorem d_X12_laysLeast_75 : decode cX12_laysLeast 75 = .ok (.iconst 0, 1) := by decide +kernel
theorem d_X12_laysLeast_76 : decode cX12_laysLeast 76 = .ok (.iastore, 1) := by decide +kernel
theorem d_X12_laysLeast_77 : decode cX12_laysLeast 77 = .ok (.iinc 1 1, 3) := by decide +kernel
theorem d_X12_laysLeast_80 : decode cX12_laysLeast 80 = .ok (.goto (-24), 3) := by decide +kernel
theorem d_X12_laysLeast_83 : decode cX12_laysLeast 83 = .ok (.aload_n 0, 1) := by decide +kernel
theorem d_X12_laysLeast_84 : decode cX12_laysLeast 84 = .ok (.invokevirtual 59, 3) := by decide +kernel
theorem d_X12_laysLeast_87 : decode cX12_laysLeast 87 = .ok (.iconst 1, 1) := by decide +kernel
theorem d_X12_laysLeast_88 : decode cX12_laysLeast 88 = .ok (.isub, 1) := by decide +kernel
theorem d_X12_laysLeast_89 : decode cX12_laysLeast 89 = .ok (.istore_n 1, 1) := by decide +kernel
theorem d_X12_laysLeast_90 : decode cX12_laysLeast 90 = .ok (.iload_n 1, 1) := by decide +kernel
theorem d_X12_laysLeast_91 : decode cX12_laysLeast 91 = .ok (.ifCond .lt 79, 3) := by decide +kernel
theorem d_X12_laysLeast_94 : decode cX12_laysLeast 94 = .ok (.iconst 0, 1) := by decide +kernel
theorem d_X12_laysLeast_95 : decode cX12_laysLeast 95 = .ok (.istore_n 2, 1) := by decide +kernel
theorem d_X12_laysLeast_96 : decode cX12_laysLeast 96 = .ok (.iload_n 2, 1) := by decide +kernel
theorem d_X12_laysLeast_97 : decode cX12_laysLeast 97 = .ok (.bipush 64, 2) := by decide +kernel
theorem d_X12_laysLeast_99 : decode cX12_laysLeast 99 = .ok (.if_icmp .ge 65, 3) := by decide +kernel
theorem d_X12_laysLeast_102 : decode cX12_laysLeast 102 = .ok (.ldc_w 373, 3) := by decide +kernel
theorem d_X12_laysLeast_105 : decode cX12_laysLeast 105 = .ok (.istore_n 3, 1) := by decide +kernel
theorem d_X12_laysLeast_106 : decode cX12_laysLeast 106 = .ok (.iconst 0, 1) := by decide +kernel
theorem d_X12_laysLeast_107 : decode cX12_laysLeast 107 = .ok (.istore 4, 2) := by decide +kernel
theorem d_X12_laysLeast_109 : decode cX12_laysLeast 109 = .ok (.iload 4, 2) := by decide +kernel
theorem d_X12_laysLeast_111 : decode cX12_laysLeast 111 = .ok (.aload_n 0, 1) := by decide +kernel
theorem d_X12_laysLeast_112 : decode cX12_laysLeast 112 = .ok (.invokevirtual 59, 3) := by decide +kernel
theorem d_X12_laysLeast_115 : decode cX12_laysLeast 115 = .ok (.if_icmp .ge 31, 3) := by decide +kernel
theorem d_X12_laysLeast_118 : decode cX12_laysLeast 118 = .ok (.iload_n 2, 1) := by decide +kernel
theorem d_X12_laysLeast_119 : decode cX12_laysLeast 119 = .ok (.iload 4, 2) := by decide +kernel
theorem d_X12_laysLeast_121 : decode cX12_laysLeast 121 = .ok (.invokestatic 380, 3) := by decide +kernel
theorem d_X12_laysLeast_124 : decode cX12_laysLeast 124 = .ok (.ifCond .ne 16, 3) := by decide +kernel
theorem d_X12_laysLeast_127 : decode cX12_laysLeast 127 = .ok (.iload_n 3, 1) := by decide +kernel
theorem d_X12_laysLeast_128 : decode cX12_laysLeast 128 = .ok (.aload_n 0, 1) := by decide +kernel
theorem d_X12_laysLeast_129 : decode cX12_laysLeast 129 = .ok (.iload_n 1, 1) := by decide +kernel
theorem d_X12_laysLeast_130 : decode cX12_laysLeast 130 = .ok (.iload_n 2, 1) := by decide +kernel
theorem d_X12_laysLeast_131 : decode cX12_laysLeast 131 = .ok (.iload 4, 2) := by decide +kernel
theorem d_X12_laysLeast_133 : decode cX12_laysLeast 133 = .ok (.invokevirtual 383, 3) := by decide +kernel
theorem d_X12_laysLeast_136 : decode cX12_laysLeast 136 = .ok (.invokestatic 87, 3) := by decide +kernel
theorem d_X12_laysLeast_139 : decode cX12_laysLeast 139 = .ok (.istore_n 3, 1) := by decide +kernel
theorem d_X12_laysLeast_140 : decode cX12_laysLeast 140 = .ok (.iinc 4 1, 3) := by decide +kernel
theorem d_X12_laysLeast_143 : decode cX12_laysLeast 143 = .ok (.goto (-34), 3) := by decide +kernel
theorem d_X12_laysLeast_146 : decode cX12_laysLeast 146 = .ok (.aload_n 0, 1) := by decide +kernel
theorem d_X12_laysLeast_147 : decode cX12_laysLeast 147 = .ok (.getfield 45, 3) := by decide +kernel
theorem d_X12_laysLeast_150 : decode cX12_laysLeast 150 = .ok (.iload_n 1, 1) := by decide +kernel
theorem d_X12_laysLeast_151 : decode cX12_laysLeast 151 = .ok (.bipush 6, 2) := by decide +kernel
theorem d_X12_laysLeast_153 : decode cX12_laysLeast 153 = .ok (.ishl, 1) := by decide +kernel
theorem d_X12_laysLeast_154 : decode cX12_laysLeast 154 = .ok (.iload_n 2, 1) := by decide +kernel
theorem d_X12_laysLeast_155 : decode cX12_laysLeast 155 = .ok (.iadd, 1) := by decide +kernel
theorem d_X12_laysLeast_156 : decode cX12_laysLeast 156 = .ok (.iload_n 3, 1) := by decide +kernel
theorem d_X12_laysLeast_157 : decode cX12_laysLeast 157 = .ok (.iastore, 1) := by decide +kernel
theorem d_X12_laysLeast_158 : decode cX12_laysLeast 158 = .ok (.iinc 2 1, 3) := by decide +kernel
theorem d_X12_laysLeast_161 : decode cX12_laysLeast 161 = .ok (.goto (-65), 3) := by decide +kernel
theorem d_X12_laysLeast_164 : decode cX12_laysLeast 164 = .ok (.iinc 1 (-1), 3) := by decide +kernel
theorem d_X12_laysLeast_167 : decode cX12_laysLeast 167 = .ok (.goto (-77), 3) := by decide +kernel
theorem d_X12_laysLeast_170 : decode cX12_laysLeast 170 = .ok (.return_, 1) := by decide +kernel
theorem s_X12_laysLeast_b12 {G : Gl} (hG : G.1.stackTraces = false) {C : Cx} {n : Nat} {μ : Mem} {l1 : Int32} {l2 : Int32} {y : ((Int32 × Mem) ⊕ Mem)} (hf : f_X12_laysLeast_b12 μ l1 l2 = some y) (hK : (∀ z', y = .inl z' → ∀ n, V G C F_X12_laysLeast 12 [some (.ref (G.2.1 + 264)), some (.int l1), some (.int z'.1), none, none] [] (pic G z'.2) n 0 0) ∧ (∀ x', y = .inr x' → ∀ n, V G C F_X12_laysLeast 48 [some (.ref (G.2.1 + 264)), some (.int l1), none, none, none] [] (pic G x') n 0 0)) : V G C F_X12_laysLeast 12 [some (.ref (G.2.1 + 264)), some (.int l1), some (.int l2), none, none] [] (pic G μ) n 0 0 := by
  unfold f_X12_laysLeast_b12 at hf
  refine V_iload_n d_X12_laysLeast_12 rfl rfl ?_
  refine V_aload_n d_X12_laysLeast_13 rfl rfl ?_
  obtain ⟨t1, ht1, hf⟩ := ob hf
  refine B_callV1 (s_X12_people hG ht1) k_264 clX12 m_X12_people kv_RX12_59 d_X12_laysLeast_14 rfl (Nat.le_of_ble_eq_true rfl) ⟨rfl, rfl, Nat.le_of_ble_eq_true rfl, Nat.le_of_ble_eq_true rfl, Nat.le_of_ble_eq_true rfl⟩ (fun n => ?_)
  refine V_icmp_ge (tgt := 48) d_X12_laysLeast_17 (by decide) (fun c17 => ?_) (fun c17 => ?_)
  · replace hf := iteT c17 hf
    refine V_less (ls' := [some _, some _, none, none, none]) ⟨rfl, rfl, trivial⟩ ?_
    cases hf
    exact hK.2 _ rfl _
  · replace hf := iteF c17 hf
    refine V_aload_n d_X12_laysLeast_20 rfl rfl ?_
    refine B_get k_264 fl_RX12_42 d_X12_laysLeast_21 g_12_18 ?_
    refine V_bipush (v := 6) d_X12_laysLeast_24 bp_6 ?_
    refine V_iload_n d_X12_laysLeast_26 rfl rfl ?_
    refine V_imul d_X12_laysLeast_27 ?_
    refine V_iload_n d_X12_laysLeast_28 rfl rfl ?_
    refine V_iadd d_X12_laysLeast_29 ?_
    refine V_aload_n d_X12_laysLeast_30 rfl rfl ?_
    refine V_iload_n d_X12_laysLeast_31 rfl rfl ?_
    refine V_aload_n d_X12_laysLeast_32 rfl rfl ?_
    refine B_get k_264 fl_RX12_29 d_X12_laysLeast_33 g_12_8 ?_
    refine V_iload_n d_X12_laysLeast_36 rfl rfl ?_
    obtain ⟨t2, ht2, hf⟩ := ob hf
    refine B_bald k_270 ht2 d_X12_laysLeast_37 ?_
    obtain ⟨q3, hq3, hf⟩ := ob hf
    refine B_callV1 (s_X12_comesTo hG hq3) k_264 clX12 m_X12_comesTo kv_RX12_374 d_X12_laysLeast_38 rfl (Nat.le_of_ble_eq_true rfl) ⟨rfl, rfl, Nat.le_of_ble_eq_true rfl, Nat.le_of_ble_eq_true rfl, Nat.le_of_ble_eq_true rfl⟩ (fun n => ?_)
    obtain ⟨μ4, hμ4, hf⟩ := ob hf
    refine B_iast k_273 hμ4 d_X12_laysLeast_41 ?_
    refine V_iinc (v := (l2 + 1)) (ls' := [_, _, _, _, _]) d_X12_laysLeast_42 rfl (by rw [ic_1]) rfl ?_
    refine V_goto (tgt := 12) d_X12_laysLeast_45 (by decide) ?_
    refine V_less (ls' := [some _, some _, some _, none, none]) ⟨rfl, rfl, rfl, trivial⟩ ?_
    cases hf
    exact hK.1 _ rfl _
theorem s_X12_laysLeast_j48_2 {G : Gl} (hG : G.1.stackTraces = false) {C : Cx} {n : Nat} {μ : Mem} {l1 : Int32} {y : ((Int32 × Mem) ⊕ Mem)} (hf : f_X12_laysLeast_j48_2 μ l1 = some y) (hK : (∀ z', y = .inl z' → ∀ n, V G C F_X12_laysLeast 2 [some (.ref (G.2.1 + 264)), some (.int z'.1), none, none, none] [] (pic G z'.2) n 0 0) ∧ (∀ x', y = .inr x' → ∀ n, V G C F_X12_laysLeast 54 [some (.ref (G.2.1 + 264)), none, none, none, none] [] (pic G x') n 0 0)) : V G C F_X12_laysLeast 48 [some (.ref (G.2.1 + 264)), some (.int l1), none, none, none] [] (pic G μ) n 0 0 := by
  unfold f_X12_laysLeast_j48_2 at hf
  refine V_iinc (v := (l1 + 1)) (ls' := [_, _, _, _, _]) d_X12_laysLeast_48 rfl (by rw [ic_1]) rfl ?_
  refine V_goto (tgt := 2) d_X12_laysLeast_51 (by decide) ?_
  refine V_less (ls' := [some _, some _, none, none, none]) ⟨rfl, rfl, trivial⟩ ?_
  cases hf
  exact hK.1 _ rfl _
theorem s_X12_laysLeast_l12 {G : Gl} (hG : G.1.stackTraces = false) {C : Cx} {n : Nat} {μ : Mem} {l1 : Int32} {l2 : Int32} {y : ((Int32 × Mem) ⊕ Mem)} (hf : f_X12_laysLeast_l12 μ l1 l2 = some y) (hK : (∀ z', y = .inl z' → ∀ n, V G C F_X12_laysLeast 2 [some (.ref (G.2.1 + 264)), some (.int z'.1), none, none, none] [] (pic G z'.2) n 0 0) ∧ (∀ x', y = .inr x' → ∀ n, V G C F_X12_laysLeast 54 [some (.ref (G.2.1 + 264)), none, none, none, none] [] (pic G x') n 0 0)) : V G C F_X12_laysLeast 12 [some (.ref (G.2.1 + 264)), some (.int l1), some (.int l2), none, none] [] (pic G μ) n 0 0 := by
  unfold f_X12_laysLeast_l12 at hf
  obtain ⟨t, hl, hf⟩ := ob hf
  refine loopV (P := fun z => ∀ n, V G C F_X12_laysLeast 12 [some (.ref (G.2.1 + 264)), some (.int l1), some (.int z.1), none, none] [] (pic G z.2) n 0 0) (t := t) ?_ _ _ hl n
  intro z y' hy hI hT n
  refine s_X12_laysLeast_b12 hG hy ⟨hI, fun x9 ex => ?_⟩
  have ex2 := hT x9 ex
  subst ex2
  intro n
  exact s_X12_laysLeast_j48_2 hG hf hK
theorem s_X12_laysLeast_b2 {G : Gl} (hG : G.1.stackTraces = false) {C : Cx} {n : Nat} {μ : Mem} {l1 : Int32} {y : ((Int32 × Mem) ⊕ Mem)} (hf : f_X12_laysLeast_b2 μ l1 = some y) (hK : (∀ z', y = .inl z' → ∀ n, V G C F_X12_laysLeast 2 [some (.ref (G.2.1 + 264)), some (.int z'.1), none, none, none] [] (pic G z'.2) n 0 0) ∧ (∀ x', y = .inr x' → ∀ n, V G C F_X12_laysLeast 54 [some (.ref (G.2.1 + 264)), none, none, none, none] [] (pic G x') n 0 0)) : V G C F_X12_laysLeast 2 [some (.ref (G.2.1 + 264)), some (.int l1), none, none, none] [] (pic G μ) n 0 0 := by
  unfold f_X12_laysLeast_b2 at hf
  refine V_iload_n d_X12_laysLeast_2 rfl rfl ?_
  refine V_aload_n d_X12_laysLeast_3 rfl rfl ?_
  obtain ⟨t1, ht1, hf⟩ := ob hf
  refine B_callV1 (s_X12_people hG ht1) k_264 clX12 m_X12_people kv_RX12_59 d_X12_laysLeast_4 rfl (Nat.le_of_ble_eq_true rfl) ⟨rfl, rfl, Nat.le_of_ble_eq_true rfl, Nat.le_of_ble_eq_true rfl, Nat.le_of_ble_eq_true rfl⟩ (fun n => ?_)
  refine V_icmp_ge (tgt := 54) d_X12_laysLeast_7 (by decide) (fun c7 => ?_) (fun c7 => ?_)
  · replace hf := iteT c7 hf
    refine V_less (ls' := [some _, none, none, none, none]) ⟨rfl, trivial⟩ ?_
    cases hf
    exact hK.2 _ rfl _
  · replace hf := iteF c7 hf
    refine V_iconst (v := 0) d_X12_laysLeast_10 ic_0 ?_
    refine V_istore_n (ls' := [_, _, _, _, _]) d_X12_laysLeast_11 rfl rfl rfl ?_
    refine V_less (ls' := [some _, some _, some _, none, none]) ⟨rfl, rfl, rfl, trivial⟩ ?_
    exact s_X12_laysLeast_l12 hG hf hK
theorem s_X12_laysLeast_b56 {G : Gl} (hG : G.1.stackTraces = false) {C : Cx} {n : Nat} {μ : Mem} {l1 : Int32} {y : ((Int32 × Mem) ⊕ Mem)} (hf : f_X12_laysLeast_b56 μ l1 = some y) (hK : (∀ z', y = .inl z' → ∀ n, V G C F_X12_laysLeast 56 [some (.ref (G.2.1 + 264)), some (.int z'.1), none, none, none] [] (pic G z'.2) n 0 0) ∧ (∀ x', y = .inr x' → ∀ n, V G C F_X12_laysLeast 83 [some (.ref (G.2.1 + 264)), none, none, none, none] [] (pic G x') n 0 0)) : V G C F_X12_laysLeast 56 [some (.ref (G.2.1 + 264)), some (.int l1), none, none, none] [] (pic G μ) n 0 0 := by
  unfold f_X12_laysLeast_b56 at hf
  refine V_iload_n d_X12_laysLeast_56 rfl rfl ?_
  refine V_bipush (v := 64) d_X12_laysLeast_57 bp_64 ?_
  refine V_icmp_ge (tgt := 83) d_X12_laysLeast_59 (by decide) (fun c59 => ?_) (fun c59 => ?_)
  · replace hf := iteT c59 hf
    refine V_less (ls' := [some _, none, none, none, none]) ⟨rfl, trivial⟩ ?_
    cases hf
    exact hK.2 _ rfl _
  · replace hf := iteF c59 hf
    refine V_aload_n d_X12_laysLeast_62 rfl rfl ?_
    refine B_get k_264 fl_RX12_45 d_X12_laysLeast_63 g_12_19 ?_
    refine V_aload_n d_X12_laysLeast_66 rfl rfl ?_
    obtain ⟨t1, ht1, hf⟩ := ob hf
    refine B_callV1 (s_X12_people hG ht1) k_264 clX12 m_X12_people kv_RX12_59 d_X12_laysLeast_67 rfl (Nat.le_of_ble_eq_true rfl) ⟨rfl, rfl, Nat.le_of_ble_eq_true rfl, Nat.le_of_ble_eq_true rfl, Nat.le_of_ble_eq_true rfl⟩ (fun n => ?_)
    refine V_bipush (v := 6) d_X12_laysLeast_70 bp_6 ?_
    refine V_ishl d_X12_laysLeast_72 ?_
    refine V_iload_n d_X12_laysLeast_73 rfl rfl ?_
    refine V_iadd d_X12_laysLeast_74 ?_
    refine V_iconst (v := 0) d_X12_laysLeast_75 ic_0 ?_
    obtain ⟨μ2, hμ2, hf⟩ := ob hf
    refine B_iast k_274 hμ2 d_X12_laysLeast_76 ?_
    refine V_iinc (v := (l1 + 1)) (ls' := [_, _, _, _, _]) d_X12_laysLeast_77 rfl (by rw [ic_1]) rfl ?_
    refine V_goto (tgt := 56) d_X12_laysLeast_80 (by decide) ?_
    refine V_less (ls' := [some _, some _, none, none, none]) ⟨rfl, rfl, trivial⟩ ?_
    cases hf
    exact hK.1 _ rfl _
theorem s_X12_laysLeast_j140_109 {G : Gl} (hG : G.1.stackTraces = false) {C : Cx} {n : Nat} {μ : Mem} {l1 : Int32} {l2 : Int32} {l3 : Int32} {l4 : Int32} {y : ((Int32 × Int32) ⊕ Int32)} (hf : f_X12_laysLeast_j140_109 μ l1 l2 l3 l4 = some y) (hK : (∀ z', y = .inl z' → ∀ n, V G C F_X12_laysLeast 109 [some (.ref (G.2.1 + 264)), some (.int l1), some (.int l2), some (.int z'.1), some (.int z'.2)] [] (pic G μ) n 0 0) ∧ (∀ x', y = .inr x' → ∀ n, V G C F_X12_laysLeast 146 [some (.ref (G.2.1 + 264)), some (.int l1), some (.int l2), some (.int x'), none] [] (pic G μ) n 0 0)) : V G C F_X12_laysLeast 140 [some (.ref (G.2.1 + 264)), some (.int l1), some (.int l2), some (.int l3), some (.int l4)] [] (pic G μ) n 0 0 := by
  unfold f_X12_laysLeast_j140_109 at hf
  refine V_iinc (v := (l4 + 1)) (ls' := [_, _, _, _, _]) d_X12_laysLeast_140 rfl (by rw [ic_1]) rfl ?_
  refine V_goto (tgt := 109) d_X12_laysLeast_143 (by decide) ?_
  refine V_less (ls' := [some _, some _, some _, some _, some _]) ⟨rfl, rfl, rfl, rfl, rfl, trivial⟩ ?_
  cases hf
  exact hK.1 _ rfl _
theorem s_X12_laysLeast_b109 {G : Gl} (hG : G.1.stackTraces = false) {C : Cx} {n : Nat} {μ : Mem} {l1 : Int32} {l2 : Int32} {l3 : Int32} {l4 : Int32} {y : ((Int32 × Int32) ⊕ Int32)} (hf : f_X12_laysLeast_b109 μ l1 l2 l3 l4 = some y) (hK : (∀ z', y = .inl z' → ∀ n, V G C F_X12_laysLeast 109 [some (.ref (G.2.1 + 264)), some (.int l1), some (.int l2), some (.int z'.1), some (.int z'.2)] [] (pic G μ) n 0 0) ∧ (∀ x', y = .inr x' → ∀ n, V G C F_X12_laysLeast 146 [some (.ref (G.2.1 + 264)), some (.int l1), some (.int l2), some (.int x'), none] [] (pic G μ) n 0 0)) : V G C F_X12_laysLeast 109 [some (.ref (G.2.1 + 264)), some (.int l1), some (.int l2), some (.int l3), some (.int l4)] [] (pic G μ) n 0 0 := by
  unfold f_X12_laysLeast_b109 at hf
  refine V_iload d_X12_laysLeast_109 rfl ?_
  refine V_aload_n d_X12_laysLeast_111 rfl rfl ?_
  obtain ⟨t1, ht1, hf⟩ := ob hf
  refine B_callV1 (s_X12_people hG ht1) k_264 clX12 m_X12_people kv_RX12_59 d_X12_laysLeast_112 rfl (Nat.le_of_ble_eq_true rfl) ⟨rfl, rfl, Nat.le_of_ble_eq_true rfl, Nat.le_of_ble_eq_true rfl, Nat.le_of_ble_eq_true rfl⟩ (fun n => ?_)
  refine V_icmp_ge (tgt := 146) d_X12_laysLeast_115 (by decide) (fun c115 => ?_) (fun c115 => ?_)
  · replace hf := iteT c115 hf
    refine V_less (ls' := [some _, some _, some _, some _, none]) ⟨rfl, rfl, rfl, rfl, trivial⟩ ?_
    cases hf
    exact hK.2 _ rfl _
  · replace hf := iteF c115 hf
    refine V_iload_n d_X12_laysLeast_118 rfl rfl ?_
    refine V_iload d_X12_laysLeast_119 rfl ?_
    obtain ⟨t2, ht2, hf⟩ := ob hf
    refine B_callS1 (s_X12_has hG ht2) m_X12_has ks_RX12_380 d_X12_laysLeast_121 rfl (Nat.le_of_ble_eq_true rfl) ⟨rfl, rfl, Nat.le_of_ble_eq_true rfl, Nat.le_of_ble_eq_true rfl, Nat.le_of_ble_eq_true rfl⟩ (fun n => ?_)
    refine V_if_ne (tgt := 140) d_X12_laysLeast_124 (by decide) (fun c124 => ?_) (fun c124 => ?_)
    · replace hf := iteT (b2i_ne0 c124) hf
      refine V_less (ls' := [some _, some _, some _, some _, some _]) ⟨rfl, rfl, rfl, rfl, rfl, trivial⟩ ?_
      exact s_X12_laysLeast_j140_109 hG hf hK
    · replace hf := iteF (b2i_nt (b2i_eq0 c124)) hf
      refine V_iload_n d_X12_laysLeast_127 rfl rfl ?_
      refine V_aload_n d_X12_laysLeast_128 rfl rfl ?_
      refine V_iload_n d_X12_laysLeast_129 rfl rfl ?_
      refine V_iload_n d_X12_laysLeast_130 rfl rfl ?_
      refine V_iload d_X12_laysLeast_131 rfl ?_
      obtain ⟨t3, ht3, hf⟩ := ob hf
      refine B_callV1 (s_X12_leastBy hG ht3) k_264 clX12 m_X12_leastBy kv_RX12_383 d_X12_laysLeast_133 rfl (Nat.le_of_ble_eq_true rfl) ⟨rfl, rfl, Nat.le_of_ble_eq_true rfl, Nat.le_of_ble_eq_true rfl, Nat.le_of_ble_eq_true rfl⟩ (fun n => ?_)
      obtain ⟨t4, ht4, hf⟩ := ob hf
      refine B_callS1 (s_J9_min_7cf53 hG ht4) m_J9_min_7cf53 ks_RX12_87 d_X12_laysLeast_136 rfl (Nat.le_of_ble_eq_true rfl) ⟨rfl, rfl, Nat.le_of_ble_eq_true rfl, Nat.le_of_ble_eq_true rfl, Nat.le_of_ble_eq_true rfl⟩ (fun n => ?_)
      refine V_istore_n (ls' := [_, _, _, _, _]) d_X12_laysLeast_139 rfl rfl rfl ?_
      refine V_less (ls' := [some _, some _, some _, some _, some _]) ⟨rfl, rfl, rfl, rfl, rfl, trivial⟩ ?_
      exact s_X12_laysLeast_j140_109 hG hf hK
theorem s_X12_laysLeast_j146_96 {G : Gl} (hG : G.1.stackTraces = false) {C : Cx} {n : Nat} {μ : Mem} {l1 : Int32} {l2 : Int32} {l3 : Int32} {y : ((Int32 × Mem) ⊕ Mem)} (hf : f_X12_laysLeast_j146_96 μ l1 l2 l3 = some y) (hK : (∀ z', y = .inl z' → ∀ n, V G C F_X12_laysLeast 96 [some (.ref (G.2.1 + 264)), some (.int l1), some (.int z'.1), none, none] [] (pic G z'.2) n 0 0) ∧ (∀ x', y = .inr x' → ∀ n, V G C F_X12_laysLeast 164 [some (.ref (G.2.1 + 264)), some (.int l1), none, none, none] [] (pic G x') n 0 0)) : V G C F_X12_laysLeast 146 [some (.ref (G.2.1 + 264)), some (.int l1), some (.int l2), some (.int l3), none] [] (pic G μ) n 0 0 := by
  unfold f_X12_laysLeast_j146_96 at hf
  refine V_aload_n d_X12_laysLeast_146 rfl rfl ?_
  refine B_get k_264 fl_RX12_45 d_X12_laysLeast_147 g_12_19 ?_
  refine V_iload_n d_X12_laysLeast_150 rfl rfl ?_
  refine V_bipush (v := 6) d_X12_laysLeast_151 bp_6 ?_
  refine V_ishl d_X12_laysLeast_153 ?_
  refine V_iload_n d_X12_laysLeast_154 rfl rfl ?_
  refine V_iadd d_X12_laysLeast_155 ?_
  refine V_iload_n d_X12_laysLeast_156 rfl rfl ?_
  obtain ⟨μ1, hμ1, hf⟩ := ob hf
  refine B_iast k_274 hμ1 d_X12_laysLeast_157 ?_
  refine V_iinc (v := (l2 + 1)) (ls' := [_, _, _, _, _]) d_X12_laysLeast_158 rfl (by rw [ic_1]) rfl ?_
  refine V_goto (tgt := 96) d_X12_laysLeast_161 (by decide) ?_
  refine V_less (ls' := [some _, some _, some _, none, none]) ⟨rfl, rfl, rfl, trivial⟩ ?_
  cases hf
  exact hK.1 _ rfl _
theorem s_X12_laysLeast_l109 {G : Gl} (hG : G.1.stackTraces = false) {C : Cx} {n : Nat} {μ : Mem} {l1 : Int32} {l2 : Int32} {l3 : Int32} {l4 : Int32} {y : ((Int32 × Mem) ⊕ Mem)} (hf : f_X12_laysLeast_l109 μ l1 l2 l3 l4 = some y) (hK : (∀ z', y = .inl z' → ∀ n, V G C F_X12_laysLeast 96 [some (.ref (G.2.1 + 264)), some (.int l1), some (.int z'.1), none, none] [] (pic G z'.2) n 0 0) ∧ (∀ x', y = .inr x' → ∀ n, V G C F_X12_laysLeast 164 [some (.ref (G.2.1 + 264)), some (.int l1), none, none, none] [] (pic G x') n 0 0)) : V G C F_X12_laysLeast 109 [some (.ref (G.2.1 + 264)), some (.int l1), some (.int l2), some (.int l3), some (.int l4)] [] (pic G μ) n 0 0 := by
  unfold f_X12_laysLeast_l109 at hf
  obtain ⟨t, hl, hf⟩ := ob hf
  refine loopV (P := fun z => ∀ n, V G C F_X12_laysLeast 109 [some (.ref (G.2.1 + 264)), some (.int l1), some (.int l2), some (.int z.1), some (.int z.2)] [] (pic G μ) n 0 0) (t := t) ?_ _ _ hl n
  intro z y' hy hI hT n
  refine s_X12_laysLeast_b109 hG hy ⟨hI, fun x9 ex => ?_⟩
  have ex2 := hT x9 ex
  subst ex2
  intro n
  exact s_X12_laysLeast_j146_96 hG hf hK
theorem s_X12_laysLeast_b96 {G : Gl} (hG : G.1.stackTraces = false) {C : Cx} {n : Nat} {μ : Mem} {l1 : Int32} {l2 : Int32} {y : ((Int32 × Mem) ⊕ Mem)} (hf : f_X12_laysLeast_b96 μ l1 l2 = some y) (hK : (∀ z', y = .inl z' → ∀ n, V G C F_X12_laysLeast 96 [some (.ref (G.2.1 + 264)), some (.int l1), some (.int z'.1), none, none] [] (pic G z'.2) n 0 0) ∧ (∀ x', y = .inr x' → ∀ n, V G C F_X12_laysLeast 164 [some (.ref (G.2.1 + 264)), some (.int l1), none, none, none] [] (pic G x') n 0 0)) : V G C F_X12_laysLeast 96 [some (.ref (G.2.1 + 264)), some (.int l1), some (.int l2), none, none] [] (pic G μ) n 0 0 := by
  unfold f_X12_laysLeast_b96 at hf
  refine V_iload_n d_X12_laysLeast_96 rfl rfl ?_
  refine V_bipush (v := 64) d_X12_laysLeast_97 bp_64 ?_
  refine V_icmp_ge (tgt := 164) d_X12_laysLeast_99 (by decide) (fun c99 => ?_) (fun c99 => ?_)
  · replace hf := iteT c99 hf
    refine V_less (ls' := [some _, some _, none, none, none]) ⟨rfl, rfl, trivial⟩ ?_
    cases hf
    exact hK.2 _ rfl _
  · replace hf := iteF c99 hf
    refine V_ldcw (v := 1000000) d_X12_laysLeast_102 w_1899 ?_
    refine V_istore_n (ls' := [_, _, _, _, _]) d_X12_laysLeast_105 rfl rfl rfl ?_
    refine V_iconst (v := 0) d_X12_laysLeast_106 ic_0 ?_
    refine V_istore (ls' := [_, _, _, _, _]) d_X12_laysLeast_107 rfl rfl ?_
    refine V_less (ls' := [some _, some _, some _, some _, some _]) ⟨rfl, rfl, rfl, rfl, rfl, trivial⟩ ?_
    exact s_X12_laysLeast_l109 hG hf hK
theorem s_X12_laysLeast_j164_90 {G : Gl} (hG : G.1.stackTraces = false) {C : Cx} {n : Nat} {μ : Mem} {l1 : Int32} {y : ((Int32 × Mem) ⊕ Mem)} (hf : f_X12_laysLeast_j164_90 μ l1 = some y) (hK : (∀ z', y = .inl z' → ∀ n, V G C F_X12_laysLeast 90 [some (.ref (G.2.1 + 264)), some (.int z'.1), none, none, none] [] (pic G z'.2) n 0 0) ∧ (∀ x', y = .inr x' → ∀ n, V G C F_X12_laysLeast 170 [none, none, none, none, none] [] (pic G x') n 0 0)) : V G C F_X12_laysLeast 164 [some (.ref (G.2.1 + 264)), some (.int l1), none, none, none] [] (pic G μ) n 0 0 := by
  unfold f_X12_laysLeast_j164_90 at hf
  refine V_iinc (v := (l1 + (-1))) (ls' := [_, _, _, _, _]) d_X12_laysLeast_164 rfl (by rw [ic_m1]) rfl ?_
  refine V_goto (tgt := 90) d_X12_laysLeast_167 (by decide) ?_
  refine V_less (ls' := [some _, some _, none, none, none]) ⟨rfl, rfl, trivial⟩ ?_
  cases hf
  exact hK.1 _ rfl _
theorem s_X12_laysLeast_l96 {G : Gl} (hG : G.1.stackTraces = false) {C : Cx} {n : Nat} {μ : Mem} {l1 : Int32} {l2 : Int32} {y : ((Int32 × Mem) ⊕ Mem)} (hf : f_X12_laysLeast_l96 μ l1 l2 = some y) (hK : (∀ z', y = .inl z' → ∀ n, V G C F_X12_laysLeast 90 [some (.ref (G.2.1 + 264)), some (.int z'.1), none, none, none] [] (pic G z'.2) n 0 0) ∧ (∀ x', y = .inr x' → ∀ n, V G C F_X12_laysLeast 170 [none, none, none, none, none] [] (pic G x') n 0 0)) : V G C F_X12_laysLeast 96 [some (.ref (G.2.1 + 264)), some (.int l1), some (.int l2), none, none] [] (pic G μ) n 0 0 := by
  unfold f_X12_laysLeast_l96 at hf
  obtain ⟨t, hl, hf⟩ := ob hf
  refine loopV (P := fun z => ∀ n, V G C F_X12_laysLeast 96 [some (.ref (G.2.1 + 264)), some (.int l1), some (.int z.1), none, none] [] (pic G z.2) n 0 0) (t := t) ?_ _ _ hl n
  intro z y' hy hI hT n
  refine s_X12_laysLeast_b96 hG hy ⟨hI, fun x9 ex => ?_⟩
  have ex2 := hT x9 ex
  subst ex2
  intro n
  exact s_X12_laysLeast_j164_90 hG hf hK
theorem s_X12_laysLeast_b90 {G : Gl} (hG : G.1.stackTraces = false) {C : Cx} {n : Nat} {μ : Mem} {l1 : Int32} {y : ((Int32 × Mem) ⊕ Mem)} (hf : f_X12_laysLeast_b90 μ l1 = some y) (hK : (∀ z', y = .inl z' → ∀ n, V G C F_X12_laysLeast 90 [some (.ref (G.2.1 + 264)), some (.int z'.1), none, none, none] [] (pic G z'.2) n 0 0) ∧ (∀ x', y = .inr x' → ∀ n, V G C F_X12_laysLeast 170 [none, none, none, none, none] [] (pic G x') n 0 0)) : V G C F_X12_laysLeast 90 [some (.ref (G.2.1 + 264)), some (.int l1), none, none, none] [] (pic G μ) n 0 0 := by
  unfold f_X12_laysLeast_b90 at hf
  refine V_iload_n d_X12_laysLeast_90 rfl rfl ?_
  refine V_if_lt (tgt := 170) d_X12_laysLeast_91 (by decide) (fun c91 => ?_) (fun c91 => ?_)
  · replace hf := iteT c91 hf
    refine V_less (ls' := [none, none, none, none, none]) trivial ?_
    cases hf
    exact hK.2 _ rfl _
  · replace hf := iteF c91 hf
    refine V_iconst (v := 0) d_X12_laysLeast_94 ic_0 ?_
    refine V_istore_n (ls' := [_, _, _, _, _]) d_X12_laysLeast_95 rfl rfl rfl ?_
    refine V_less (ls' := [some _, some _, some _, none, none]) ⟨rfl, rfl, rfl, trivial⟩ ?_
    exact s_X12_laysLeast_l96 hG hf hK
theorem s_X12_laysLeast_j170 {G : Gl} (hG : G.1.stackTraces = false) {C : Cx} {n : Nat} {μ : Mem}  {r : Mem} (hf : f_X12_laysLeast_j170 μ = some r) (hK : FinR G C F_X12_laysLeast none none r) : V G C F_X12_laysLeast 170 [none, none, none, none, none] [] (pic G μ) n 0 0 := by
  unfold f_X12_laysLeast_j170 at hf
  cases hf
  exact R_v hK d_X12_laysLeast_170 (Nat.le_of_ble_eq_true rfl) (Nat.le_of_ble_eq_true rfl)
theorem s_X12_laysLeast_l90 {G : Gl} (hG : G.1.stackTraces = false) {C : Cx} {n : Nat} {μ : Mem} {l1 : Int32} {r : Mem} (hf : f_X12_laysLeast_l90 μ l1 = some r) (hK : FinR G C F_X12_laysLeast none none r) : V G C F_X12_laysLeast 90 [some (.ref (G.2.1 + 264)), some (.int l1), none, none, none] [] (pic G μ) n 0 0 := by
  unfold f_X12_laysLeast_l90 at hf
  obtain ⟨t, hl, hf⟩ := ob hf
  refine loopV (P := fun z => ∀ n, V G C F_X12_laysLeast 90 [some (.ref (G.2.1 + 264)), some (.int z.1), none, none, none] [] (pic G z.2) n 0 0) (t := t) ?_ _ _ hl n
  intro z y' hy hI hT n
  refine s_X12_laysLeast_b90 hG hy ⟨hI, fun x9 ex => ?_⟩
  have ex2 := hT x9 ex
  subst ex2
  intro n
  exact s_X12_laysLeast_j170 hG hf hK
theorem s_X12_laysLeast_j83 {G : Gl} (hG : G.1.stackTraces = false) {C : Cx} {n : Nat} {μ : Mem}  {r : Mem} (hf : f_X12_laysLeast_j83 μ = some r) (hK : FinR G C F_X12_laysLeast none none r) : V G C F_X12_laysLeast 83 [some (.ref (G.2.1 + 264)), none, none, none, none] [] (pic G μ) n 0 0 := by
  unfold f_X12_laysLeast_j83 at hf
  refine V_aload_n d_X12_laysLeast_83 rfl rfl ?_
  obtain ⟨t1, ht1, hf⟩ := ob hf
  refine B_callV1 (s_X12_people hG ht1) k_264 clX12 m_X12_people kv_RX12_59 d_X12_laysLeast_84 rfl (Nat.le_of_ble_eq_true rfl) ⟨rfl, rfl, Nat.le_of_ble_eq_true rfl, Nat.le_of_ble_eq_true rfl, Nat.le_of_ble_eq_true rfl⟩ (fun n => ?_)
  refine V_iconst (v := 1) d_X12_laysLeast_87 ic_1 ?_
  refine V_isub d_X12_laysLeast_88 ?_
  refine V_istore_n (ls' := [_, _, _, _, _]) d_X12_laysLeast_89 rfl rfl rfl ?_
  refine V_less (ls' := [some _, some _, none, none, none]) ⟨rfl, rfl, trivial⟩ ?_
  exact s_X12_laysLeast_l90 hG hf hK
theorem s_X12_laysLeast_l56 {G : Gl} (hG : G.1.stackTraces = false) {C : Cx} {n : Nat} {μ : Mem} {l1 : Int32} {r : Mem} (hf : f_X12_laysLeast_l56 μ l1 = some r) (hK : FinR G C F_X12_laysLeast none none r) : V G C F_X12_laysLeast 56 [some (.ref (G.2.1 + 264)), some (.int l1), none, none, none] [] (pic G μ) n 0 0 := by
  unfold f_X12_laysLeast_l56 at hf
  obtain ⟨t, hl, hf⟩ := ob hf
  refine loopV (P := fun z => ∀ n, V G C F_X12_laysLeast 56 [some (.ref (G.2.1 + 264)), some (.int z.1), none, none, none] [] (pic G z.2) n 0 0) (t := t) ?_ _ _ hl n
  intro z y' hy hI hT n
  refine s_X12_laysLeast_b56 hG hy ⟨hI, fun x9 ex => ?_⟩
  have ex2 := hT x9 ex
  subst ex2
  intro n
  exact s_X12_laysLeast_j83 hG hf hK
theorem s_X12_laysLeast_j54 {G : Gl} (hG : G.1.stackTraces = false) {C : Cx} {n : Nat} {μ : Mem}  {r : Mem} (hf : f_X12_laysLeast_j54 μ = some r) (hK : FinR G C F_X12_laysLeast none none r) : V G C F_X12_laysLeast 54 [some (.ref (G.2.1 + 264)), none, none, none, none] [] (pic G μ) n 0 0 := by
  unfold f_X12_laysLeast_j54 at hf
  refine V_iconst (v := 0) d_X12_laysLeast_54 ic_0 ?_
  refine V_istore_n (ls' := [_, _, _, _, _]) d_X12_laysLeast_55 rfl rfl rfl ?_
  refine V_less (ls' := [some _, some _, none, none, none]) ⟨rfl, rfl, trivial⟩ ?_
  exact s_X12_laysLeast_l56 hG hf hK
theorem s_X12_laysLeast_l2 {G : Gl} (hG : G.1.stackTraces = false) {C : Cx} {n : Nat} {μ : Mem} {l1 : Int32} {r : Mem} (hf : f_X12_laysLeast_l2 μ l1 = some r) (hK : FinR G C F_X12_laysLeast none none r) : V G C F_X12_laysLeast 2 [some (.ref (G.2.1 + 264)), some (.int l1), none, none, none] [] (pic G μ) n 0 0 := by
  unfold f_X12_laysLeast_l2 at hf
  obtain ⟨t, hl, hf⟩ := ob hf
  refine loopV (P := fun z => ∀ n, V G C F_X12_laysLeast 2 [some (.ref (G.2.1 + 264)), some (.int z.1), none, none, none] [] (pic G z.2) n 0 0) (t := t) ?_ _ _ hl n
  intro z y' hy hI hT n
  refine s_X12_laysLeast_b2 hG hy ⟨hI, fun x9 ex => ?_⟩
  have ex2 := hT x9 ex
  subst ex2
  intro n
  exact s_X12_laysLeast_j54 hG hf hK
theorem s_X12_laysLeast_e {G : Gl} (hG : G.1.stackTraces = false) {C : Cx} {n : Nat} {μ : Mem}  {r : Mem} (hf : f_X12_laysLeast μ = some r) (hK : FinR G C F_X12_laysLeast none none r) : V G C F_X12_laysLeast 0 [some (.ref (G.2.1 + 264)), none, none, none, none] [] (pic G μ) n 0 0 := by
  unfold f_X12_laysLeast at hf
  refine V_iconst (v := 0) d_X12_laysLeast_0 ic_0 ?_
  refine V_istore_n (ls' := [_, _, _, _, _]) d_X12_laysLeast_1 rfl rfl rfl ?_
  refine V_less (ls' := [some _, some _, none, none, none]) ⟨rfl, rfl, trivial⟩ ?_
  exact s_X12_laysLeast_l2 hG hf hK
theorem s_X12_laysLeast {G : Gl} (hG : G.1.stackTraces = false) {μ : Mem} {r : Mem} (hf : f_X12_laysLeast μ = some r) : Rt G yX12_laysLeast F_X12_laysLeast none [.ref (G.2.1 + 264)] μ none r := fun n => Sd.of hG ⟨by decide +kernel, rfl, rfl⟩ rfl (Nat.le_of_ble_eq_true rfl) rfl (fun C hK => s_X12_laysLeast_e hG hf hK)
theorem d_X12_carry_0 : decode cX12_carry 0 = .ok (.aload_n 0, 1) := by decide +kernel
theorem d_X12_carry_1 : decode cX12_carry 1 = .ok (.invokevirtual 252, 3) := by decide +kernel
theorem d_X12_carry_4 : decode cX12_carry 4 = .ok (.aload_n 0, 1) := by decide +kernel
theorem d_X12_carry_5 : decode cX12_carry 5 = .ok (.iload_n 1, 1) := by decide +kernel
theorem d_X12_carry_6 : decode cX12_carry 6 = .ok (.iconst (-1), 1) := by decide +kernel
theorem d_X12_carry_7 : decode cX12_carry 7 = .ok (.if_icmp .eq 15, 3) := by decide +kernel
theorem d_X12_carry_10 : decode cX12_carry 10 = .ok (.aload_n 0, 1) := by decide +kernel
theorem d_X12_carry_11 : decode cX12_carry 11 = .ok (.iload_n 1, 1) := by decide +kernel
theorem d_X12_carry_12 : decode cX12_carry 12 = .ok (.invokevirtual 305, 3) := by decide +kernel
theorem d_X12_carry_15 : decode cX12_carry 15 = .ok (.ifCond .eq 7, 3) := by decide +kernel
theorem d_X12_carry_18 : decode cX12_carry 18 = .ok (.iconst 1, 1) := by decide +kernel
theorem d_X12_carry_19 : decode cX12_carry 19 = .ok (.goto 4, 3) := by decide +kernel
theorem d_X12_carry_22 : decode cX12_carry 22 = .ok (.iconst 0, 1) := by decide +kernel
theorem d_X12_carry_23 : decode cX12_carry 23 = .ok (.iconst 1, 1) := by decide +kernel
theorem d_X12_carry_24 : decode cX12_carry 24 = .ok (.invokevirtual 263, 3) := by decide +kernel
theorem d_X12_carry_27 : decode cX12_carry 27 = .ok (.ifCond .eq 5, 3) := by decide +kernel
theorem d_X12_carry_30 : decode cX12_carry 30 = .ok (.iconst 0, 1) := by decide +kernel
theorem d_X12_carry_31 : decode cX12_carry 31 = .ok (.ireturn, 1) := by decide +kernel
theorem d_X12_carry_32 : decode cX12_carry 32 = .ok (.aload_n 0, 1) := by decide +kernel
theorem d_X12_carry_33 : decode cX12_carry 33 = .ok (.getfield 99, 3) := by decide +kernel
theorem d_X12_carry_36 : decode cX12_carry 36 = .ok (.aload_n 0, 1) := by decide +kernel
theorem d_X12_carry_37 : decode cX12_carry 37 = .ok (.invokevirtual 59, 3) := by decide +kernel
theorem d_X12_carry_40 : decode cX12_carry 40 = .ok (.if_icmp .ne 7, 3) := by decide +kernel
theorem d_X12_carry_43 : decode cX12_carry 43 = .ok (.iconst 1, 1) := by decide +kernel
theorem d_X12_carry_44 : decode cX12_carry 44 = .ok (.goto 4, 3) := by decide +kernel
theorem d_X12_carry_47 : decode cX12_carry 47 = .ok (.iconst 0, 1) := by decide +kernel
theorem d_X12_carry_48 : decode cX12_carry 48 = .ok (.istore_n 2, 1) := by decide +kernel
theorem d_X12_carry_49 : decode cX12_carry 49 = .ok (.iconst 0, 1) := by decide +kernel
theorem d_X12_carry_50 : decode cX12_carry 50 = .ok (.istore_n 3, 1) := by decide +kernel
theorem d_X12_carry_51 : decode cX12_carry 51 = .ok (.iload_n 3, 1) := by decide +kernel
theorem d_X12_carry_52 : decode cX12_carry 52 = .ok (.aload_n 0, 1) := by decide +kernel
theorem d_X12_carry_53 : decode cX12_carry 53 = .ok (.getfield 99, 3) := by decide +kernel
theorem d_X12_carry_56 : decode cX12_carry 56 = .ok (.if_icmp .ge 31, 3) := by decide +kernel
theorem d_X12_carry_59 : decode cX12_carry 59 = .ok (.iload_n 2, 1) := by decide +kernel
theorem d_X12_carry_60 : decode cX12_carry 60 = .ok (.ifCond .eq 27, 3) := by decide +kernel
theorem d_X12_carry_63 : decode cX12_carry 63 = .ok (.aload_n 0, 1) := by decide +kernel
theorem d_X12_carry_64 : decode cX12_carry 64 = .ok (.getfield 29, 3) := by decide +kernel
theorem d_X12_carry_67 : decode cX12_carry 67 = .ok (.iload_n 3, 1) := by decide +kernel
theorem d_X12_carry_68 : decode cX12_carry 68 = .ok (.baload, 1) := by decide +kernel
theorem d_X12_carry_69 : decode cX12_carry 69 = .ok (.invokestatic 320, 3) := by decide +kernel
theorem d_X12_carry_72 : decode cX12_carry 72 = .ok (.ifCond .ne 7, 3) := by decide +kernel
theorem d_X12_carry_75 : decode cX12_carry 75 = .ok (.iconst 1, 1) := by decide +kernel
theorem d_X12_carry_76 : decode cX12_carry 76 = .ok (.goto 4, 3) := by decide +kernel
theorem d_X12_carry_79 : decode cX12_carry 79 = .ok (.iconst 0, 1) := by decide +kernel
theorem d_X12_carry_80 : decode cX12_carry 80 = .ok (.istore_n 2, 1) := by decide +kernel
theorem d_X12_carry_81 : decode cX12_carry 81 = .ok (.iinc 3 1, 3) := by decide +kernel
theorem d_X12_carry_84 : decode cX12_carry 84 = .ok (.goto (-33), 3) := by decide +kernel
theorem d_X12_carry_87 : decode cX12_carry 87 = .ok (.aload_n 0, 1) := by decide +kernel
theorem d_X12_carry_88 : decode cX12_carry 88 = .ok (.iload_n 2, 1) := by decide +kernel
theorem d_X12_carry_89 : decode cX12_carry 89 = .ok (.ifCond .ne 7, 3) := by decide +kernel
theorem d_X12_carry_92 : decode cX12_carry 92 = .ok (.iconst 1, 1) := by decide +kernel
theorem d_X12_carry_93 : decode cX12_carry 93 = .ok (.goto 4, 3) := by decide +kernel
theorem d_X12_carry_96 : decode cX12_carry 96 = .ok (.iconst 0, 1) := by decide +kernel
theorem d_X12_carry_97 : decode cX12_carry 97 = .ok (.iconst 2, 1) := by decide +kernel
theorem d_X12_carry_98 : decode cX12_carry 98 = .ok (.invokevirtual 263, 3) := by decide +kernel
theorem d_X12_carry_101 : decode cX12_carry 101 = .ok (.ifCond .eq 5, 3) := by decide +kernel
theorem d_X12_carry_104 : decode cX12_carry 104 = .ok (.iconst 0, 1) := by decide +kernel
theorem d_X12_carry_105 : decode cX12_carry 105 = .ok (.ireturn, 1) := by decide +kernel
theorem d_X12_carry_106 : decode cX12_carry 106 = .ok (.aload_n 0, 1) := by decide +kernel
theorem d_X12_carry_107 : decode cX12_carry 107 = .ok (.invokevirtual 386, 3) := by decide +kernel
theorem d_X12_carry_110 : decode cX12_carry 110 = .ok (.aload_n 0, 1) := by decide +kernel
theorem d_X12_carry_111 : decode cX12_carry 111 = .ok (.iconst 0, 1) := by decide +kernel
theorem d_X12_carry_112 : decode cX12_carry 112 = .ok (.iconst 0, 1) := by decide +kernel
theorem d_X12_carry_113 : decode cX12_carry 113 = .ok (.invokevirtual 377, 3) := by decide +kernel
theorem d_X12_carry_116 : decode cX12_carry 116 = .ok (.ldc_w 373, 3) := by decide +kernel
theorem d_X12_carry_119 : decode cX12_carry 119 = .ok (.if_icmp .lt 5, 3) := by decide +kernel
theorem d_X12_carry_122 : decode cX12_carry 122 = .ok (.iconst (-1), 1) := by decide +kernel
theorem d_X12_carry_123 : decode cX12_carry 123 = .ok (.ireturn, 1) := by decide +kernel
theorem d_X12_carry_124 : decode cX12_carry 124 = .ok (.iload_n 1, 1) := by decide +kernel
theorem d_X12_carry_125 : decode cX12_carry 125 = .ok (.iconst (-1), 1) := by decide +kernel
theorem d_X12_carry_126 : decode cX12_carry 126 = .ok (.if_icmp .ne 10, 3) := by decide +kernel
theorem d_X12_carry_129 : decode cX12_carry 129 = .ok (.aload_n 0, 1) := by decide +kernel
theorem d_X12_carry_130 : decode cX12_carry 130 = .ok (.iconst 0, 1) := by decide +kernel
theorem d_X12_carry_131 : decode cX12_carry 131 = .ok (.iconst 0, 1) := by decide +kernel
theorem d_X12_carry_132 : decode cX12_carry 132 = .ok (.invokevirtual 377, 3) := by decide +kernel
theorem d_X12_carry_135 : decode cX12_carry 135 = .ok (.ireturn, 1) := by decide +kernel
theorem d_X12_carry_136 : decode cX12_carry 136 = .ok (.iconst 0, 1) := by decide +kernel
theorem d_X12_carry_137 : decode cX12_carry 137 = .ok (.istore_n 3, 1) := by decide +kernel
theorem d_X12_carry_138 : decode cX12_carry 138 = .ok (.iconst 0, 1) := by decide +kernel
theorem d_X12_carry_139 : decode cX12_carry 139 = .ok (.istore 4, 2) := by decide +kernel
theorem d_X12_carry_141 : decode cX12_carry 141 = .ok (.iconst 0, 1) := by decide +kernel
theorem d_X12_carry_142 : decode cX12_carry 142 = .ok (.istore 5, 2) := by decide +kernel
theorem d_X12_carry_144 : decode cX12_carry 144 = .ok (.iload 5, 2) := by decide +kernel
theorem d_X12_carry_146 : decode cX12_carry 146 = .ok (.iload_n 1, 1) := by decide +kernel
theorem d_X12_carry_147 : decode cX12_carry 147 = .ok (.if_icmp .gt 53, 3) := by decide +kernel
theorem d_X12_carry_150 : decode cX12_carry 150 = .ok (.iconst 0, 1) := by decide +kernel
theorem d_X12_carry_151 : decode cX12_carry 151 = .ok (.istore 4, 2) := by decide +kernel
theorem d_X12_carry_153 : decode cX12_carry 153 = .ok (.iload_n 3, 1) := by decide +kernel
theorem d_X12_carry_154 : decode cX12_carry 154 = .ok (.iload 4, 2) := by decide +kernel
theorem d_X12_carry_156 : decode cX12_carry 156 = .ok (.invokestatic 380, 3) := by decide +kernel
theorem d_X12_carry_159 : decode cX12_carry 159 = .ok (.ifCond .ne 22, 3) := by decide +kernel
theorem d_X12_carry_162 : decode cX12_carry 162 = .ok (.aload_n 0, 1) := by decide +kernel
theorem d_X12_carry_163 : decode cX12_carry 163 = .ok (.iload 5, 2) := by decide +kernel
theorem d_X12_carry_165 : decode cX12_carry 165 = .ok (.iload_n 3, 1) := by decide +kernel
theorem d_X12_carry_166 : decode cX12_carry 166 = .ok (.iload 4, 2) := by decide +kernel
theorem d_X12_carry_168 : decode cX12_carry 168 = .ok (.invokevirtual 383, 3) := by decide +kernel
theorem d_X12_carry_171 : decode cX12_carry 171 = .ok (.aload_n 0, 1) := by decide +kernel
theorem d_X12_carry_172 : decode cX12_carry 172 = .ok (.iload 5, 2) := by decide +kernel
theorem d_X12_carry_174 : decode cX12_carry 174 = .ok (.iload_n 3, 1) := by decide +kernel
theorem d_X12_carry_175 : decode cX12_carry 175 = .ok (.invokevirtual 377, 3) := by decide +kernel
theorem d_X12_carry_178 : decode cX12_carry 178 = .ok (.if_icmp .eq 9, 3) := by decide +kernel
theorem d_X12_carry_181 : decode cX12_carry 181 = .ok (.iinc 4 1, 3) := by decide +kernel
theorem d_X12_carry_184 : decode cX12_carry 184 = .ok (.goto (-31), 3) := by decide +kernel
theorem d_X12_carry_187 : decode cX12_carry 187 = .ok (.iload_n 3, 1) := by decide +kernel
theorem d_X12_carry_188 : decode cX12_carry 188 = .ok (.iconst 1, 1) := by decide +kernel
theorem d_X12_carry_189 : decode cX12_carry 189 = .ok (.iload 4, 2) := by decide +kernel
theorem d_X12_carry_191 : decode cX12_carry 191 = .ok (.ishl, 1) := by decide +kernel
theorem d_X12_carry_192 : decode cX12_carry 192 = .ok (.ior, 1) := by decide +kernel
theorem d_X12_carry_193 : decode cX12_carry 193 = .ok (.istore_n 3, 1) := by decide +kernel
theorem d_X12_carry_194 : decode cX12_carry 194 = .ok (.iinc 5 1, 3) := by decide +kernel
theorem d_X12_carry_197 : decode cX12_carry 197 = .ok (.goto (-53), 3) := by decide +kernel
theorem d_X12_carry_200 : decode cX12_carry 200 = .ok (.iload 4, 2) := by decide +kernel
theorem d_X12_carry_202 : decode cX12_carry 202 = .ok (.ireturn, 1) := by decide +kernel
theorem s_X12_carry_b51 {G : Gl} (hG : G.1.stackTraces = false) {C : Cx} {n : Nat} {μ : Mem} {l1 : Int32} {l2 : Bool} {l3 : Int32} {y : ((Bool × Int32) ⊕ Bool)} (hf : f_X12_carry_b51 μ l1 l2 l3 = some y) (hK : (∀ z', y = .inl z' → ∀ n, V G C F_X12_carry 51 [some (.ref (G.2.1 + 264)), some (.int l1), some (.int (b2i z'.1)), some (.int z'.2), none, none] [] (pic G μ) n 0 0) ∧ (∀ x', y = .inr x' → ∀ n, V G C F_X12_carry 87 [some (.ref (G.2.1 + 264)), some (.int l1), some (.int (b2i x')), none, none, none] [] (pic G μ) n 0 0)) : V G C F_X12_carry 51 [some (.ref (G.2.1 + 264)), some (.int l1), some (.int (b2i l2)), some (.int l3), none, none] [] (pic G μ) n 0 0 := by
  unfold f_X12_carry_b51 at hf
  refine V_iload_n d_X12_carry_51 rfl rfl ?_
  refine V_aload_n d_X12_carry_52 rfl rfl ?_
  refine B_get k_264 fl_RX12_99 d_X12_carry_53 g_12_11 ?_
  refine V_icmp_ge (tgt := 87) d_X12_carry_56 (by decide) (fun c56 => ?_) (fun c56 => ?_)
  · replace hf := iteT c56 hf
    refine V_less (ls' := [some _, some _, some _, none, none, none]) ⟨rfl, rfl, rfl, trivial⟩ ?_
    cases hf
    exact hK.2 _ rfl _
  · replace hf := iteF c56 hf
    refine V_iload_n d_X12_carry_59 rfl rfl ?_
    refine V_if_eq (tgt := 87) d_X12_carry_60 (by decide) (fun c60 => ?_) (fun c60 => ?_)
    · replace hf := iteF (b2i_nt (b2i_eq0 c60)) hf
      refine V_less (ls' := [some _, some _, some _, none, none, none]) ⟨rfl, rfl, rfl, trivial⟩ ?_
      cases hf
      exact hK.2 _ rfl _
    · replace hf := iteT (b2i_ne0 c60) hf
      refine V_aload_n d_X12_carry_63 rfl rfl ?_
      refine B_get k_264 fl_RX12_29 d_X12_carry_64 g_12_8 ?_
      refine V_iload_n d_X12_carry_67 rfl rfl ?_
      obtain ⟨t1, ht1, hf⟩ := ob hf
      refine B_bald k_270 ht1 d_X12_carry_68 ?_
      obtain ⟨t2, ht2, hf⟩ := ob hf
      refine B_callS1 (s_X12_noPlace hG ht2) m_X12_noPlace ks_RX12_320 d_X12_carry_69 rfl (Nat.le_of_ble_eq_true rfl) ⟨rfl, rfl, Nat.le_of_ble_eq_true rfl, Nat.le_of_ble_eq_true rfl, Nat.le_of_ble_eq_true rfl⟩ (fun n => ?_)
      have hJj3 : ∀ j3 : Bool, j3 = (if t2 = true then (false : Bool) else true) → V G C F_X12_carry 80 [some (.ref (G.2.1 + 264)), some (.int l1), none, some (.int l3), none, none] [.int (b2i j3)] (pic G μ) n 0 0 := by
        intro j3 ej3
        subst ej3
        refine V_istore_n (ls' := [_, _, _, _, _, _]) d_X12_carry_80 rfl rfl rfl ?_
        refine V_iinc (v := (l3 + 1)) (ls' := [_, _, _, _, _, _]) d_X12_carry_81 rfl (by rw [ic_1]) rfl ?_
        refine V_goto (tgt := 51) d_X12_carry_84 (by decide) ?_
        refine V_less (ls' := [some _, some _, some _, some _, none, none]) ⟨rfl, rfl, rfl, rfl, trivial⟩ ?_
        cases hf
        exact hK.1 _ rfl _
      refine V_if_ne (tgt := 79) d_X12_carry_72 (by decide) (fun c72 => ?_) (fun c72 => ?_)
      · refine V_iconst (v := 0) d_X12_carry_79 ic_0 ?_
        refine V_less (ls' := [some _, some _, none, some _, none, none]) ⟨rfl, rfl, rfl, trivial⟩ ?_
        exact hJj3 false (by rw [if_pos (b2i_ne0 c72)])
      · refine V_iconst (v := 1) d_X12_carry_75 ic_1 ?_
        refine V_goto (tgt := 80) d_X12_carry_76 (by decide) ?_
        refine V_less (ls' := [some _, some _, none, some _, none, none]) ⟨rfl, rfl, rfl, trivial⟩ ?_
        exact hJj3 true (by rw [if_neg (b2i_nt (b2i_eq0 c72))])
theorem s_X12_carry_j181_153 {G : Gl} (hG : G.1.stackTraces = false) {C : Cx} {n : Nat} {μ : Mem} {l1 : Int32} {l3 : Int32} {l4 : Int32} {l5 : Int32} {y : (Int32 ⊕ Int32)} (hf : f_X12_carry_j181_153 μ l1 l3 l4 l5 = some y) (hK : (∀ z', y = .inl z' → ∀ n, V G C F_X12_carry 153 [some (.ref (G.2.1 + 264)), some (.int l1), none, some (.int l3), some (.int z'), some (.int l5)] [] (pic G μ) n 0 0) ∧ (∀ x', y = .inr x' → ∀ n, V G C F_X12_carry 187 [some (.ref (G.2.1 + 264)), some (.int l1), none, some (.int l3), some (.int x'), some (.int l5)] [] (pic G μ) n 0 0)) : V G C F_X12_carry 181 [some (.ref (G.2.1 + 264)), some (.int l1), none, some (.int l3), some (.int l4), some (.int l5)] [] (pic G μ) n 0 0 := by
  unfold f_X12_carry_j181_153 at hf
  refine V_iinc (v := (l4 + 1)) (ls' := [_, _, _, _, _, _]) d_X12_carry_181 rfl (by rw [ic_1]) rfl ?_
  refine V_goto (tgt := 153) d_X12_carry_184 (by decide) ?_
  refine V_less (ls' := [some _, some _, none, some _, some _, some _]) ⟨rfl, rfl, rfl, rfl, rfl, trivial⟩ ?_
  cases hf
  exact hK.1 _ rfl _
theorem s_X12_carry_b153 {G : Gl} (hG : G.1.stackTraces = false) {C : Cx} {n : Nat} {μ : Mem} {l1 : Int32} {l3 : Int32} {l4 : Int32} {l5 : Int32} {y : (Int32 ⊕ Int32)} (hf : f_X12_carry_b153 μ l1 l3 l4 l5 = some y) (hK : (∀ z', y = .inl z' → ∀ n, V G C F_X12_carry 153 [some (.ref (G.2.1 + 264)), some (.int l1), none, some (.int l3), some (.int z'), some (.int l5)] [] (pic G μ) n 0 0) ∧ (∀ x', y = .inr x' → ∀ n, V G C F_X12_carry 187 [some (.ref (G.2.1 + 264)), some (.int l1), none, some (.int l3), some (.int x'), some (.int l5)] [] (pic G μ) n 0 0)) : V G C F_X12_carry 153 [some (.ref (G.2.1 + 264)), some (.int l1), none, some (.int l3), some (.int l4), some (.int l5)] [] (pic G μ) n 0 0 := by
  unfold f_X12_carry_b153 at hf
  refine V_iload_n d_X12_carry_153 rfl rfl ?_
  refine V_iload d_X12_carry_154 rfl ?_
  obtain ⟨t1, ht1, hf⟩ := ob hf
  refine B_callS1 (s_X12_has hG ht1) m_X12_has ks_RX12_380 d_X12_carry_156 rfl (Nat.le_of_ble_eq_true rfl) ⟨rfl, rfl, Nat.le_of_ble_eq_true rfl, Nat.le_of_ble_eq_true rfl, Nat.le_of_ble_eq_true rfl⟩ (fun n => ?_)
  refine V_if_ne (tgt := 181) d_X12_carry_159 (by decide) (fun c159 => ?_) (fun c159 => ?_)
  · replace hf := iteT (b2i_ne0 c159) hf
    refine V_less (ls' := [some _, some _, none, some _, some _, some _]) ⟨rfl, rfl, rfl, rfl, rfl, trivial⟩ ?_
    exact s_X12_carry_j181_153 hG hf hK
  · replace hf := iteF (b2i_nt (b2i_eq0 c159)) hf
    refine V_aload_n d_X12_carry_162 rfl rfl ?_
    refine V_iload d_X12_carry_163 rfl ?_
    refine V_iload_n d_X12_carry_165 rfl rfl ?_
    refine V_iload d_X12_carry_166 rfl ?_
    obtain ⟨t2, ht2, hf⟩ := ob hf
    refine B_callV1 (s_X12_leastBy hG ht2) k_264 clX12 m_X12_leastBy kv_RX12_383 d_X12_carry_168 rfl (Nat.le_of_ble_eq_true rfl) ⟨rfl, rfl, Nat.le_of_ble_eq_true rfl, Nat.le_of_ble_eq_true rfl, Nat.le_of_ble_eq_true rfl⟩ (fun n => ?_)
    refine V_aload_n d_X12_carry_171 rfl rfl ?_
    refine V_iload d_X12_carry_172 rfl ?_
    refine V_iload_n d_X12_carry_174 rfl rfl ?_
    obtain ⟨t3, ht3, hf⟩ := ob hf
    refine B_callV1 (s_X12_leastOf hG ht3) k_264 clX12 m_X12_leastOf kv_RX12_377 d_X12_carry_175 rfl (Nat.le_of_ble_eq_true rfl) ⟨rfl, rfl, Nat.le_of_ble_eq_true rfl, Nat.le_of_ble_eq_true rfl, Nat.le_of_ble_eq_true rfl⟩ (fun n => ?_)
    refine V_icmp_eq (tgt := 187) d_X12_carry_178 (by decide) (fun c178 => ?_) (fun c178 => ?_)
    · replace hf := iteT c178 hf
      refine V_less (ls' := [some _, some _, none, some _, some _, some _]) ⟨rfl, rfl, rfl, rfl, rfl, trivial⟩ ?_
      cases hf
      exact hK.2 _ rfl _
    · replace hf := iteF c178 hf
      refine V_less (ls' := [some _, some _, none, some _, some _, some _]) ⟨rfl, rfl, rfl, rfl, rfl, trivial⟩ ?_
      exact s_X12_carry_j181_153 hG hf hK
theorem s_X12_carry_j187_144 {G : Gl} (hG : G.1.stackTraces = false) {C : Cx} {n : Nat} {μ : Mem} {l1 : Int32} {l3 : Int32} {l4 : Int32} {l5 : Int32} {y : ((Int32 × Int32 × Int32) ⊕ Int32)} (hf : f_X12_carry_j187_144 μ l1 l3 l4 l5 = some y) (hK : (∀ z', y = .inl z' → ∀ n, V G C F_X12_carry 144 [some (.ref (G.2.1 + 264)), some (.int l1), none, some (.int z'.1), some (.int z'.2.1), some (.int z'.2.2)] [] (pic G μ) n 0 0) ∧ (∀ x', y = .inr x' → ∀ n, V G C F_X12_carry 200 [none, none, none, none, some (.int x'), none] [] (pic G μ) n 0 0)) : V G C F_X12_carry 187 [some (.ref (G.2.1 + 264)), some (.int l1), none, some (.int l3), some (.int l4), some (.int l5)] [] (pic G μ) n 0 0 := by
  unfold f_X12_carry_j187_144 at hf
  refine V_iload_n d_X12_carry_187 rfl rfl ?_
  refine V_iconst (v := 1) d_X12_carry_188 ic_1 ?_
  refine V_iload d_X12_carry_189 rfl ?_
  refine V_ishl d_X12_carry_191 ?_
  refine V_ior d_X12_carry_192 ?_
  refine V_istore_n (ls' := [_, _, _, _, _, _]) d_X12_carry_193 rfl rfl rfl ?_
  refine V_iinc (v := (l5 + 1)) (ls' := [_, _, _, _, _, _]) d_X12_carry_194 rfl (by rw [ic_1]) rfl ?_
  refine V_goto (tgt := 144) d_X12_carry_197 (by decide) ?_
  refine V_less (ls' := [some _, some _, none, some _, some _, some _]) ⟨rfl, rfl, rfl, rfl, rfl, trivial⟩ ?_
  cases hf
  exact hK.1 _ rfl _
theorem s_X12_carry_l153 {G : Gl} (hG : G.1.stackTraces = false) {C : Cx} {n : Nat} {μ : Mem} {l1 : Int32} {l3 : Int32} {l4 : Int32} {l5 : Int32} {y : ((Int32 × Int32 × Int32) ⊕ Int32)} (hf : f_X12_carry_l153 μ l1 l3 l4 l5 = some y) (hK : (∀ z', y = .inl z' → ∀ n, V G C F_X12_carry 144 [some (.ref (G.2.1 + 264)), some (.int l1), none, some (.int z'.1), some (.int z'.2.1), some (.int z'.2.2)] [] (pic G μ) n 0 0) ∧ (∀ x', y = .inr x' → ∀ n, V G C F_X12_carry 200 [none, none, none, none, some (.int x'), none] [] (pic G μ) n 0 0)) : V G C F_X12_carry 153 [some (.ref (G.2.1 + 264)), some (.int l1), none, some (.int l3), some (.int l4), some (.int l5)] [] (pic G μ) n 0 0 := by
  unfold f_X12_carry_l153 at hf
  obtain ⟨t, hl, hf⟩ := ob hf
  refine loopV (P := fun z => ∀ n, V G C F_X12_carry 153 [some (.ref (G.2.1 + 264)), some (.int l1), none, some (.int l3), some (.int z), some (.int l5)] [] (pic G μ) n 0 0) (t := t) ?_ _ _ hl n
  intro z y' hy hI hT n
  refine s_X12_carry_b153 hG hy ⟨hI, fun x9 ex => ?_⟩
  have ex2 := hT x9 ex
  subst ex2
  intro n
  exact s_X12_carry_j187_144 hG hf hK
theorem s_X12_carry_b144 {G : Gl} (hG : G.1.stackTraces = false) {C : Cx} {n : Nat} {μ : Mem} {l1 : Int32} {l3 : Int32} {l4 : Int32} {l5 : Int32} {y : ((Int32 × Int32 × Int32) ⊕ Int32)} (hf : f_X12_carry_b144 μ l1 l3 l4 l5 = some y) (hK : (∀ z', y = .inl z' → ∀ n, V G C F_X12_carry 144 [some (.ref (G.2.1 + 264)), some (.int l1), none, some (.int z'.1), some (.int z'.2.1), some (.int z'.2.2)] [] (pic G μ) n 0 0) ∧ (∀ x', y = .inr x' → ∀ n, V G C F_X12_carry 200 [none, none, none, none, some (.int x'), none] [] (pic G μ) n 0 0)) : V G C F_X12_carry 144 [some (.ref (G.2.1 + 264)), some (.int l1), none, some (.int l3), some (.int l4), some (.int l5)] [] (pic G μ) n 0 0 := by
  unfold f_X12_carry_b144 at hf
  refine V_iload d_X12_carry_144 rfl ?_
  refine V_iload_n d_X12_carry_146 rfl rfl ?_
  refine V_icmp_gt (tgt := 200) d_X12_carry_147 (by decide) (fun c147 => ?_) (fun c147 => ?_)
  · replace hf := iteT c147 hf
    refine V_less (ls' := [none, none, none, none, some _, none]) ⟨rfl, trivial⟩ ?_
    cases hf
    exact hK.2 _ rfl _
  · replace hf := iteF c147 hf
    refine V_iconst (v := 0) d_X12_carry_150 ic_0 ?_
    refine V_istore (ls' := [_, _, _, _, _, _]) d_X12_carry_151 rfl rfl ?_
    refine V_less (ls' := [some _, some _, none, some _, some _, some _]) ⟨rfl, rfl, rfl, rfl, rfl, trivial⟩ ?_
    exact s_X12_carry_l153 hG hf hK
theorem s_X12_carry_j200 {G : Gl} (hG : G.1.stackTraces = false) {C : Cx} {n : Nat} {μ : Mem} {l4 : Int32} {r : (Int32 × Mem)} (hf : f_X12_carry_j200 μ l4 = some r) (hK : FinR G C F_X12_carry (some .int) (some (.int r.1)) r.2) : V G C F_X12_carry 200 [none, none, none, none, some (.int l4), none] [] (pic G μ) n 0 0 := by
  unfold f_X12_carry_j200 at hf
  refine V_iload d_X12_carry_200 rfl ?_
  cases hf
  exact R_i hK d_X12_carry_202 (Nat.le_of_ble_eq_true rfl) (Nat.le_of_ble_eq_true rfl)
theorem s_X12_carry_l144 {G : Gl} (hG : G.1.stackTraces = false) {C : Cx} {n : Nat} {μ : Mem} {l1 : Int32} {l3 : Int32} {l4 : Int32} {l5 : Int32} {r : (Int32 × Mem)} (hf : f_X12_carry_l144 μ l1 l3 l4 l5 = some r) (hK : FinR G C F_X12_carry (some .int) (some (.int r.1)) r.2) : V G C F_X12_carry 144 [some (.ref (G.2.1 + 264)), some (.int l1), none, some (.int l3), some (.int l4), some (.int l5)] [] (pic G μ) n 0 0 := by
  unfold f_X12_carry_l144 at hf
  obtain ⟨t, hl, hf⟩ := ob hf
  refine loopV (P := fun z => ∀ n, V G C F_X12_carry 144 [some (.ref (G.2.1 + 264)), some (.int l1), none, some (.int z.1), some (.int z.2.1), some (.int z.2.2)] [] (pic G μ) n 0 0) (t := t) ?_ _ _ hl n
  intro z y' hy hI hT n
  refine s_X12_carry_b144 hG hy ⟨hI, fun x9 ex => ?_⟩
  have ex2 := hT x9 ex
  subst ex2
  intro n
  exact s_X12_carry_j200 hG hf hK
theorem s_X12_carry_j87 {G : Gl} (hG : G.1.stackTraces = false) {C : Cx} {n : Nat} {μ : Mem} {l1 : Int32} {l2 : Bool} {r : (Int32 × Mem)} (hf : f_X12_carry_j87 μ l1 l2 = some r) (hK : FinR G C F_X12_carry (some .int) (some (.int r.1)) r.2) : V G C F_X12_carry 87 [some (.ref (G.2.1 + 264)), some (.int l1), some (.int (b2i l2)), none, none, none] [] (pic G μ) n 0 0 := by
  unfold f_X12_carry_j87 at hf
  refine V_aload_n d_X12_carry_87 rfl rfl ?_
  refine V_iload_n d_X12_carry_88 rfl rfl ?_
  have hJj1 : ∀ j1 : Bool, j1 = (if l2 = true then (false : Bool) else true) → V G C F_X12_carry 97 [some (.ref (G.2.1 + 264)), some (.int l1), none, none, none, none] [.int (b2i j1), .ref (G.2.1 + 264)] (pic G μ) n 0 0 := by
    intro j1 ej1
    subst ej1
    refine V_iconst (v := 2) d_X12_carry_97 ic_2 ?_
    obtain ⟨q2, hq2, hf⟩ := ob hf
    refine B_callV1 (s_X12_throwsIf hG hq2) k_264 clX12 m_X12_throwsIf kv_RX12_263 d_X12_carry_98 rfl (Nat.le_of_ble_eq_true rfl) ⟨rfl, rfl, Nat.le_of_ble_eq_true rfl, Nat.le_of_ble_eq_true rfl, Nat.le_of_ble_eq_true rfl⟩ (fun n => ?_)
    refine V_if_eq (tgt := 106) d_X12_carry_101 (by decide) (fun c101 => ?_) (fun c101 => ?_)
    · replace hf := iteF (b2i_nt (b2i_eq0 c101)) hf
      refine V_aload_n d_X12_carry_106 rfl rfl ?_
      obtain ⟨q3, hq3, hf⟩ := ob hf
      refine B_callV0 (s_X12_laysLeast hG hq3) k_264 clX12 m_X12_laysLeast kv_RX12_386 d_X12_carry_107 rfl (Nat.le_of_ble_eq_true rfl) ⟨rfl, rfl, Nat.le_of_ble_eq_true rfl, Nat.le_of_ble_eq_true rfl, Nat.le_of_ble_eq_true rfl⟩ (fun n => ?_)
      refine V_aload_n d_X12_carry_110 rfl rfl ?_
      refine V_iconst (v := 0) d_X12_carry_111 ic_0 ?_
      refine V_iconst (v := 0) d_X12_carry_112 ic_0 ?_
      obtain ⟨t4, ht4, hf⟩ := ob hf
      refine B_callV1 (s_X12_leastOf hG ht4) k_264 clX12 m_X12_leastOf kv_RX12_377 d_X12_carry_113 rfl (Nat.le_of_ble_eq_true rfl) ⟨rfl, rfl, Nat.le_of_ble_eq_true rfl, Nat.le_of_ble_eq_true rfl, Nat.le_of_ble_eq_true rfl⟩ (fun n => ?_)
      refine V_ldcw (v := 1000000) d_X12_carry_116 w_1899 ?_
      refine V_icmp_lt (tgt := 124) d_X12_carry_119 (by decide) (fun c119 => ?_) (fun c119 => ?_)
      · replace hf := iteT c119 hf
        refine V_iload_n d_X12_carry_124 rfl rfl ?_
        refine V_iconst (v := (-1)) d_X12_carry_125 ic_m1 ?_
        refine V_icmp_ne (tgt := 136) d_X12_carry_126 (by decide) (fun c126 => ?_) (fun c126 => ?_)
        · replace hf := iteF c126 hf
          refine V_iconst (v := 0) d_X12_carry_136 ic_0 ?_
          refine V_istore_n (ls' := [_, _, _, _, _, _]) d_X12_carry_137 rfl rfl rfl ?_
          refine V_iconst (v := 0) d_X12_carry_138 ic_0 ?_
          refine V_istore (ls' := [_, _, _, _, _, _]) d_X12_carry_139 rfl rfl ?_
          refine V_iconst (v := 0) d_X12_carry_141 ic_0 ?_
          refine V_istore (ls' := [_, _, _, _, _, _]) d_X12_carry_142 rfl rfl ?_
          refine V_less (ls' := [some _, some _, none, some _, some _, some _]) ⟨rfl, rfl, rfl, rfl, rfl, trivial⟩ ?_
          exact s_X12_carry_l144 hG hf hK
        · replace hf := iteT c126 hf
          refine V_aload_n d_X12_carry_129 rfl rfl ?_
          refine V_iconst (v := 0) d_X12_carry_130 ic_0 ?_
          refine V_iconst (v := 0) d_X12_carry_131 ic_0 ?_
          obtain ⟨t5, ht5, hf⟩ := ob hf
          refine B_callV1 (s_X12_leastOf hG ht5) k_264 clX12 m_X12_leastOf kv_RX12_377 d_X12_carry_132 rfl (Nat.le_of_ble_eq_true rfl) ⟨rfl, rfl, Nat.le_of_ble_eq_true rfl, Nat.le_of_ble_eq_true rfl, Nat.le_of_ble_eq_true rfl⟩ (fun n => ?_)
          cases hf
          exact R_i hK d_X12_carry_135 (Nat.le_of_ble_eq_true rfl) (Nat.le_of_ble_eq_true rfl)
      · replace hf := iteF c119 hf
        refine V_iconst (v := (-1)) d_X12_carry_122 ic_m1 ?_
        cases hf
        exact R_i hK d_X12_carry_123 (Nat.le_of_ble_eq_true rfl) (Nat.le_of_ble_eq_true rfl)
    · replace hf := iteT (b2i_ne0 c101) hf
      refine V_iconst (v := 0) d_X12_carry_104 ic_0 ?_
      cases hf
      exact R_i hK d_X12_carry_105 (Nat.le_of_ble_eq_true rfl) (Nat.le_of_ble_eq_true rfl)
  refine V_if_ne (tgt := 96) d_X12_carry_89 (by decide) (fun c89 => ?_) (fun c89 => ?_)
  · refine V_iconst (v := 0) d_X12_carry_96 ic_0 ?_
    refine V_less (ls' := [some _, some _, none, none, none, none]) ⟨rfl, rfl, trivial⟩ ?_
    exact hJj1 false (by rw [if_pos (b2i_ne0 c89)])
  · refine V_iconst (v := 1) d_X12_carry_92 ic_1 ?_
    refine V_goto (tgt := 97) d_X12_carry_93 (by decide) ?_
    refine V_less (ls' := [some _, some _, none, none, none, none]) ⟨rfl, rfl, trivial⟩ ?_
    exact hJj1 true (by rw [if_neg (b2i_nt (b2i_eq0 c89))])
theorem s_X12_carry_l51 {G : Gl} (hG : G.1.stackTraces = false) {C : Cx} {n : Nat} {μ : Mem} {l1 : Int32} {l2 : Bool} {l3 : Int32} {r : (Int32 × Mem)} (hf : f_X12_carry_l51 μ l1 l2 l3 = some r) (hK : FinR G C F_X12_carry (some .int) (some (.int r.1)) r.2) : V G C F_X12_carry 51 [some (.ref (G.2.1 + 264)), some (.int l1), some (.int (b2i l2)), some (.int l3), none, none] [] (pic G μ) n 0 0 := by
  unfold f_X12_carry_l51 at hf
  obtain ⟨t, hl, hf⟩ := ob hf
  refine loopV (P := fun z => ∀ n, V G C F_X12_carry 51 [some (.ref (G.2.1 + 264)), some (.int l1), some (.int (b2i z.1)), some (.int z.2), none, none] [] (pic G μ) n 0 0) (t := t) ?_ _ _ hl n
  intro z y' hy hI hT n
  refine s_X12_carry_b51 hG hy ⟨hI, fun x9 ex => ?_⟩
  have ex2 := hT x9 ex
  subst ex2
  intro n
  exact s_X12_carry_j87 hG hf hK
theorem s_X12_carry_j23 {G : Gl} (hG : G.1.stackTraces = false) {C : Cx} {n : Nat} {μ : Mem} {l1 : Int32} {k1 : Bool} {r : (Int32 × Mem)} (hf : f_X12_carry_j23 μ l1 k1 = some r) (hK : FinR G C F_X12_carry (some .int) (some (.int r.1)) r.2) : V G C F_X12_carry 23 [some (.ref (G.2.1 + 264)), some (.int l1), none, none, none, none] [.int (b2i k1), .ref (G.2.1 + 264)] (pic G μ) n 0 0 := by
  unfold f_X12_carry_j23 at hf
  refine V_iconst (v := 1) d_X12_carry_23 ic_1 ?_
  obtain ⟨q1, hq1, hf⟩ := ob hf
  refine B_callV1 (s_X12_throwsIf hG hq1) k_264 clX12 m_X12_throwsIf kv_RX12_263 d_X12_carry_24 rfl (Nat.le_of_ble_eq_true rfl) ⟨rfl, rfl, Nat.le_of_ble_eq_true rfl, Nat.le_of_ble_eq_true rfl, Nat.le_of_ble_eq_true rfl⟩ (fun n => ?_)
  refine V_if_eq (tgt := 32) d_X12_carry_27 (by decide) (fun c27 => ?_) (fun c27 => ?_)
  · replace hf := iteF (b2i_nt (b2i_eq0 c27)) hf
    refine V_aload_n d_X12_carry_32 rfl rfl ?_
    refine B_get k_264 fl_RX12_99 d_X12_carry_33 g_12_11 ?_
    refine V_aload_n d_X12_carry_36 rfl rfl ?_
    obtain ⟨t2, ht2, hf⟩ := ob hf
    refine B_callV1 (s_X12_people hG ht2) k_264 clX12 m_X12_people kv_RX12_59 d_X12_carry_37 rfl (Nat.le_of_ble_eq_true rfl) ⟨rfl, rfl, Nat.le_of_ble_eq_true rfl, Nat.le_of_ble_eq_true rfl, Nat.le_of_ble_eq_true rfl⟩ (fun n => ?_)
    have hJj3 : ∀ j3 : Bool, j3 = (if (q1.2 264 11) = t2 then (true : Bool) else false) → V G C F_X12_carry 48 [some (.ref (G.2.1 + 264)), some (.int l1), none, none, none, none] [.int (b2i j3)] (pic G q1.2) n 0 0 := by
      intro j3 ej3
      subst ej3
      refine V_istore_n (ls' := [_, _, _, _, _, _]) d_X12_carry_48 rfl rfl rfl ?_
      refine V_iconst (v := 0) d_X12_carry_49 ic_0 ?_
      refine V_istore_n (ls' := [_, _, _, _, _, _]) d_X12_carry_50 rfl rfl rfl ?_
      refine V_less (ls' := [some _, some _, some _, some _, none, none]) ⟨rfl, rfl, rfl, rfl, trivial⟩ ?_
      exact s_X12_carry_l51 hG hf hK
    refine V_icmp_ne (tgt := 47) d_X12_carry_40 (by decide) (fun c40 => ?_) (fun c40 => ?_)
    · refine V_iconst (v := 0) d_X12_carry_47 ic_0 ?_
      refine V_less (ls' := [some _, some _, none, none, none, none]) ⟨rfl, rfl, trivial⟩ ?_
      exact hJj3 false (by rw [if_neg c40])
    · refine V_iconst (v := 1) d_X12_carry_43 ic_1 ?_
      refine V_goto (tgt := 48) d_X12_carry_44 (by decide) ?_
      refine V_less (ls' := [some _, some _, none, none, none, none]) ⟨rfl, rfl, trivial⟩ ?_
      exact hJj3 true (by rw [if_pos c40])
  · replace hf := iteT (b2i_ne0 c27) hf
    refine V_iconst (v := 0) d_X12_carry_30 ic_0 ?_
    cases hf
    exact R_i hK d_X12_carry_31 (Nat.le_of_ble_eq_true rfl) (Nat.le_of_ble_eq_true rfl)
theorem s_X12_carry_j22 {G : Gl} (hG : G.1.stackTraces = false) {C : Cx} {n : Nat} {μ : Mem} {l1 : Int32} {r : (Int32 × Mem)} (hf : f_X12_carry_j22 μ l1 = some r) (hK : FinR G C F_X12_carry (some .int) (some (.int r.1)) r.2) : V G C F_X12_carry 22 [some (.ref (G.2.1 + 264)), some (.int l1), none, none, none, none] [.ref (G.2.1 + 264)] (pic G μ) n 0 0 := by
  unfold f_X12_carry_j22 at hf
  refine V_iconst (v := 0) d_X12_carry_22 ic_0 ?_
  refine V_less (ls' := [some _, some _, none, none, none, none]) ⟨rfl, rfl, trivial⟩ ?_
  exact s_X12_carry_j23 hG hf hK
theorem s_X12_carry_e {G : Gl} (hG : G.1.stackTraces = false) {C : Cx} {n : Nat} {μ : Mem} {p1 : Int32} {r : (Int32 × Mem)} (hf : f_X12_carry μ p1 = some r) (hK : FinR G C F_X12_carry (some .int) (some (.int r.1)) r.2) : V G C F_X12_carry 0 [some (.ref (G.2.1 + 264)), some (.int p1), none, none, none, none] [] (pic G μ) n 0 0 := by
  unfold f_X12_carry at hf
  refine V_aload_n d_X12_carry_0 rfl rfl ?_
  obtain ⟨q1, hq1, hf⟩ := ob hf
  refine B_callV0 (s_X12_uses hG hq1) k_264 clX12 m_X12_uses kv_RX12_252 d_X12_carry_1 rfl (Nat.le_of_ble_eq_true rfl) ⟨rfl, rfl, Nat.le_of_ble_eq_true rfl, Nat.le_of_ble_eq_true rfl, Nat.le_of_ble_eq_true rfl⟩ (fun n => ?_)
  refine V_aload_n d_X12_carry_4 rfl rfl ?_
  refine V_iload_n d_X12_carry_5 rfl rfl ?_
  refine V_iconst (v := (-1)) d_X12_carry_6 ic_m1 ?_
  refine V_icmp_eq (tgt := 22) d_X12_carry_7 (by decide) (fun c7 => ?_) (fun c7 => ?_)
  · replace hf := iteT c7 hf
    refine V_less (ls' := [some _, some _, none, none, none, none]) ⟨rfl, rfl, trivial⟩ ?_
    exact s_X12_carry_j22 hG hf hK
  · replace hf := iteF c7 hf
    refine V_aload_n d_X12_carry_10 rfl rfl ?_
    refine V_iload_n d_X12_carry_11 rfl rfl ?_
    obtain ⟨t2, ht2, hf⟩ := ob hf
    refine B_callV1 (s_X12_noPerson hG ht2) k_264 clX12 m_X12_noPerson kv_RX12_305 d_X12_carry_12 rfl (Nat.le_of_ble_eq_true rfl) ⟨rfl, rfl, Nat.le_of_ble_eq_true rfl, Nat.le_of_ble_eq_true rfl, Nat.le_of_ble_eq_true rfl⟩ (fun n => ?_)
    have hJj3 : ∀ j3 : Bool, j3 = (if t2 = true then (true : Bool) else false) → V G C F_X12_carry 23 [some (.ref (G.2.1 + 264)), some (.int p1), none, none, none, none] [.int (b2i j3), .ref (G.2.1 + 264)] (pic G q1) n 0 0 := by
      intro j3 ej3
      subst ej3
      refine V_iconst (v := 1) d_X12_carry_23 ic_1 ?_
      obtain ⟨q4, hq4, hf⟩ := ob hf
      refine B_callV1 (s_X12_throwsIf hG hq4) k_264 clX12 m_X12_throwsIf kv_RX12_263 d_X12_carry_24 rfl (Nat.le_of_ble_eq_true rfl) ⟨rfl, rfl, Nat.le_of_ble_eq_true rfl, Nat.le_of_ble_eq_true rfl, Nat.le_of_ble_eq_true rfl⟩ (fun n => ?_)
      refine V_if_eq (tgt := 32) d_X12_carry_27 (by decide) (fun c27 => ?_) (fun c27 => ?_)
      · replace hf := iteF (b2i_nt (b2i_eq0 c27)) hf
        refine V_aload_n d_X12_carry_32 rfl rfl ?_
        refine B_get k_264 fl_RX12_99 d_X12_carry_33 g_12_11 ?_
        refine V_aload_n d_X12_carry_36 rfl rfl ?_
        obtain ⟨t5, ht5, hf⟩ := ob hf
        refine B_callV1 (s_X12_people hG ht5) k_264 clX12 m_X12_people kv_RX12_59 d_X12_carry_37 rfl (Nat.le_of_ble_eq_true rfl) ⟨rfl, rfl, Nat.le_of_ble_eq_true rfl, Nat.le_of_ble_eq_true rfl, Nat.le_of_ble_eq_true rfl⟩ (fun n => ?_)
        have hJj6 : ∀ j6 : Bool, j6 = (if (q4.2 264 11) = t5 then (true : Bool) else false) → V G C F_X12_carry 48 [some (.ref (G.2.1 + 264)), some (.int p1), none, none, none, none] [.int (b2i j6)] (pic G q4.2) n 0 0 := by
          intro j6 ej6
          subst ej6
          refine V_istore_n (ls' := [_, _, _, _, _, _]) d_X12_carry_48 rfl rfl rfl ?_
          refine V_iconst (v := 0) d_X12_carry_49 ic_0 ?_
          refine V_istore_n (ls' := [_, _, _, _, _, _]) d_X12_carry_50 rfl rfl rfl ?_
          refine V_less (ls' := [some _, some _, some _, some _, none, none]) ⟨rfl, rfl, rfl, rfl, trivial⟩ ?_
          exact s_X12_carry_l51 hG hf hK
        refine V_icmp_ne (tgt := 47) d_X12_carry_40 (by decide) (fun c40 => ?_) (fun c40 => ?_)
        · refine V_iconst (v := 0) d_X12_carry_47 ic_0 ?_
          refine V_less (ls' := [some _, some _, none, none, none, none]) ⟨rfl, rfl, trivial⟩ ?_
          exact hJj6 false (by rw [if_neg c40])
        · refine V_iconst (v := 1) d_X12_carry_43 ic_1 ?_
          refine V_goto (tgt := 48) d_X12_carry_44 (by decide) ?_
          refine V_less (ls' := [some _, some _, none, none, none, none]) ⟨rfl, rfl, trivial⟩ ?_
          exact hJj6 true (by rw [if_pos c40])
      · replace hf := iteT (b2i_ne0 c27) hf
        refine V_iconst (v := 0) d_X12_carry_30 ic_0 ?_
        cases hf
        exact R_i hK d_X12_carry_31 (Nat.le_of_ble_eq_true rfl) (Nat.le_of_ble_eq_true rfl)
    refine V_if_eq (tgt := 22) d_X12_carry_15 (by decide) (fun c15 => ?_) (fun c15 => ?_)
    · refine V_iconst (v := 0) d_X12_carry_22 ic_0 ?_
      refine V_less (ls' := [some _, some _, none, none, none, none]) ⟨rfl, rfl, trivial⟩ ?_
      exact hJj3 false (by rw [if_neg (b2i_nt (b2i_eq0 c15))])
    · refine V_iconst (v := 1) d_X12_carry_18 ic_1 ?_
      refine V_goto (tgt := 23) d_X12_carry_19 (by decide) ?_
      refine V_less (ls' := [some _, some _, none, none, none, none]) ⟨rfl, rfl, trivial⟩ ?_
      exact hJj3 true (by rw [if_pos (b2i_ne0 c15)])
theorem s_X12_carry {G : Gl} (hG : G.1.stackTraces = false) {μ : Mem} {p1 : Int32} {r : (Int32 × Mem)} (hf : f_X12_carry μ p1 = some r) : Rt G yX12_carry F_X12_carry (some .int) [.ref (G.2.1 + 264), .int p1] μ (some (.int r.1)) r.2 := fun n => Sd.of hG ⟨by decide +kernel, rfl, rfl⟩ rfl (Nat.le_of_ble_eq_true rfl) rfl (fun C hK => s_X12_carry_e hG hf hK)
theorem d_X12_solvent_0 : decode cX12_solvent 0 = .ok (.aload_n 0, 1) := by decide +kernel
theorem d_X12_solvent_1 : decode cX12_solvent 1 = .ok (.iconst 0, 1) := by decide +kernel
theorem d_X12_solvent_2 : decode cX12_solvent 2 = .ok (.putfield 3, 3) := by decide +kernel
theorem d_X12_solvent_5 : decode cX12_solvent 5 = .ok (.iconst 0, 1) := by decide +kernel
theorem d_X12_solvent_6 : decode cX12_solvent 6 = .ok (.istore_n 1, 1) := by decide +kernel
theorem d_X12_solvent_7 : decode cX12_solvent 7 = .ok (.iconst 0, 1) := by decide +kernel
theorem d_X12_solvent_8 : decode cX12_solvent 8 = .ok (.istore_n 2, 1) := by decide +kernel
theorem d_X12_solvent_9 : decode cX12_solvent 9 = .ok (.iload_n 2, 1) := by decide +kernel
theorem d_X12_solvent_10 : decode cX12_solvent 10 = .ok (.aload_n 0, 1) := by decide +kernel
theorem d_X12_solvent_11 : decode cX12_solvent 11 = .ok (.invokevirtual 59, 3) := by decide +kernel
theorem d_X12_solvent_14 : decode cX12_solvent 14 = .ok (.if_icmp .ge 33, 3) := by decide +kernel
theorem d_X12_solvent_17 : decode cX12_solvent 17 = .ok (.iload_n 1, 1) := by decide +kernel
theorem d_X12_solvent_18 : decode cX12_solvent 18 = .ok (.aload_n 0, 1) := by decide +kernel
theorem d_X12_solvent_19 : decode cX12_solvent 19 = .ok (.iload_n 2, 1) := by decide +kernel
theorem d_X12_solvent_20 : decode cX12_solvent 20 = .ok (.iconst 0, 1) := by decide +kernel
theorem d_X12_solvent_21 : decode cX12_solvent 21 = .ok (.invokevirtual 84, 3) := by decide +kernel
theorem d_X12_solvent_24 : decode cX12_solvent 24 = .ok (.aload_n 0, 1) := by decide +kernel
theorem d_X12_solvent_25 : decode cX12_solvent 25 = .ok (.iload_n 2, 1) := by decide +kernel
theorem d_X12_solvent_26 : decode cX12_solvent 26 = .ok (.invokevirtual 308, 3) := by decide +kernel
theorem d_X12_solvent_29 : decode cX12_solvent 29 = .ok (.if_icmp .lt 9, 3) := by decide +kernel
theorem d_X12_solvent_32 : decode cX12_solvent 32 = .ok (.iconst 1, 1) := by decide +kernel
theorem d_X12_solvent_33 : decode cX12_solvent 33 = .ok (.iload_n 2, 1) := by decide +kernel
theorem d_X12_solvent_34 : decode cX12_solvent 34 = .ok (.ishl, 1) := by decide +kernel
theorem d_X12_solvent_35 : decode cX12_solvent 35 = .ok (.goto 4, 3) := by decide +kernel
theorem d_X12_solvent_38 : decode cX12_solvent 38 = .ok (.iconst 0, 1) := by decide +kernel
theorem d_X12_solvent_39 : decode cX12_solvent 39 = .ok (.ior, 1) := by decide +kernel
theorem d_X12_solvent_40 : decode cX12_solvent 40 = .ok (.istore_n 1, 1) := by decide +kernel
theorem d_X12_solvent_41 : decode cX12_solvent 41 = .ok (.iinc 2 1, 3) := by decide +kernel
theorem d_X12_solvent_44 : decode cX12_solvent 44 = .ok (.goto (-35), 3) := by decide +kernel
theorem d_X12_solvent_47 : decode cX12_solvent 47 = .ok (.iload_n 1, 1) := by decide +kernel
theorem d_X12_solvent_48 : decode cX12_solvent 48 = .ok (.ireturn, 1) := by decide +kernel
theorem s_X12_solvent_b9 {G : Gl} (hG : G.1.stackTraces = false) {C : Cx} {n : Nat} {μ : Mem} {l1 : Int32} {l2 : Int32} {y : ((Int32 × Int32) ⊕ Int32)} (hf : f_X12_solvent_b9 μ l1 l2 = some y) (hK : (∀ z', y = .inl z' → ∀ n, V G C F_X12_solvent 9 [some (.ref (G.2.1 + 264)), some (.int z'.1), some (.int z'.2)] [] (pic G μ) n 0 0) ∧ (∀ x', y = .inr x' → ∀ n, V G C F_X12_solvent 47 [none, some (.int x'), none] [] (pic G μ) n 0 0)) : V G C F_X12_solvent 9 [some (.ref (G.2.1 + 264)), some (.int l1), some (.int l2)] [] (pic G μ) n 0 0 := by
  unfold f_X12_solvent_b9 at hf
  refine V_iload_n d_X12_solvent_9 rfl rfl ?_
  refine V_aload_n d_X12_solvent_10 rfl rfl ?_
  obtain ⟨t1, ht1, hf⟩ := ob hf
  refine B_callV1 (s_X12_people hG ht1) k_264 clX12 m_X12_people kv_RX12_59 d_X12_solvent_11 rfl (Nat.le_of_ble_eq_true rfl) ⟨rfl, rfl, Nat.le_of_ble_eq_true rfl, Nat.le_of_ble_eq_true rfl, Nat.le_of_ble_eq_true rfl⟩ (fun n => ?_)
  refine V_icmp_ge (tgt := 47) d_X12_solvent_14 (by decide) (fun c14 => ?_) (fun c14 => ?_)
  · replace hf := iteT c14 hf
    refine V_less (ls' := [none, some _, none]) ⟨rfl, trivial⟩ ?_
    cases hf
    exact hK.2 _ rfl _
  · replace hf := iteF c14 hf
    refine V_iload_n d_X12_solvent_17 rfl rfl ?_
    refine V_aload_n d_X12_solvent_18 rfl rfl ?_
    refine V_iload_n d_X12_solvent_19 rfl rfl ?_
    refine V_iconst (v := 0) d_X12_solvent_20 ic_0 ?_
    obtain ⟨t2, ht2, hf⟩ := ob hf
    refine B_callV1 (s_X12_of hG ht2) k_264 clX12 m_X12_of kv_RX12_84 d_X12_solvent_21 rfl (Nat.le_of_ble_eq_true rfl) ⟨rfl, rfl, Nat.le_of_ble_eq_true rfl, Nat.le_of_ble_eq_true rfl, Nat.le_of_ble_eq_true rfl⟩ (fun n => ?_)
    refine V_aload_n d_X12_solvent_24 rfl rfl ?_
    refine V_iload_n d_X12_solvent_25 rfl rfl ?_
    obtain ⟨t3, ht3, hf⟩ := ob hf
    refine B_callV1 (s_X12_owesOf hG ht3) k_264 clX12 m_X12_owesOf kv_RX12_308 d_X12_solvent_26 rfl (Nat.le_of_ble_eq_true rfl) ⟨rfl, rfl, Nat.le_of_ble_eq_true rfl, Nat.le_of_ble_eq_true rfl, Nat.le_of_ble_eq_true rfl⟩ (fun n => ?_)
    have hJj4 : ∀ j4 : Int32, j4 = (if t2 < t3 then (0 : Int32) else (1 <<< (l2 &&& 31))) → V G C F_X12_solvent 39 [some (.ref (G.2.1 + 264)), none, some (.int l2)] [.int j4, .int l1] (pic G μ) n 0 0 := by
      intro j4 ej4
      subst ej4
      refine V_ior d_X12_solvent_39 ?_
      refine V_istore_n (ls' := [_, _, _]) d_X12_solvent_40 rfl rfl rfl ?_
      refine V_iinc (v := (l2 + 1)) (ls' := [_, _, _]) d_X12_solvent_41 rfl (by rw [ic_1]) rfl ?_
      refine V_goto (tgt := 9) d_X12_solvent_44 (by decide) ?_
      refine V_less (ls' := [some _, some _, some _]) ⟨rfl, rfl, rfl, trivial⟩ ?_
      cases hf
      exact hK.1 _ rfl _
    refine V_icmp_lt (tgt := 38) d_X12_solvent_29 (by decide) (fun c29 => ?_) (fun c29 => ?_)
    · refine V_iconst (v := 0) d_X12_solvent_38 ic_0 ?_
      refine V_less (ls' := [some _, none, some _]) ⟨rfl, rfl, trivial⟩ ?_
      exact hJj4 0 (by rw [if_pos c29])
    · refine V_iconst (v := 1) d_X12_solvent_32 ic_1 ?_
      refine V_iload_n d_X12_solvent_33 rfl rfl ?_
      refine V_ishl d_X12_solvent_34 ?_
      refine V_goto (tgt := 39) d_X12_solvent_35 (by decide) ?_
      refine V_less (ls' := [some _, none, some _]) ⟨rfl, rfl, trivial⟩ ?_
      exact hJj4 (1 <<< (l2 &&& 31)) (by rw [if_neg c29])
theorem s_X12_solvent_j47 {G : Gl} (hG : G.1.stackTraces = false) {C : Cx} {n : Nat} {μ : Mem} {l1 : Int32} {r : (Int32 × Mem)} (hf : f_X12_solvent_j47 μ l1 = some r) (hK : FinR G C F_X12_solvent (some .int) (some (.int r.1)) r.2) : V G C F_X12_solvent 47 [none, some (.int l1), none] [] (pic G μ) n 0 0 := by
  unfold f_X12_solvent_j47 at hf
  refine V_iload_n d_X12_solvent_47 rfl rfl ?_
  cases hf
  exact R_i hK d_X12_solvent_48 (Nat.le_of_ble_eq_true rfl) (Nat.le_of_ble_eq_true rfl)
theorem s_X12_solvent_l9 {G : Gl} (hG : G.1.stackTraces = false) {C : Cx} {n : Nat} {μ : Mem} {l1 : Int32} {l2 : Int32} {r : (Int32 × Mem)} (hf : f_X12_solvent_l9 μ l1 l2 = some r) (hK : FinR G C F_X12_solvent (some .int) (some (.int r.1)) r.2) : V G C F_X12_solvent 9 [some (.ref (G.2.1 + 264)), some (.int l1), some (.int l2)] [] (pic G μ) n 0 0 := by
  unfold f_X12_solvent_l9 at hf
  obtain ⟨t, hl, hf⟩ := ob hf
  refine loopV (P := fun z => ∀ n, V G C F_X12_solvent 9 [some (.ref (G.2.1 + 264)), some (.int z.1), some (.int z.2)] [] (pic G μ) n 0 0) (t := t) ?_ _ _ hl n
  intro z y' hy hI hT n
  refine s_X12_solvent_b9 hG hy ⟨hI, fun x9 ex => ?_⟩
  have ex2 := hT x9 ex
  subst ex2
  intro n
  exact s_X12_solvent_j47 hG hf hK
theorem s_X12_solvent_e {G : Gl} (hG : G.1.stackTraces = false) {C : Cx} {n : Nat} {μ : Mem}  {r : (Int32 × Mem)} (hf : f_X12_solvent μ = some r) (hK : FinR G C F_X12_solvent (some .int) (some (.int r.1)) r.2) : V G C F_X12_solvent 0 [some (.ref (G.2.1 + 264)), none, none] [] (pic G μ) n 0 0 := by
  unfold f_X12_solvent at hf
  refine V_aload_n d_X12_solvent_0 rfl rfl ?_
  refine V_iconst (v := 0) d_X12_solvent_1 ic_0 ?_
  refine B_putI k_264 fl_RX12_3 pt_12_0 (Nat.le_of_ble_eq_true rfl) p_12_0 d_X12_solvent_2 ?_
  refine V_iconst (v := 0) d_X12_solvent_5 ic_0 ?_
  refine V_istore_n (ls' := [_, _, _]) d_X12_solvent_6 rfl rfl rfl ?_
  refine V_iconst (v := 0) d_X12_solvent_7 ic_0 ?_
  refine V_istore_n (ls' := [_, _, _]) d_X12_solvent_8 rfl rfl rfl ?_
  refine V_less (ls' := [some _, some _, some _]) ⟨rfl, rfl, rfl, trivial⟩ ?_
  exact s_X12_solvent_l9 hG hf hK
theorem s_X12_solvent {G : Gl} (hG : G.1.stackTraces = false) {μ : Mem} {r : (Int32 × Mem)} (hf : f_X12_solvent μ = some r) : Rt G yX12_solvent F_X12_solvent (some .int) [.ref (G.2.1 + 264)] μ (some (.int r.1)) r.2 := fun n => Sd.of hG ⟨by decide +kernel, rfl, rfl⟩ rfl (Nat.le_of_ble_eq_true rfl) rfl (fun C hK => s_X12_solvent_e hG hf hK)
theorem d_X12_isRing_0 : decode cX12_isRing 0 = .ok (.iconst 1, 1) := by decide +kernel
theorem d_X12_isRing_1 : decode cX12_isRing 1 = .ok (.istore_n 2, 1) := by decide +kernel
theorem d_X12_isRing_2 : decode cX12_isRing 2 = .ok (.iconst 0, 1) := by decide +kernel
theorem d_X12_isRing_3 : decode cX12_isRing 3 = .ok (.istore_n 3, 1) := by decide +kernel
theorem d_X12_isRing_4 : decode cX12_isRing 4 = .ok (.iload_n 3, 1) := by decide +kernel
theorem d_X12_isRing_5 : decode cX12_isRing 5 = .ok (.aload_n 0, 1) := by decide +kernel
theorem d_X12_isRing_6 : decode cX12_isRing 6 = .ok (.invokevirtual 59, 3) := by decide +kernel
theorem d_X12_isRing_9 : decode cX12_isRing 9 = .ok (.if_icmp .ge 98, 3) := by decide +kernel
theorem d_X12_isRing_12 : decode cX12_isRing 12 = .ok (.iconst 0, 1) := by decide +kernel
theorem d_X12_isRing_13 : decode cX12_isRing 13 = .ok (.istore 4, 2) := by decide +kernel
theorem d_X12_isRing_15 : decode cX12_isRing 15 = .ok (.iconst 0, 1) := by decide +kernel
theorem d_X12_isRing_16 : decode cX12_isRing 16 = .ok (.istore 5, 2) := by decide +kernel
theorem d_X12_isRing_18 : decode cX12_isRing 18 = .ok (.iload 5, 2) := by decide +kernel
theorem d_X12_isRing_20 : decode cX12_isRing 20 = .ok (.aload_n 0, 1) := by decide +kernel
theorem d_X12_isRing_21 : decode cX12_isRing 21 = .ok (.invokevirtual 77, 3) := by decide +kernel
theorem d_X12_isRing_24 : decode cX12_isRing 24 = .ok (.if_icmp .ge 62, 3) := by decide +kernel
theorem d_X12_isRing_27 : decode cX12_isRing 27 = .ok (.iload_n 1, 1) := by decide +kernel
theorem d_X12_isRing_28 : decode cX12_isRing 28 = .ok (.iload 5, 2) := by decide +kernel
theorem d_X12_isRing_30 : decode cX12_isRing 30 = .ok (.invokestatic 380, 3) := by decide +kernel
theorem d_X12_isRing_33 : decode cX12_isRing 33 = .ok (.ifCond .eq 47, 3) := by decide +kernel
theorem d_X12_isRing_36 : decode cX12_isRing 36 = .ok (.iload 4, 2) := by decide +kernel
theorem d_X12_isRing_38 : decode cX12_isRing 38 = .ok (.aload_n 0, 1) := by decide +kernel
theorem d_X12_isRing_39 : decode cX12_isRing 39 = .ok (.iload 5, 2) := by decide +kernel
theorem d_X12_isRing_41 : decode cX12_isRing 41 = .ok (.iconst 2, 1) := by decide +kernel
theorem d_X12_isRing_42 : decode cX12_isRing 42 = .ok (.invokevirtual 70, 3) := by decide +kernel
theorem d_X12_isRing_45 : decode cX12_isRing 45 = .ok (.iload 5, 2) := by decide +kernel
theorem d_X12_isRing_47 : decode cX12_isRing 47 = .ok (.invokestatic 144, 3) := by decide +kernel
theorem d_X12_isRing_50 : decode cX12_isRing 50 = .ok (.iload_n 3, 1) := by decide +kernel
theorem d_X12_isRing_51 : decode cX12_isRing 51 = .ok (.if_icmp .ne 7, 3) := by decide +kernel
theorem d_X12_isRing_54 : decode cX12_isRing 54 = .ok (.iconst 1, 1) := by decide +kernel
theorem d_X12_isRing_55 : decode cX12_isRing 55 = .ok (.goto 4, 3) := by decide +kernel
theorem d_X12_isRing_58 : decode cX12_isRing 58 = .ok (.iconst 0, 1) := by decide +kernel
theorem d_X12_isRing_59 : decode cX12_isRing 59 = .ok (.aload_n 0, 1) := by decide +kernel
theorem d_X12_isRing_60 : decode cX12_isRing 60 = .ok (.iload 5, 2) := by decide +kernel
theorem d_X12_isRing_62 : decode cX12_isRing 62 = .ok (.iconst 1, 1) := by decide +kernel
theorem d_X12_isRing_63 : decode cX12_isRing 63 = .ok (.invokevirtual 70, 3) := by decide +kernel
theorem d_X12_isRing_66 : decode cX12_isRing 66 = .ok (.iload_n 3, 1) := by decide +kernel
theorem d_X12_isRing_67 : decode cX12_isRing 67 = .ok (.if_icmp .ne 7, 3) := by decide +kernel
theorem d_X12_isRing_70 : decode cX12_isRing 70 = .ok (.iconst 1, 1) := by decide +kernel
theorem d_X12_isRing_71 : decode cX12_isRing 71 = .ok (.goto 4, 3) := by decide +kernel
theorem d_X12_isRing_74 : decode cX12_isRing 74 = .ok (.iconst 0, 1) := by decide +kernel
theorem d_X12_isRing_75 : decode cX12_isRing 75 = .ok (.isub, 1) := by decide +kernel
theorem d_X12_isRing_76 : decode cX12_isRing 76 = .ok (.imul, 1) := by decide +kernel
theorem d_X12_isRing_77 : decode cX12_isRing 77 = .ok (.iadd, 1) := by decide +kernel
theorem d_X12_isRing_78 : decode cX12_isRing 78 = .ok (.istore 4, 2) := by decide +kernel
theorem d_X12_isRing_80 : decode cX12_isRing 80 = .ok (.iinc 5 1, 3) := by decide +kernel
theorem d_X12_isRing_83 : decode cX12_isRing 83 = .ok (.goto (-65), 3) := by decide +kernel
theorem d_X12_isRing_86 : decode cX12_isRing 86 = .ok (.iload_n 2, 1) := by decide +kernel
theorem d_X12_isRing_87 : decode cX12_isRing 87 = .ok (.ifCond .eq 12, 3) := by decide +kernel
theorem d_X12_isRing_90 : decode cX12_isRing 90 = .ok (.iload 4, 2) := by decide +kernel
theorem d_X12_isRing_92 : decode cX12_isRing 92 = .ok (.ifCond .ne 7, 3) := by decide +kernel
theorem d_X12_isRing_95 : decode cX12_isRing 95 = .ok (.iconst 1, 1) := by decide +kernel
theorem d_X12_isRing_96 : decode cX12_isRing 96 = .ok (.goto 4, 3) := by decide +kernel
theorem d_X12_isRing_99 : decode cX12_isRing 99 = .ok (.iconst 0, 1) := by decide +kernel
theorem d_X12_isRing_100 : decode cX12_isRing 100 = .ok (.istore_n 2, 1) := by decide +kernel
theorem d_X12_isRing_101 : decode cX12_isRing 101 = .ok (.iinc 3 1, 3) := by decide +kernel
theorem d_X12_isRing_104 : decode cX12_isRing 104 = .ok (.goto (-100), 3) := by decide +kernel
theorem d_X12_isRing_107 : decode cX12_isRing 107 = .ok (.iload_n 2, 1) := by decide +kernel
theorem d_X12_isRing_108 : decode cX12_isRing 108 = .ok (.ireturn, 1) := by decide +kernel
theorem s_X12_isRing_j80_18 {G : Gl} (hG : G.1.stackTraces = false) {C : Cx} {n : Nat} {μ : Mem} {l1 : Int32} {l2 : Bool} {l3 : Int32} {l4 : Int32} {l5 : Int32} {y : ((Int32 × Int32) ⊕ Int32)} (hf : f_X12_isRing_j80_18 μ l1 l2 l3 l4 l5 = some y) (hK : (∀ z', y = .inl z' → ∀ n, V G C F_X12_isRing 18 [some (.ref (G.2.1 + 264)), some (.int l1), some (.int (b2i l2)), some (.int l3), some (.int z'.1), some (.int z'.2)] [] (pic G μ) n 0 0) ∧ (∀ x', y = .inr x' → ∀ n, V G C F_X12_isRing 86 [some (.ref (G.2.1 + 264)), some (.int l1), some (.int (b2i l2)), some (.int l3), some (.int x'), none] [] (pic G μ) n 0 0)) : V G C F_X12_isRing 80 [some (.ref (G.2.1 + 264)), some (.int l1), some (.int (b2i l2)), some (.int l3), some (.int l4), some (.int l5)] [] (pic G μ) n 0 0 := by
  unfold f_X12_isRing_j80_18 at hf
  refine V_iinc (v := (l5 + 1)) (ls' := [_, _, _, _, _, _]) d_X12_isRing_80 rfl (by rw [ic_1]) rfl ?_
  refine V_goto (tgt := 18) d_X12_isRing_83 (by decide) ?_
  refine V_less (ls' := [some _, some _, some _, some _, some _, some _]) ⟨rfl, rfl, rfl, rfl, rfl, rfl, trivial⟩ ?_
  cases hf
  exact hK.1 _ rfl _
theorem s_X12_isRing_b18 {G : Gl} (hG : G.1.stackTraces = false) {C : Cx} {n : Nat} {μ : Mem} {l1 : Int32} {l2 : Bool} {l3 : Int32} {l4 : Int32} {l5 : Int32} {y : ((Int32 × Int32) ⊕ Int32)} (hf : f_X12_isRing_b18 μ l1 l2 l3 l4 l5 = some y) (hK : (∀ z', y = .inl z' → ∀ n, V G C F_X12_isRing 18 [some (.ref (G.2.1 + 264)), some (.int l1), some (.int (b2i l2)), some (.int l3), some (.int z'.1), some (.int z'.2)] [] (pic G μ) n 0 0) ∧ (∀ x', y = .inr x' → ∀ n, V G C F_X12_isRing 86 [some (.ref (G.2.1 + 264)), some (.int l1), some (.int (b2i l2)), some (.int l3), some (.int x'), none] [] (pic G μ) n 0 0)) : V G C F_X12_isRing 18 [some (.ref (G.2.1 + 264)), some (.int l1), some (.int (b2i l2)), some (.int l3), some (.int l4), some (.int l5)] [] (pic G μ) n 0 0 := by
  unfold f_X12_isRing_b18 at hf
  refine V_iload d_X12_isRing_18 rfl ?_
  refine V_aload_n d_X12_isRing_20 rfl rfl ?_
  obtain ⟨t1, ht1, hf⟩ := ob hf
  refine B_callV1 (s_X12_laces hG ht1) k_264 clX12 m_X12_laces kv_RX12_77 d_X12_isRing_21 rfl (Nat.le_of_ble_eq_true rfl) ⟨rfl, rfl, Nat.le_of_ble_eq_true rfl, Nat.le_of_ble_eq_true rfl, Nat.le_of_ble_eq_true rfl⟩ (fun n => ?_)
  refine V_icmp_ge (tgt := 86) d_X12_isRing_24 (by decide) (fun c24 => ?_) (fun c24 => ?_)
  · replace hf := iteT c24 hf
    refine V_less (ls' := [some _, some _, some _, some _, some _, none]) ⟨rfl, rfl, rfl, rfl, rfl, trivial⟩ ?_
    cases hf
    exact hK.2 _ rfl _
  · replace hf := iteF c24 hf
    refine V_iload_n d_X12_isRing_27 rfl rfl ?_
    refine V_iload d_X12_isRing_28 rfl ?_
    obtain ⟨t2, ht2, hf⟩ := ob hf
    refine B_callS1 (s_X12_has hG ht2) m_X12_has ks_RX12_380 d_X12_isRing_30 rfl (Nat.le_of_ble_eq_true rfl) ⟨rfl, rfl, Nat.le_of_ble_eq_true rfl, Nat.le_of_ble_eq_true rfl, Nat.le_of_ble_eq_true rfl⟩ (fun n => ?_)
    refine V_if_eq (tgt := 80) d_X12_isRing_33 (by decide) (fun c33 => ?_) (fun c33 => ?_)
    · replace hf := iteF (b2i_nt (b2i_eq0 c33)) hf
      refine V_less (ls' := [some _, some _, some _, some _, some _, some _]) ⟨rfl, rfl, rfl, rfl, rfl, rfl, trivial⟩ ?_
      exact s_X12_isRing_j80_18 hG hf hK
    · replace hf := iteT (b2i_ne0 c33) hf
      refine V_iload d_X12_isRing_36 rfl ?_
      refine V_aload_n d_X12_isRing_38 rfl rfl ?_
      refine V_iload d_X12_isRing_39 rfl ?_
      refine V_iconst (v := 2) d_X12_isRing_41 ic_2 ?_
      obtain ⟨t3, ht3, hf⟩ := ob hf
      refine B_callV1 (s_X12_ofLace hG ht3) k_264 clX12 m_X12_ofLace kv_RX12_70 d_X12_isRing_42 rfl (Nat.le_of_ble_eq_true rfl) ⟨rfl, rfl, Nat.le_of_ble_eq_true rfl, Nat.le_of_ble_eq_true rfl, Nat.le_of_ble_eq_true rfl⟩ (fun n => ?_)
      refine V_iload d_X12_isRing_45 rfl ?_
      obtain ⟨t4, ht4, hf⟩ := ob hf
      refine B_callS1 (s_X12_ownerOf hG ht4) m_X12_ownerOf ks_RX12_144 d_X12_isRing_47 rfl (Nat.le_of_ble_eq_true rfl) ⟨rfl, rfl, Nat.le_of_ble_eq_true rfl, Nat.le_of_ble_eq_true rfl, Nat.le_of_ble_eq_true rfl⟩ (fun n => ?_)
      refine V_iload_n d_X12_isRing_50 rfl rfl ?_
      have hJj5 : ∀ j5 : Bool, j5 = (if t4 = l3 then (true : Bool) else false) → V G C F_X12_isRing 59 [some (.ref (G.2.1 + 264)), some (.int l1), some (.int (b2i l2)), some (.int l3), none, some (.int l5)] [.int (b2i j5), .int t3, .int l4] (pic G μ) n 0 0 := by
        intro j5 ej5
        subst ej5
        refine V_aload_n d_X12_isRing_59 rfl rfl ?_
        refine V_iload d_X12_isRing_60 rfl ?_
        refine V_iconst (v := 1) d_X12_isRing_62 ic_1 ?_
        obtain ⟨t6, ht6, hf⟩ := ob hf
        refine B_callV1 (s_X12_ofLace hG ht6) k_264 clX12 m_X12_ofLace kv_RX12_70 d_X12_isRing_63 rfl (Nat.le_of_ble_eq_true rfl) ⟨rfl, rfl, Nat.le_of_ble_eq_true rfl, Nat.le_of_ble_eq_true rfl, Nat.le_of_ble_eq_true rfl⟩ (fun n => ?_)
        refine V_iload_n d_X12_isRing_66 rfl rfl ?_
        have hJj7 : ∀ j7 : Bool, j7 = (if t6 = l3 then (true : Bool) else false) → V G C F_X12_isRing 75 [some (.ref (G.2.1 + 264)), some (.int l1), some (.int (b2i l2)), some (.int l3), none, some (.int l5)] [.int (b2i j7), .int (b2i (if t4 = l3 then (true : Bool) else false)), .int t3, .int l4] (pic G μ) n 0 0 := by
          intro j7 ej7
          subst ej7
          refine V_isub d_X12_isRing_75 ?_
          refine V_imul d_X12_isRing_76 ?_
          refine V_iadd d_X12_isRing_77 ?_
          refine V_istore (ls' := [_, _, _, _, _, _]) d_X12_isRing_78 rfl rfl ?_
          refine V_less (ls' := [some _, some _, some _, some _, some _, some _]) ⟨rfl, rfl, rfl, rfl, rfl, rfl, trivial⟩ ?_
          exact s_X12_isRing_j80_18 hG hf hK
        refine V_icmp_ne (tgt := 74) d_X12_isRing_67 (by decide) (fun c67 => ?_) (fun c67 => ?_)
        · refine V_iconst (v := 0) d_X12_isRing_74 ic_0 ?_
          refine V_less (ls' := [some _, some _, some _, some _, none, some _]) ⟨rfl, rfl, rfl, rfl, rfl, trivial⟩ ?_
          exact hJj7 false (by rw [if_neg c67])
        · refine V_iconst (v := 1) d_X12_isRing_70 ic_1 ?_
          refine V_goto (tgt := 75) d_X12_isRing_71 (by decide) ?_
          refine V_less (ls' := [some _, some _, some _, some _, none, some _]) ⟨rfl, rfl, rfl, rfl, rfl, trivial⟩ ?_
          exact hJj7 true (by rw [if_pos c67])
      refine V_icmp_ne (tgt := 58) d_X12_isRing_51 (by decide) (fun c51 => ?_) (fun c51 => ?_)
      · refine V_iconst (v := 0) d_X12_isRing_58 ic_0 ?_
        refine V_less (ls' := [some _, some _, some _, some _, none, some _]) ⟨rfl, rfl, rfl, rfl, rfl, trivial⟩ ?_
        exact hJj5 false (by rw [if_neg c51])
      · refine V_iconst (v := 1) d_X12_isRing_54 ic_1 ?_
        refine V_goto (tgt := 59) d_X12_isRing_55 (by decide) ?_
        refine V_less (ls' := [some _, some _, some _, some _, none, some _]) ⟨rfl, rfl, rfl, rfl, rfl, trivial⟩ ?_
        exact hJj5 true (by rw [if_pos c51])
theorem s_X12_isRing_j86_4 {G : Gl} (hG : G.1.stackTraces = false) {C : Cx} {n : Nat} {μ : Mem} {l1 : Int32} {l2 : Bool} {l3 : Int32} {l4 : Int32} {y : ((Bool × Int32) ⊕ Bool)} (hf : f_X12_isRing_j86_4 μ l1 l2 l3 l4 = some y) (hK : (∀ z', y = .inl z' → ∀ n, V G C F_X12_isRing 4 [some (.ref (G.2.1 + 264)), some (.int l1), some (.int (b2i z'.1)), some (.int z'.2), none, none] [] (pic G μ) n 0 0) ∧ (∀ x', y = .inr x' → ∀ n, V G C F_X12_isRing 107 [none, none, some (.int (b2i x')), none, none, none] [] (pic G μ) n 0 0)) : V G C F_X12_isRing 86 [some (.ref (G.2.1 + 264)), some (.int l1), some (.int (b2i l2)), some (.int l3), some (.int l4), none] [] (pic G μ) n 0 0 := by
  unfold f_X12_isRing_j86_4 at hf
  refine V_iload_n d_X12_isRing_86 rfl rfl ?_
  have hJj1 : ∀ j1 : Bool, j1 = (if l2 = true then ((if l4 = 0 then (true : Bool) else false) : Bool) else false) → V G C F_X12_isRing 100 [some (.ref (G.2.1 + 264)), some (.int l1), none, some (.int l3), none, none] [.int (b2i j1)] (pic G μ) n 0 0 := by
    intro j1 ej1
    subst ej1
    refine V_istore_n (ls' := [_, _, _, _, _, _]) d_X12_isRing_100 rfl rfl rfl ?_
    refine V_iinc (v := (l3 + 1)) (ls' := [_, _, _, _, _, _]) d_X12_isRing_101 rfl (by rw [ic_1]) rfl ?_
    refine V_goto (tgt := 4) d_X12_isRing_104 (by decide) ?_
    refine V_less (ls' := [some _, some _, some _, some _, none, none]) ⟨rfl, rfl, rfl, rfl, trivial⟩ ?_
    cases hf
    exact hK.1 _ rfl _
  refine V_if_eq (tgt := 99) d_X12_isRing_87 (by decide) (fun c87 => ?_) (fun c87 => ?_)
  · refine V_iconst (v := 0) d_X12_isRing_99 ic_0 ?_
    refine V_less (ls' := [some _, some _, none, some _, none, none]) ⟨rfl, rfl, rfl, trivial⟩ ?_
    exact hJj1 false (by rw [if_neg (b2i_nt (b2i_eq0 c87))])
  · refine V_iload d_X12_isRing_90 rfl ?_
    refine V_if_ne (tgt := 99) d_X12_isRing_92 (by decide) (fun c92 => ?_) (fun c92 => ?_)
    · refine V_iconst (v := 0) d_X12_isRing_99 ic_0 ?_
      refine V_less (ls' := [some _, some _, none, some _, none, none]) ⟨rfl, rfl, rfl, trivial⟩ ?_
      exact hJj1 false (by rw [if_pos (b2i_ne0 c87), if_neg c92])
    · refine V_iconst (v := 1) d_X12_isRing_95 ic_1 ?_
      refine V_goto (tgt := 100) d_X12_isRing_96 (by decide) ?_
      refine V_less (ls' := [some _, some _, none, some _, none, none]) ⟨rfl, rfl, rfl, trivial⟩ ?_
      exact hJj1 true (by rw [if_pos (b2i_ne0 c87), if_pos c92])
theorem s_X12_isRing_l18 {G : Gl} (hG : G.1.stackTraces = false) {C : Cx} {n : Nat} {μ : Mem} {l1 : Int32} {l2 : Bool} {l3 : Int32} {l4 : Int32} {l5 : Int32} {y : ((Bool × Int32) ⊕ Bool)} (hf : f_X12_isRing_l18 μ l1 l2 l3 l4 l5 = some y) (hK : (∀ z', y = .inl z' → ∀ n, V G C F_X12_isRing 4 [some (.ref (G.2.1 + 264)), some (.int l1), some (.int (b2i z'.1)), some (.int z'.2), none, none] [] (pic G μ) n 0 0) ∧ (∀ x', y = .inr x' → ∀ n, V G C F_X12_isRing 107 [none, none, some (.int (b2i x')), none, none, none] [] (pic G μ) n 0 0)) : V G C F_X12_isRing 18 [some (.ref (G.2.1 + 264)), some (.int l1), some (.int (b2i l2)), some (.int l3), some (.int l4), some (.int l5)] [] (pic G μ) n 0 0 := by
  unfold f_X12_isRing_l18 at hf
  obtain ⟨t, hl, hf⟩ := ob hf
  refine loopV (P := fun z => ∀ n, V G C F_X12_isRing 18 [some (.ref (G.2.1 + 264)), some (.int l1), some (.int (b2i l2)), some (.int l3), some (.int z.1), some (.int z.2)] [] (pic G μ) n 0 0) (t := t) ?_ _ _ hl n
  intro z y' hy hI hT n
  refine s_X12_isRing_b18 hG hy ⟨hI, fun x9 ex => ?_⟩
  have ex2 := hT x9 ex
  subst ex2
  intro n
  exact s_X12_isRing_j86_4 hG hf hK
theorem s_X12_isRing_b4 {G : Gl} (hG : G.1.stackTraces = false) {C : Cx} {n : Nat} {μ : Mem} {l1 : Int32} {l2 : Bool} {l3 : Int32} {y : ((Bool × Int32) ⊕ Bool)} (hf : f_X12_isRing_b4 μ l1 l2 l3 = some y) (hK : (∀ z', y = .inl z' → ∀ n, V G C F_X12_isRing 4 [some (.ref (G.2.1 + 264)), some (.int l1), some (.int (b2i z'.1)), some (.int z'.2), none, none] [] (pic G μ) n 0 0) ∧ (∀ x', y = .inr x' → ∀ n, V G C F_X12_isRing 107 [none, none, some (.int (b2i x')), none, none, none] [] (pic G μ) n 0 0)) : V G C F_X12_isRing 4 [some (.ref (G.2.1 + 264)), some (.int l1), some (.int (b2i l2)), some (.int l3), none, none] [] (pic G μ) n 0 0 := by
  unfold f_X12_isRing_b4 at hf
  refine V_iload_n d_X12_isRing_4 rfl rfl ?_
  refine V_aload_n d_X12_isRing_5 rfl rfl ?_
  obtain ⟨t1, ht1, hf⟩ := ob hf
  refine B_callV1 (s_X12_people hG ht1) k_264 clX12 m_X12_people kv_RX12_59 d_X12_isRing_6 rfl (Nat.le_of_ble_eq_true rfl) ⟨rfl, rfl, Nat.le_of_ble_eq_true rfl, Nat.le_of_ble_eq_true rfl, Nat.le_of_ble_eq_true rfl⟩ (fun n => ?_)
  refine V_icmp_ge (tgt := 107) d_X12_isRing_9 (by decide) (fun c9 => ?_) (fun c9 => ?_)
  · replace hf := iteT c9 hf
    refine V_less (ls' := [none, none, some _, none, none, none]) ⟨rfl, trivial⟩ ?_
    cases hf
    exact hK.2 _ rfl _
  · replace hf := iteF c9 hf
    refine V_iconst (v := 0) d_X12_isRing_12 ic_0 ?_
    refine V_istore (ls' := [_, _, _, _, _, _]) d_X12_isRing_13 rfl rfl ?_
    refine V_iconst (v := 0) d_X12_isRing_15 ic_0 ?_
    refine V_istore (ls' := [_, _, _, _, _, _]) d_X12_isRing_16 rfl rfl ?_
    refine V_less (ls' := [some _, some _, some _, some _, some _, some _]) ⟨rfl, rfl, rfl, rfl, rfl, rfl, trivial⟩ ?_
    exact s_X12_isRing_l18 hG hf hK
theorem s_X12_isRing_j107 {G : Gl} (hG : G.1.stackTraces = false) {C : Cx} {n : Nat} {μ : Mem} {l2 : Bool} {r : Bool} (hf : f_X12_isRing_j107 μ l2 = some r) (hK : FinR G C F_X12_isRing (some .boolean) (some (.int (b2i r))) μ) : V G C F_X12_isRing 107 [none, none, some (.int (b2i l2)), none, none, none] [] (pic G μ) n 0 0 := by
  unfold f_X12_isRing_j107 at hf
  refine V_iload_n d_X12_isRing_107 rfl rfl ?_
  cases hf
  exact R_z hK d_X12_isRing_108 (Nat.le_of_ble_eq_true rfl) (Nat.le_of_ble_eq_true rfl)
theorem s_X12_isRing_l4 {G : Gl} (hG : G.1.stackTraces = false) {C : Cx} {n : Nat} {μ : Mem} {l1 : Int32} {l2 : Bool} {l3 : Int32} {r : Bool} (hf : f_X12_isRing_l4 μ l1 l2 l3 = some r) (hK : FinR G C F_X12_isRing (some .boolean) (some (.int (b2i r))) μ) : V G C F_X12_isRing 4 [some (.ref (G.2.1 + 264)), some (.int l1), some (.int (b2i l2)), some (.int l3), none, none] [] (pic G μ) n 0 0 := by
  unfold f_X12_isRing_l4 at hf
  obtain ⟨t, hl, hf⟩ := ob hf
  refine loopV (P := fun z => ∀ n, V G C F_X12_isRing 4 [some (.ref (G.2.1 + 264)), some (.int l1), some (.int (b2i z.1)), some (.int z.2), none, none] [] (pic G μ) n 0 0) (t := t) ?_ _ _ hl n
  intro z y' hy hI hT n
  refine s_X12_isRing_b4 hG hy ⟨hI, fun x9 ex => ?_⟩
  have ex2 := hT x9 ex
  subst ex2
  intro n
  exact s_X12_isRing_j107 hG hf hK
theorem s_X12_isRing_e {G : Gl} (hG : G.1.stackTraces = false) {C : Cx} {n : Nat} {μ : Mem} {p1 : Int32} {r : Bool} (hf : f_X12_isRing μ p1 = some r) (hK : FinR G C F_X12_isRing (some .boolean) (some (.int (b2i r))) μ) : V G C F_X12_isRing 0 [some (.ref (G.2.1 + 264)), some (.int p1), none, none, none, none] [] (pic G μ) n 0 0 := by
  unfold f_X12_isRing at hf
  refine V_iconst (v := 1) d_X12_isRing_0 ic_1 ?_
  refine V_istore_n (ls' := [_, _, _, _, _, _]) d_X12_isRing_1 rfl rfl rfl ?_
  refine V_iconst (v := 0) d_X12_isRing_2 ic_0 ?_
  refine V_istore_n (ls' := [_, _, _, _, _, _]) d_X12_isRing_3 rfl rfl rfl ?_
  refine V_less (ls' := [some _, some _, some _, some _, none, none]) ⟨rfl, rfl, rfl, rfl, trivial⟩ ?_
  exact s_X12_isRing_l4 hG hf hK
theorem s_X12_isRing {G : Gl} (hG : G.1.stackTraces = false) {μ : Mem} {p1 : Int32} {r : Bool} (hf : f_X12_isRing μ p1 = some r) : Rt G yX12_isRing F_X12_isRing (some .boolean) [.ref (G.2.1 + 264), .int p1] μ (some (.int (b2i r))) μ := fun n => Sd.of hG ⟨by decide +kernel, rfl, rfl⟩ rfl (Nat.le_of_ble_eq_true rfl) rfl (fun C hK => s_X12_isRing_e hG hf hK)
theorem d_X12_rings_0 : decode cX12_rings 0 = .ok (.aload_n 0, 1) := by decide +kernel
theorem d_X12_rings_1 : decode cX12_rings 1 = .ok (.iconst 0, 1) := by decide +kernel
theorem d_X12_rings_2 : decode cX12_rings 2 = .ok (.putfield 3, 3) := by decide +kernel
theorem d_X12_rings_5 : decode cX12_rings 5 = .ok (.aload_n 0, 1) := by decide +kernel
theorem d_X12_rings_6 : decode cX12_rings 6 = .ok (.invokevirtual 389, 3) := by decide +kernel
theorem d_X12_rings_9 : decode cX12_rings 9 = .ok (.istore_n 1, 1) := by decide +kernel
theorem d_X12_rings_10 : decode cX12_rings 10 = .ok (.iconst 0, 1) := by decide +kernel
theorem d_X12_rings_11 : decode cX12_rings 11 = .ok (.istore_n 2, 1) := by decide +kernel
theorem d_X12_rings_12 : decode cX12_rings 12 = .ok (.iconst 1, 1) := by decide +kernel
theorem d_X12_rings_13 : decode cX12_rings 13 = .ok (.istore_n 3, 1) := by decide +kernel
theorem d_X12_rings_14 : decode cX12_rings 14 = .ok (.iload_n 3, 1) := by decide +kernel
theorem d_X12_rings_15 : decode cX12_rings 15 = .ok (.iload_n 1, 1) := by decide +kernel
theorem d_X12_rings_16 : decode cX12_rings 16 = .ok (.if_icmp .gt 33, 3) := by decide +kernel
theorem d_X12_rings_19 : decode cX12_rings 19 = .ok (.iload_n 2, 1) := by decide +kernel
theorem d_X12_rings_20 : decode cX12_rings 20 = .ok (.iload_n 3, 1) := by decide +kernel
theorem d_X12_rings_21 : decode cX12_rings 21 = .ok (.iload_n 1, 1) := by decide +kernel
theorem d_X12_rings_22 : decode cX12_rings 22 = .ok (.iconst (-1), 1) := by decide +kernel
theorem d_X12_rings_23 : decode cX12_rings 23 = .ok (.ixor, 1) := by decide +kernel
theorem d_X12_rings_24 : decode cX12_rings 24 = .ok (.iand, 1) := by decide +kernel
theorem d_X12_rings_25 : decode cX12_rings 25 = .ok (.ifCond .ne 15, 3) := by decide +kernel
theorem d_X12_rings_28 : decode cX12_rings 28 = .ok (.aload_n 0, 1) := by decide +kernel
theorem d_X12_rings_29 : decode cX12_rings 29 = .ok (.iload_n 3, 1) := by decide +kernel
theorem d_X12_rings_30 : decode cX12_rings 30 = .ok (.invokevirtual 392, 3) := by decide +kernel
theorem d_X12_rings_33 : decode cX12_rings 33 = .ok (.ifCond .eq 7, 3) := by decide +kernel
theorem d_X12_rings_36 : decode cX12_rings 36 = .ok (.iconst 1, 1) := by decide +kernel
theorem d_X12_rings_37 : decode cX12_rings 37 = .ok (.goto 4, 3) := by decide +kernel
theorem d_X12_rings_40 : decode cX12_rings 40 = .ok (.iconst 0, 1) := by decide +kernel
theorem d_X12_rings_41 : decode cX12_rings 41 = .ok (.iadd, 1) := by decide +kernel
theorem d_X12_rings_42 : decode cX12_rings 42 = .ok (.istore_n 2, 1) := by decide +kernel
theorem d_X12_rings_43 : decode cX12_rings 43 = .ok (.iinc 3 1, 3) := by decide +kernel
theorem d_X12_rings_46 : decode cX12_rings 46 = .ok (.goto (-32), 3) := by decide +kernel
theorem d_X12_rings_49 : decode cX12_rings 49 = .ok (.iload_n 2, 1) := by decide +kernel
theorem d_X12_rings_50 : decode cX12_rings 50 = .ok (.ireturn, 1) := by decide +kernel
theorem s_X12_rings_j41_14 {G : Gl} (hG : G.1.stackTraces = false) {C : Cx} {n : Nat} {μ : Mem} {l1 : Int32} {l3 : Int32} {k0 : Int32} {k1 : Bool} {y : ((Int32 × Int32) ⊕ Int32)} (hf : f_X12_rings_j41_14 μ l1 l3 k0 k1 = some y) (hK : (∀ z', y = .inl z' → ∀ n, V G C F_X12_rings 14 [some (.ref (G.2.1 + 264)), some (.int l1), some (.int z'.1), some (.int z'.2)] [] (pic G μ) n 0 0) ∧ (∀ x', y = .inr x' → ∀ n, V G C F_X12_rings 49 [none, none, some (.int x'), none] [] (pic G μ) n 0 0)) : V G C F_X12_rings 41 [some (.ref (G.2.1 + 264)), some (.int l1), none, some (.int l3)] [.int (b2i k1), .int k0] (pic G μ) n 0 0 := by
  unfold f_X12_rings_j41_14 at hf
  refine V_iadd d_X12_rings_41 ?_
  refine V_istore_n (ls' := [_, _, _, _]) d_X12_rings_42 rfl rfl rfl ?_
  refine V_iinc (v := (l3 + 1)) (ls' := [_, _, _, _]) d_X12_rings_43 rfl (by rw [ic_1]) rfl ?_
  refine V_goto (tgt := 14) d_X12_rings_46 (by decide) ?_
  refine V_less (ls' := [some _, some _, some _, some _]) ⟨rfl, rfl, rfl, rfl, trivial⟩ ?_
  cases hf
  exact hK.1 _ rfl _
theorem s_X12_rings_j40_14 {G : Gl} (hG : G.1.stackTraces = false) {C : Cx} {n : Nat} {μ : Mem} {l1 : Int32} {l3 : Int32} {k0 : Int32} {y : ((Int32 × Int32) ⊕ Int32)} (hf : f_X12_rings_j40_14 μ l1 l3 k0 = some y) (hK : (∀ z', y = .inl z' → ∀ n, V G C F_X12_rings 14 [some (.ref (G.2.1 + 264)), some (.int l1), some (.int z'.1), some (.int z'.2)] [] (pic G μ) n 0 0) ∧ (∀ x', y = .inr x' → ∀ n, V G C F_X12_rings 49 [none, none, some (.int x'), none] [] (pic G μ) n 0 0)) : V G C F_X12_rings 40 [some (.ref (G.2.1 + 264)), some (.int l1), none, some (.int l3)] [.int k0] (pic G μ) n 0 0 := by
  unfold f_X12_rings_j40_14 at hf
  refine V_iconst (v := 0) d_X12_rings_40 ic_0 ?_
  refine V_less (ls' := [some _, some _, none, some _]) ⟨rfl, rfl, rfl, trivial⟩ ?_
  exact s_X12_rings_j41_14 hG hf hK
theorem s_X12_rings_b14 {G : Gl} (hG : G.1.stackTraces = false) {C : Cx} {n : Nat} {μ : Mem} {l1 : Int32} {l2 : Int32} {l3 : Int32} {y : ((Int32 × Int32) ⊕ Int32)} (hf : f_X12_rings_b14 μ l1 l2 l3 = some y) (hK : (∀ z', y = .inl z' → ∀ n, V G C F_X12_rings 14 [some (.ref (G.2.1 + 264)), some (.int l1), some (.int z'.1), some (.int z'.2)] [] (pic G μ) n 0 0) ∧ (∀ x', y = .inr x' → ∀ n, V G C F_X12_rings 49 [none, none, some (.int x'), none] [] (pic G μ) n 0 0)) : V G C F_X12_rings 14 [some (.ref (G.2.1 + 264)), some (.int l1), some (.int l2), some (.int l3)] [] (pic G μ) n 0 0 := by
  unfold f_X12_rings_b14 at hf
  refine V_iload_n d_X12_rings_14 rfl rfl ?_
  refine V_iload_n d_X12_rings_15 rfl rfl ?_
  refine V_icmp_gt (tgt := 49) d_X12_rings_16 (by decide) (fun c16 => ?_) (fun c16 => ?_)
  · replace hf := iteT c16 hf
    refine V_less (ls' := [none, none, some _, none]) ⟨rfl, trivial⟩ ?_
    cases hf
    exact hK.2 _ rfl _
  · replace hf := iteF c16 hf
    refine V_iload_n d_X12_rings_19 rfl rfl ?_
    refine V_iload_n d_X12_rings_20 rfl rfl ?_
    refine V_iload_n d_X12_rings_21 rfl rfl ?_
    refine V_iconst (v := (-1)) d_X12_rings_22 ic_m1 ?_
    refine V_ixor d_X12_rings_23 ?_
    refine V_iand d_X12_rings_24 ?_
    refine V_if_ne (tgt := 40) d_X12_rings_25 (by decide) (fun c25 => ?_) (fun c25 => ?_)
    · replace hf := iteF c25 hf
      refine V_less (ls' := [some _, some _, none, some _]) ⟨rfl, rfl, rfl, trivial⟩ ?_
      exact s_X12_rings_j40_14 hG hf hK
    · replace hf := iteT c25 hf
      refine V_aload_n d_X12_rings_28 rfl rfl ?_
      refine V_iload_n d_X12_rings_29 rfl rfl ?_
      obtain ⟨t1, ht1, hf⟩ := ob hf
      refine B_callV1 (s_X12_isRing hG ht1) k_264 clX12 m_X12_isRing kv_RX12_392 d_X12_rings_30 rfl (Nat.le_of_ble_eq_true rfl) ⟨rfl, rfl, Nat.le_of_ble_eq_true rfl, Nat.le_of_ble_eq_true rfl, Nat.le_of_ble_eq_true rfl⟩ (fun n => ?_)
      have hJj2 : ∀ j2 : Bool, j2 = (if t1 = true then (true : Bool) else false) → V G C F_X12_rings 41 [some (.ref (G.2.1 + 264)), some (.int l1), none, some (.int l3)] [.int (b2i j2), .int l2] (pic G μ) n 0 0 := by
        intro j2 ej2
        subst ej2
        refine V_iadd d_X12_rings_41 ?_
        refine V_istore_n (ls' := [_, _, _, _]) d_X12_rings_42 rfl rfl rfl ?_
        refine V_iinc (v := (l3 + 1)) (ls' := [_, _, _, _]) d_X12_rings_43 rfl (by rw [ic_1]) rfl ?_
        refine V_goto (tgt := 14) d_X12_rings_46 (by decide) ?_
        refine V_less (ls' := [some _, some _, some _, some _]) ⟨rfl, rfl, rfl, rfl, trivial⟩ ?_
        cases hf
        exact hK.1 _ rfl _
      refine V_if_eq (tgt := 40) d_X12_rings_33 (by decide) (fun c33 => ?_) (fun c33 => ?_)
      · refine V_iconst (v := 0) d_X12_rings_40 ic_0 ?_
        refine V_less (ls' := [some _, some _, none, some _]) ⟨rfl, rfl, rfl, trivial⟩ ?_
        exact hJj2 false (by rw [if_neg (b2i_nt (b2i_eq0 c33))])
      · refine V_iconst (v := 1) d_X12_rings_36 ic_1 ?_
        refine V_goto (tgt := 41) d_X12_rings_37 (by decide) ?_
        refine V_less (ls' := [some _, some _, none, some _]) ⟨rfl, rfl, rfl, trivial⟩ ?_
        exact hJj2 true (by rw [if_pos (b2i_ne0 c33)])
theorem s_X12_rings_j49 {G : Gl} (hG : G.1.stackTraces = false) {C : Cx} {n : Nat} {μ : Mem} {l2 : Int32} {r : (Int32 × Mem)} (hf : f_X12_rings_j49 μ l2 = some r) (hK : FinR G C F_X12_rings (some .int) (some (.int r.1)) r.2) : V G C F_X12_rings 49 [none, none, some (.int l2), none] [] (pic G μ) n 0 0 := by
  unfold f_X12_rings_j49 at hf
  refine V_iload_n d_X12_rings_49 rfl rfl ?_
  cases hf
  exact R_i hK d_X12_rings_50 (Nat.le_of_ble_eq_true rfl) (Nat.le_of_ble_eq_true rfl)
theorem s_X12_rings_l14 {G : Gl} (hG : G.1.stackTraces = false) {C : Cx} {n : Nat} {μ : Mem} {l1 : Int32} {l2 : Int32} {l3 : Int32} {r : (Int32 × Mem)} (hf : f_X12_rings_l14 μ l1 l2 l3 = some r) (hK : FinR G C F_X12_rings (some .int) (some (.int r.1)) r.2) : V G C F_X12_rings 14 [some (.ref (G.2.1 + 264)), some (.int l1), some (.int l2), some (.int l3)] [] (pic G μ) n 0 0 := by
  unfold f_X12_rings_l14 at hf
  obtain ⟨t, hl, hf⟩ := ob hf
  refine loopV (P := fun z => ∀ n, V G C F_X12_rings 14 [some (.ref (G.2.1 + 264)), some (.int l1), some (.int z.1), some (.int z.2)] [] (pic G μ) n 0 0) (t := t) ?_ _ _ hl n
  intro z y' hy hI hT n
  refine s_X12_rings_b14 hG hy ⟨hI, fun x9 ex => ?_⟩
  have ex2 := hT x9 ex
  subst ex2
  intro n
  exact s_X12_rings_j49 hG hf hK
theorem s_X12_rings_e {G : Gl} (hG : G.1.stackTraces = false) {C : Cx} {n : Nat} {μ : Mem}  {r : (Int32 × Mem)} (hf : f_X12_rings μ = some r) (hK : FinR G C F_X12_rings (some .int) (some (.int r.1)) r.2) : V G C F_X12_rings 0 [some (.ref (G.2.1 + 264)), none, none, none] [] (pic G μ) n 0 0 := by
  unfold f_X12_rings at hf
  refine V_aload_n d_X12_rings_0 rfl rfl ?_
  refine V_iconst (v := 0) d_X12_rings_1 ic_0 ?_
  refine B_putI k_264 fl_RX12_3 pt_12_0 (Nat.le_of_ble_eq_true rfl) p_12_0 d_X12_rings_2 ?_
  refine V_aload_n d_X12_rings_5 rfl rfl ?_
  obtain ⟨t1, ht1, hf⟩ := ob hf
  refine B_callV1 (s_X12_pledgedOnes hG ht1) k_264 clX12 m_X12_pledgedOnes kv_RX12_389 d_X12_rings_6 rfl (Nat.le_of_ble_eq_true rfl) ⟨rfl, rfl, Nat.le_of_ble_eq_true rfl, Nat.le_of_ble_eq_true rfl, Nat.le_of_ble_eq_true rfl⟩ (fun n => ?_)
  refine V_istore_n (ls' := [_, _, _, _]) d_X12_rings_9 rfl rfl rfl ?_
  refine V_iconst (v := 0) d_X12_rings_10 ic_0 ?_
  refine V_istore_n (ls' := [_, _, _, _]) d_X12_rings_11 rfl rfl rfl ?_
  refine V_iconst (v := 1) d_X12_rings_12 ic_1 ?_
  refine V_istore_n (ls' := [_, _, _, _]) d_X12_rings_13 rfl rfl rfl ?_
  refine V_less (ls' := [some _, some _, some _, some _]) ⟨rfl, rfl, rfl, rfl, trivial⟩ ?_
  exact s_X12_rings_l14 hG hf hK
theorem s_X12_rings {G : Gl} (hG : G.1.stackTraces = false) {μ : Mem} {r : (Int32 × Mem)} (hf : f_X12_rings μ = some r) : Rt G yX12_rings F_X12_rings (some .int) [.ref (G.2.1 + 264)] μ (some (.int r.1)) r.2 := fun n => Sd.of hG ⟨by decide +kernel, rfl, rfl⟩ rfl (Nat.le_of_ble_eq_true rfl) rfl (fun C hK => s_X12_rings_e hG hf hK)
theorem d_X12_untie_0 : decode cX12_untie 0 = .ok (.aload_n 0, 1) := by decide +kernel
theorem d_X12_untie_1 : decode cX12_untie 1 = .ok (.iconst 0, 1) := by decide +kernel
theorem d_X12_untie_2 : decode cX12_untie 2 = .ok (.putfield 3, 3) := by decide +kernel
theorem d_X12_untie_5 : decode cX12_untie 5 = .ok (.aload_n 0, 1) := by decide +kernel
theorem d_X12_untie_6 : decode cX12_untie 6 = .ok (.invokevirtual 389, 3) := by decide +kernel
theorem d_X12_untie_9 : decode cX12_untie 9 = .ok (.istore_n 2, 1) := by decide +kernel
theorem d_X12_untie_10 : decode cX12_untie 10 = .ok (.iconst 0, 1) := by decide +kernel
theorem d_X12_untie_11 : decode cX12_untie 11 = .ok (.istore_n 3, 1) := by decide +kernel
theorem d_X12_untie_12 : decode cX12_untie 12 = .ok (.iconst 1, 1) := by decide +kernel
theorem d_X12_untie_13 : decode cX12_untie 13 = .ok (.istore 4, 2) := by decide +kernel
theorem d_X12_untie_15 : decode cX12_untie 15 = .ok (.iload 4, 2) := by decide +kernel
theorem d_X12_untie_17 : decode cX12_untie 17 = .ok (.iload_n 2, 1) := by decide +kernel
theorem d_X12_untie_18 : decode cX12_untie 18 = .ok (.if_icmp .gt 42, 3) := by decide +kernel
theorem d_X12_untie_21 : decode cX12_untie 21 = .ok (.iload 4, 2) := by decide +kernel
theorem d_X12_untie_23 : decode cX12_untie 23 = .ok (.iload_n 2, 1) := by decide +kernel
theorem d_X12_untie_24 : decode cX12_untie 24 = .ok (.iconst (-1), 1) := by decide +kernel
theorem d_X12_untie_25 : decode cX12_untie 25 = .ok (.ixor, 1) := by decide +kernel
theorem d_X12_untie_26 : decode cX12_untie 26 = .ok (.iand, 1) := by decide +kernel
theorem d_X12_untie_27 : decode cX12_untie 27 = .ok (.ifCond .ne 27, 3) := by decide +kernel
theorem d_X12_untie_30 : decode cX12_untie 30 = .ok (.iload 4, 2) := by decide +kernel
theorem d_X12_untie_32 : decode cX12_untie 32 = .ok (.invokestatic 272, 3) := by decide +kernel
theorem d_X12_untie_35 : decode cX12_untie 35 = .ok (.iload_n 3, 1) := by decide +kernel
theorem d_X12_untie_36 : decode cX12_untie 36 = .ok (.invokestatic 272, 3) := by decide +kernel
theorem d_X12_untie_39 : decode cX12_untie 39 = .ok (.if_icmp .le 15, 3) := by decide +kernel
theorem d_X12_untie_42 : decode cX12_untie 42 = .ok (.aload_n 0, 1) := by decide +kernel
theorem d_X12_untie_43 : decode cX12_untie 43 = .ok (.iload 4, 2) := by decide +kernel
theorem d_X12_untie_45 : decode cX12_untie 45 = .ok (.invokevirtual 392, 3) := by decide +kernel
theorem d_X12_untie_48 : decode cX12_untie 48 = .ok (.ifCond .eq 6, 3) := by decide +kernel
theorem d_X12_untie_51 : decode cX12_untie 51 = .ok (.iload 4, 2) := by decide +kernel
theorem d_X12_untie_53 : decode cX12_untie 53 = .ok (.istore_n 3, 1) := by decide +kernel
theorem d_X12_untie_54 : decode cX12_untie 54 = .ok (.iinc 4 1, 3) := by decide +kernel
theorem d_X12_untie_57 : decode cX12_untie 57 = .ok (.goto (-42), 3) := by decide +kernel
theorem d_X12_untie_60 : decode cX12_untie 60 = .ok (.iload_n 1, 1) := by decide +kernel
theorem d_X12_untie_61 : decode cX12_untie 61 = .ok (.ifCond .eq 10, 3) := by decide +kernel
theorem d_X12_untie_64 : decode cX12_untie 64 = .ok (.iload_n 3, 1) := by decide +kernel
theorem d_X12_untie_65 : decode cX12_untie 65 = .ok (.invokestatic 272, 3) := by decide +kernel
theorem d_X12_untie_68 : decode cX12_untie 68 = .ok (.goto 4, 3) := by decide +kernel
theorem d_X12_untie_71 : decode cX12_untie 71 = .ok (.iload_n 3, 1) := by decide +kernel
theorem d_X12_untie_72 : decode cX12_untie 72 = .ok (.ireturn, 1) := by decide +kernel
theorem s_X12_untie_j54_15 {G : Gl} (hG : G.1.stackTraces = false) {C : Cx} {n : Nat} {μ : Mem} {l1 : Bool} {l2 : Int32} {l3 : Int32} {l4 : Int32} {y : ((Int32 × Int32) ⊕ Int32)} (hf : f_X12_untie_j54_15 μ l1 l2 l3 l4 = some y) (hK : (∀ z', y = .inl z' → ∀ n, V G C F_X12_untie 15 [some (.ref (G.2.1 + 264)), some (.int (b2i l1)), some (.int l2), some (.int z'.1), some (.int z'.2)] [] (pic G μ) n 0 0) ∧ (∀ x', y = .inr x' → ∀ n, V G C F_X12_untie 60 [none, some (.int (b2i l1)), none, some (.int x'), none] [] (pic G μ) n 0 0)) : V G C F_X12_untie 54 [some (.ref (G.2.1 + 264)), some (.int (b2i l1)), some (.int l2), some (.int l3), some (.int l4)] [] (pic G μ) n 0 0 := by
  unfold f_X12_untie_j54_15 at hf
  refine V_iinc (v := (l4 + 1)) (ls' := [_, _, _, _, _]) d_X12_untie_54 rfl (by rw [ic_1]) rfl ?_
  refine V_goto (tgt := 15) d_X12_untie_57 (by decide) ?_
  refine V_less (ls' := [some _, some _, some _, some _, some _]) ⟨rfl, rfl, rfl, rfl, rfl, trivial⟩ ?_
  cases hf
  exact hK.1 _ rfl _
theorem s_X12_untie_b15 {G : Gl} (hG : G.1.stackTraces = false) {C : Cx} {n : Nat} {μ : Mem} {l1 : Bool} {l2 : Int32} {l3 : Int32} {l4 : Int32} {y : ((Int32 × Int32) ⊕ Int32)} (hf : f_X12_untie_b15 μ l1 l2 l3 l4 = some y) (hK : (∀ z', y = .inl z' → ∀ n, V G C F_X12_untie 15 [some (.ref (G.2.1 + 264)), some (.int (b2i l1)), some (.int l2), some (.int z'.1), some (.int z'.2)] [] (pic G μ) n 0 0) ∧ (∀ x', y = .inr x' → ∀ n, V G C F_X12_untie 60 [none, some (.int (b2i l1)), none, some (.int x'), none] [] (pic G μ) n 0 0)) : V G C F_X12_untie 15 [some (.ref (G.2.1 + 264)), some (.int (b2i l1)), some (.int l2), some (.int l3), some (.int l4)] [] (pic G μ) n 0 0 := by
  unfold f_X12_untie_b15 at hf
  refine V_iload d_X12_untie_15 rfl ?_
  refine V_iload_n d_X12_untie_17 rfl rfl ?_
  refine V_icmp_gt (tgt := 60) d_X12_untie_18 (by decide) (fun c18 => ?_) (fun c18 => ?_)
  · replace hf := iteT c18 hf
    refine V_less (ls' := [none, some _, none, some _, none]) ⟨rfl, rfl, trivial⟩ ?_
    cases hf
    exact hK.2 _ rfl _
  · replace hf := iteF c18 hf
    refine V_iload d_X12_untie_21 rfl ?_
    refine V_iload_n d_X12_untie_23 rfl rfl ?_
    refine V_iconst (v := (-1)) d_X12_untie_24 ic_m1 ?_
    refine V_ixor d_X12_untie_25 ?_
    refine V_iand d_X12_untie_26 ?_
    refine V_if_ne (tgt := 54) d_X12_untie_27 (by decide) (fun c27 => ?_) (fun c27 => ?_)
    · replace hf := iteF c27 hf
      refine V_less (ls' := [some _, some _, some _, some _, some _]) ⟨rfl, rfl, rfl, rfl, rfl, trivial⟩ ?_
      exact s_X12_untie_j54_15 hG hf hK
    · replace hf := iteT c27 hf
      refine V_iload d_X12_untie_30 rfl ?_
      obtain ⟨t1, ht1, hf⟩ := ob hf
      refine B_callS1 (s_J6_bitCount_0f7a4 hG ht1) m_J6_bitCount_0f7a4 ks_RX12_272 d_X12_untie_32 rfl (Nat.le_of_ble_eq_true rfl) ⟨rfl, rfl, Nat.le_of_ble_eq_true rfl, Nat.le_of_ble_eq_true rfl, Nat.le_of_ble_eq_true rfl⟩ (fun n => ?_)
      refine V_iload_n d_X12_untie_35 rfl rfl ?_
      obtain ⟨t2, ht2, hf⟩ := ob hf
      refine B_callS1 (s_J6_bitCount_0f7a4 hG ht2) m_J6_bitCount_0f7a4 ks_RX12_272 d_X12_untie_36 rfl (Nat.le_of_ble_eq_true rfl) ⟨rfl, rfl, Nat.le_of_ble_eq_true rfl, Nat.le_of_ble_eq_true rfl, Nat.le_of_ble_eq_true rfl⟩ (fun n => ?_)
      refine V_icmp_le (tgt := 54) d_X12_untie_39 (by decide) (fun c39 => ?_) (fun c39 => ?_)
      · replace hf := iteT c39 hf
        refine V_less (ls' := [some _, some _, some _, some _, some _]) ⟨rfl, rfl, rfl, rfl, rfl, trivial⟩ ?_
        exact s_X12_untie_j54_15 hG hf hK
      · replace hf := iteF c39 hf
        refine V_aload_n d_X12_untie_42 rfl rfl ?_
        refine V_iload d_X12_untie_43 rfl ?_
        obtain ⟨t3, ht3, hf⟩ := ob hf
        refine B_callV1 (s_X12_isRing hG ht3) k_264 clX12 m_X12_isRing kv_RX12_392 d_X12_untie_45 rfl (Nat.le_of_ble_eq_true rfl) ⟨rfl, rfl, Nat.le_of_ble_eq_true rfl, Nat.le_of_ble_eq_true rfl, Nat.le_of_ble_eq_true rfl⟩ (fun n => ?_)
        have hJj4 : ∀ j4 : Int32, j4 = (if t3 = true then (l4 : Int32) else l3) → V G C F_X12_untie 54 [some (.ref (G.2.1 + 264)), some (.int (b2i l1)), some (.int l2), some (.int j4), some (.int l4)] [] (pic G μ) n 0 0 := by
          intro j4 ej4
          subst ej4
          refine V_iinc (v := (l4 + 1)) (ls' := [_, _, _, _, _]) d_X12_untie_54 rfl (by rw [ic_1]) rfl ?_
          refine V_goto (tgt := 15) d_X12_untie_57 (by decide) ?_
          refine V_less (ls' := [some _, some _, some _, some _, some _]) ⟨rfl, rfl, rfl, rfl, rfl, trivial⟩ ?_
          cases hf
          exact hK.1 _ rfl _
        refine V_if_eq (tgt := 54) d_X12_untie_48 (by decide) (fun c48 => ?_) (fun c48 => ?_)
        · refine V_less (ls' := [some _, some _, some _, some _, some _]) ⟨rfl, rfl, rfl, rfl, rfl, trivial⟩ ?_
          exact hJj4 l3 (by rw [if_neg (b2i_nt (b2i_eq0 c48))])
        · refine V_iload d_X12_untie_51 rfl ?_
          refine V_istore_n (ls' := [_, _, _, _, _]) d_X12_untie_53 rfl rfl rfl ?_
          refine V_less (ls' := [some _, some _, some _, some _, some _]) ⟨rfl, rfl, rfl, rfl, rfl, trivial⟩ ?_
          exact hJj4 l4 (by rw [if_pos (b2i_ne0 c48)])
theorem s_X12_untie_j72 {G : Gl} (hG : G.1.stackTraces = false) {C : Cx} {n : Nat} {μ : Mem} {k0 : Int32} {r : (Int32 × Mem)} (hf : f_X12_untie_j72 μ k0 = some r) (hK : FinR G C F_X12_untie (some .int) (some (.int r.1)) r.2) : V G C F_X12_untie 72 [none, none, none, none, none] [.int k0] (pic G μ) n 0 0 := by
  unfold f_X12_untie_j72 at hf
  cases hf
  exact R_i hK d_X12_untie_72 (Nat.le_of_ble_eq_true rfl) (Nat.le_of_ble_eq_true rfl)
theorem s_X12_untie_j60 {G : Gl} (hG : G.1.stackTraces = false) {C : Cx} {n : Nat} {μ : Mem} {l1 : Bool} {l3 : Int32} {r : (Int32 × Mem)} (hf : f_X12_untie_j60 μ l1 l3 = some r) (hK : FinR G C F_X12_untie (some .int) (some (.int r.1)) r.2) : V G C F_X12_untie 60 [none, some (.int (b2i l1)), none, some (.int l3), none] [] (pic G μ) n 0 0 := by
  unfold f_X12_untie_j60 at hf
  refine V_iload_n d_X12_untie_60 rfl rfl ?_
  refine V_if_eq (tgt := 71) d_X12_untie_61 (by decide) (fun c61 => ?_) (fun c61 => ?_)
  · replace hf := iteF (b2i_nt (b2i_eq0 c61)) hf
    refine V_iload_n d_X12_untie_71 rfl rfl ?_
    refine V_less (ls' := [none, none, none, none, none]) trivial ?_
    exact s_X12_untie_j72 hG hf hK
  · replace hf := iteT (b2i_ne0 c61) hf
    refine V_iload_n d_X12_untie_64 rfl rfl ?_
    obtain ⟨t1, ht1, hf⟩ := ob hf
    refine B_callS1 (s_J6_bitCount_0f7a4 hG ht1) m_J6_bitCount_0f7a4 ks_RX12_272 d_X12_untie_65 rfl (Nat.le_of_ble_eq_true rfl) ⟨rfl, rfl, Nat.le_of_ble_eq_true rfl, Nat.le_of_ble_eq_true rfl, Nat.le_of_ble_eq_true rfl⟩ (fun n => ?_)
    refine V_goto (tgt := 72) d_X12_untie_68 (by decide) ?_
    refine V_less (ls' := [none, none, none, none, none]) trivial ?_
    exact s_X12_untie_j72 hG hf hK
theorem s_X12_untie_l15 {G : Gl} (hG : G.1.stackTraces = false) {C : Cx} {n : Nat} {μ : Mem} {l1 : Bool} {l2 : Int32} {l3 : Int32} {l4 : Int32} {r : (Int32 × Mem)} (hf : f_X12_untie_l15 μ l1 l2 l3 l4 = some r) (hK : FinR G C F_X12_untie (some .int) (some (.int r.1)) r.2) : V G C F_X12_untie 15 [some (.ref (G.2.1 + 264)), some (.int (b2i l1)), some (.int l2), some (.int l3), some (.int l4)] [] (pic G μ) n 0 0 := by
  unfold f_X12_untie_l15 at hf
  obtain ⟨t, hl, hf⟩ := ob hf
  refine loopV (P := fun z => ∀ n, V G C F_X12_untie 15 [some (.ref (G.2.1 + 264)), some (.int (b2i l1)), some (.int l2), some (.int z.1), some (.int z.2)] [] (pic G μ) n 0 0) (t := t) ?_ _ _ hl n
  intro z y' hy hI hT n
  refine s_X12_untie_b15 hG hy ⟨hI, fun x9 ex => ?_⟩
  have ex2 := hT x9 ex
  subst ex2
  intro n
  exact s_X12_untie_j60 hG hf hK
theorem s_X12_untie_e {G : Gl} (hG : G.1.stackTraces = false) {C : Cx} {n : Nat} {μ : Mem} {p1 : Bool} {r : (Int32 × Mem)} (hf : f_X12_untie μ p1 = some r) (hK : FinR G C F_X12_untie (some .int) (some (.int r.1)) r.2) : V G C F_X12_untie 0 [some (.ref (G.2.1 + 264)), some (.int (b2i p1)), none, none, none] [] (pic G μ) n 0 0 := by
  unfold f_X12_untie at hf
  refine V_aload_n d_X12_untie_0 rfl rfl ?_
  refine V_iconst (v := 0) d_X12_untie_1 ic_0 ?_
  refine B_putI k_264 fl_RX12_3 pt_12_0 (Nat.le_of_ble_eq_true rfl) p_12_0 d_X12_untie_2 ?_
  refine V_aload_n d_X12_untie_5 rfl rfl ?_
  obtain ⟨t1, ht1, hf⟩ := ob hf
  refine B_callV1 (s_X12_pledgedOnes hG ht1) k_264 clX12 m_X12_pledgedOnes kv_RX12_389 d_X12_untie_6 rfl (Nat.le_of_ble_eq_true rfl) ⟨rfl, rfl, Nat.le_of_ble_eq_true rfl, Nat.le_of_ble_eq_true rfl, Nat.le_of_ble_eq_true rfl⟩ (fun n => ?_)
  refine V_istore_n (ls' := [_, _, _, _, _]) d_X12_untie_9 rfl rfl rfl ?_
  refine V_iconst (v := 0) d_X12_untie_10 ic_0 ?_
  refine V_istore_n (ls' := [_, _, _, _, _]) d_X12_untie_11 rfl rfl rfl ?_
  refine V_iconst (v := 1) d_X12_untie_12 ic_1 ?_
  refine V_istore (ls' := [_, _, _, _, _]) d_X12_untie_13 rfl rfl ?_
  refine V_less (ls' := [some _, some _, some _, some _, some _]) ⟨rfl, rfl, rfl, rfl, rfl, trivial⟩ ?_
  exact s_X12_untie_l15 hG hf hK
theorem s_X12_untie {G : Gl} (hG : G.1.stackTraces = false) {μ : Mem} {p1 : Bool} {r : (Int32 × Mem)} (hf : f_X12_untie μ p1 = some r) : Rt G yX12_untie F_X12_untie (some .int) [.ref (G.2.1 + 264), .int (b2i p1)] μ (some (.int r.1)) r.2 := fun n => Sd.of hG ⟨by decide +kernel, rfl, rfl⟩ rfl (Nat.le_of_ble_eq_true rfl) rfl (fun C hK => s_X12_untie_e hG hf hK)
theorem d_X12_holdersOf_0 : decode cX12_holdersOf 0 = .ok (.iconst 0, 1) := by decide +kernel
theorem d_X12_holdersOf_1 : decode cX12_holdersOf 1 = .ok (.istore_n 2, 1) := by decide +kernel
theorem d_X12_holdersOf_2 : decode cX12_holdersOf 2 = .ok (.iconst 0, 1) := by decide +kernel
theorem d_X12_holdersOf_3 : decode cX12_holdersOf 3 = .ok (.istore_n 3, 1) := by decide +kernel
theorem d_X12_holdersOf_4 : decode cX12_holdersOf 4 = .ok (.iload_n 3, 1) := by decide +kernel
theorem d_X12_holdersOf_5 : decode cX12_holdersOf 5 = .ok (.aload_n 0, 1) := by decide +kernel
theorem d_X12_holdersOf_6 : decode cX12_holdersOf 6 = .ok (.invokevirtual 77, 3) := by decide +kernel
theorem d_X12_holdersOf_9 : decode cX12_holdersOf 9 = .ok (.if_icmp .ge 43, 3) := by decide +kernel
theorem d_X12_holdersOf_12 : decode cX12_holdersOf 12 = .ok (.iload_n 2, 1) := by decide +kernel
theorem d_X12_holdersOf_13 : decode cX12_holdersOf 13 = .ok (.aload_n 0, 1) := by decide +kernel
theorem d_X12_holdersOf_14 : decode cX12_holdersOf 14 = .ok (.iload_n 3, 1) := by decide +kernel
theorem d_X12_holdersOf_15 : decode cX12_holdersOf 15 = .ok (.invokevirtual 296, 3) := by decide +kernel
theorem d_X12_holdersOf_18 : decode cX12_holdersOf 18 = .ok (.ifCond .eq 25, 3) := by decide +kernel
theorem d_X12_holdersOf_21 : decode cX12_holdersOf 21 = .ok (.iload_n 1, 1) := by decide +kernel
theorem d_X12_holdersOf_22 : decode cX12_holdersOf 22 = .ok (.iload_n 3, 1) := by decide +kernel
theorem d_X12_holdersOf_23 : decode cX12_holdersOf 23 = .ok (.invokestatic 144, 3) := by decide +kernel
theorem d_X12_holdersOf_26 : decode cX12_holdersOf 26 = .ok (.invokestatic 380, 3) := by decide +kernel
theorem d_X12_holdersOf_29 : decode cX12_holdersOf 29 = .ok (.ifCond .eq 14, 3) := by decide +kernel
theorem d_X12_holdersOf_32 : decode cX12_holdersOf 32 = .ok (.iconst 1, 1) := by decide +kernel
theorem d_X12_holdersOf_33 : decode cX12_holdersOf 33 = .ok (.aload_n 0, 1) := by decide +kernel
theorem d_X12_holdersOf_34 : decode cX12_holdersOf 34 = .ok (.iload_n 3, 1) := by decide +kernel
theorem d_X12_holdersOf_35 : decode cX12_holdersOf 35 = .ok (.iconst 1, 1) := by decide +kernel
theorem d_X12_holdersOf_36 : decode cX12_holdersOf 36 = .ok (.invokevirtual 70, 3) := by decide +kernel
theorem d_X12_holdersOf_39 : decode cX12_holdersOf 39 = .ok (.ishl, 1) := by decide +kernel
theorem d_X12_holdersOf_40 : decode cX12_holdersOf 40 = .ok (.goto 4, 3) := by decide +kernel
theorem d_X12_holdersOf_43 : decode cX12_holdersOf 43 = .ok (.iconst 0, 1) := by decide +kernel
theorem d_X12_holdersOf_44 : decode cX12_holdersOf 44 = .ok (.ior, 1) := by decide +kernel
theorem d_X12_holdersOf_45 : decode cX12_holdersOf 45 = .ok (.istore_n 2, 1) := by decide +kernel
theorem d_X12_holdersOf_46 : decode cX12_holdersOf 46 = .ok (.iinc 3 1, 3) := by decide +kernel
theorem d_X12_holdersOf_49 : decode cX12_holdersOf 49 = .ok (.goto (-45), 3) := by decide +kernel
theorem d_X12_holdersOf_52 : decode cX12_holdersOf 52 = .ok (.iload_n 2, 1) := by decide +kernel
theorem d_X12_holdersOf_53 : decode cX12_holdersOf 53 = .ok (.ireturn, 1) := by decide +kernel
theorem s_X12_holdersOf_j44_4 {G : Gl} (hG : G.1.stackTraces = false) {C : Cx} {n : Nat} {μ : Mem} {l1 : Int32} {l3 : Int32} {k0 : Int32} {k1 : Int32} {y : ((Int32 × Int32) ⊕ Int32)} (hf : f_X12_holdersOf_j44_4 μ l1 l3 k0 k1 = some y) (hK : (∀ z', y = .inl z' → ∀ n, V G C F_X12_holdersOf 4 [some (.ref (G.2.1 + 264)), some (.int l1), some (.int z'.1), some (.int z'.2)] [] (pic G μ) n 0 0) ∧ (∀ x', y = .inr x' → ∀ n, V G C F_X12_holdersOf 52 [none, none, some (.int x'), none] [] (pic G μ) n 0 0)) : V G C F_X12_holdersOf 44 [some (.ref (G.2.1 + 264)), some (.int l1), none, some (.int l3)] [.int k1, .int k0] (pic G μ) n 0 0 := by
  unfold f_X12_holdersOf_j44_4 at hf
  refine V_ior d_X12_holdersOf_44 ?_
  refine V_istore_n (ls' := [_, _, _, _]) d_X12_holdersOf_45 rfl rfl rfl ?_
  refine V_iinc (v := (l3 + 1)) (ls' := [_, _, _, _]) d_X12_holdersOf_46 rfl (by rw [ic_1]) rfl ?_
  refine V_goto (tgt := 4) d_X12_holdersOf_49 (by decide) ?_
  refine V_less (ls' := [some _, some _, some _, some _]) ⟨rfl, rfl, rfl, rfl, trivial⟩ ?_
  cases hf
  exact hK.1 _ rfl _
theorem s_X12_holdersOf_j43_4 {G : Gl} (hG : G.1.stackTraces = false) {C : Cx} {n : Nat} {μ : Mem} {l1 : Int32} {l3 : Int32} {k0 : Int32} {y : ((Int32 × Int32) ⊕ Int32)} (hf : f_X12_holdersOf_j43_4 μ l1 l3 k0 = some y) (hK : (∀ z', y = .inl z' → ∀ n, V G C F_X12_holdersOf 4 [some (.ref (G.2.1 + 264)), some (.int l1), some (.int z'.1), some (.int z'.2)] [] (pic G μ) n 0 0) ∧ (∀ x', y = .inr x' → ∀ n, V G C F_X12_holdersOf 52 [none, none, some (.int x'), none] [] (pic G μ) n 0 0)) : V G C F_X12_holdersOf 43 [some (.ref (G.2.1 + 264)), some (.int l1), none, some (.int l3)] [.int k0] (pic G μ) n 0 0 := by
  unfold f_X12_holdersOf_j43_4 at hf
  refine V_iconst (v := 0) d_X12_holdersOf_43 ic_0 ?_
  refine V_less (ls' := [some _, some _, none, some _]) ⟨rfl, rfl, rfl, trivial⟩ ?_
  exact s_X12_holdersOf_j44_4 hG hf hK
theorem s_X12_holdersOf_b4 {G : Gl} (hG : G.1.stackTraces = false) {C : Cx} {n : Nat} {μ : Mem} {l1 : Int32} {l2 : Int32} {l3 : Int32} {y : ((Int32 × Int32) ⊕ Int32)} (hf : f_X12_holdersOf_b4 μ l1 l2 l3 = some y) (hK : (∀ z', y = .inl z' → ∀ n, V G C F_X12_holdersOf 4 [some (.ref (G.2.1 + 264)), some (.int l1), some (.int z'.1), some (.int z'.2)] [] (pic G μ) n 0 0) ∧ (∀ x', y = .inr x' → ∀ n, V G C F_X12_holdersOf 52 [none, none, some (.int x'), none] [] (pic G μ) n 0 0)) : V G C F_X12_holdersOf 4 [some (.ref (G.2.1 + 264)), some (.int l1), some (.int l2), some (.int l3)] [] (pic G μ) n 0 0 := by
  unfold f_X12_holdersOf_b4 at hf
  refine V_iload_n d_X12_holdersOf_4 rfl rfl ?_
  refine V_aload_n d_X12_holdersOf_5 rfl rfl ?_
  obtain ⟨t1, ht1, hf⟩ := ob hf
  refine B_callV1 (s_X12_laces hG ht1) k_264 clX12 m_X12_laces kv_RX12_77 d_X12_holdersOf_6 rfl (Nat.le_of_ble_eq_true rfl) ⟨rfl, rfl, Nat.le_of_ble_eq_true rfl, Nat.le_of_ble_eq_true rfl, Nat.le_of_ble_eq_true rfl⟩ (fun n => ?_)
  refine V_icmp_ge (tgt := 52) d_X12_holdersOf_9 (by decide) (fun c9 => ?_) (fun c9 => ?_)
  · replace hf := iteT c9 hf
    refine V_less (ls' := [none, none, some _, none]) ⟨rfl, trivial⟩ ?_
    cases hf
    exact hK.2 _ rfl _
  · replace hf := iteF c9 hf
    refine V_iload_n d_X12_holdersOf_12 rfl rfl ?_
    refine V_aload_n d_X12_holdersOf_13 rfl rfl ?_
    refine V_iload_n d_X12_holdersOf_14 rfl rfl ?_
    obtain ⟨t2, ht2, hf⟩ := ob hf
    refine B_callV1 (s_X12_isPledged hG ht2) k_264 clX12 m_X12_isPledged kv_RX12_296 d_X12_holdersOf_15 rfl (Nat.le_of_ble_eq_true rfl) ⟨rfl, rfl, Nat.le_of_ble_eq_true rfl, Nat.le_of_ble_eq_true rfl, Nat.le_of_ble_eq_true rfl⟩ (fun n => ?_)
    refine V_if_eq (tgt := 43) d_X12_holdersOf_18 (by decide) (fun c18 => ?_) (fun c18 => ?_)
    · replace hf := iteF (b2i_nt (b2i_eq0 c18)) hf
      refine V_less (ls' := [some _, some _, none, some _]) ⟨rfl, rfl, rfl, trivial⟩ ?_
      exact s_X12_holdersOf_j43_4 hG hf hK
    · replace hf := iteT (b2i_ne0 c18) hf
      refine V_iload_n d_X12_holdersOf_21 rfl rfl ?_
      refine V_iload_n d_X12_holdersOf_22 rfl rfl ?_
      obtain ⟨t3, ht3, hf⟩ := ob hf
      refine B_callS1 (s_X12_ownerOf hG ht3) m_X12_ownerOf ks_RX12_144 d_X12_holdersOf_23 rfl (Nat.le_of_ble_eq_true rfl) ⟨rfl, rfl, Nat.le_of_ble_eq_true rfl, Nat.le_of_ble_eq_true rfl, Nat.le_of_ble_eq_true rfl⟩ (fun n => ?_)
      obtain ⟨t4, ht4, hf⟩ := ob hf
      refine B_callS1 (s_X12_has hG ht4) m_X12_has ks_RX12_380 d_X12_holdersOf_26 rfl (Nat.le_of_ble_eq_true rfl) ⟨rfl, rfl, Nat.le_of_ble_eq_true rfl, Nat.le_of_ble_eq_true rfl, Nat.le_of_ble_eq_true rfl⟩ (fun n => ?_)
      refine V_if_eq (tgt := 43) d_X12_holdersOf_29 (by decide) (fun c29 => ?_) (fun c29 => ?_)
      · replace hf := iteF (b2i_nt (b2i_eq0 c29)) hf
        refine V_less (ls' := [some _, some _, none, some _]) ⟨rfl, rfl, rfl, trivial⟩ ?_
        exact s_X12_holdersOf_j43_4 hG hf hK
      · replace hf := iteT (b2i_ne0 c29) hf
        refine V_iconst (v := 1) d_X12_holdersOf_32 ic_1 ?_
        refine V_aload_n d_X12_holdersOf_33 rfl rfl ?_
        refine V_iload_n d_X12_holdersOf_34 rfl rfl ?_
        refine V_iconst (v := 1) d_X12_holdersOf_35 ic_1 ?_
        obtain ⟨t5, ht5, hf⟩ := ob hf
        refine B_callV1 (s_X12_ofLace hG ht5) k_264 clX12 m_X12_ofLace kv_RX12_70 d_X12_holdersOf_36 rfl (Nat.le_of_ble_eq_true rfl) ⟨rfl, rfl, Nat.le_of_ble_eq_true rfl, Nat.le_of_ble_eq_true rfl, Nat.le_of_ble_eq_true rfl⟩ (fun n => ?_)
        refine V_ishl d_X12_holdersOf_39 ?_
        refine V_goto (tgt := 44) d_X12_holdersOf_40 (by decide) ?_
        refine V_less (ls' := [some _, some _, none, some _]) ⟨rfl, rfl, rfl, trivial⟩ ?_
        exact s_X12_holdersOf_j44_4 hG hf hK
theorem s_X12_holdersOf_j52 {G : Gl} (hG : G.1.stackTraces = false) {C : Cx} {n : Nat} {μ : Mem} {l2 : Int32} {r : Int32} (hf : f_X12_holdersOf_j52 μ l2 = some r) (hK : FinR G C F_X12_holdersOf (some .int) (some (.int r)) μ) : V G C F_X12_holdersOf 52 [none, none, some (.int l2), none] [] (pic G μ) n 0 0 := by
  unfold f_X12_holdersOf_j52 at hf
  refine V_iload_n d_X12_holdersOf_52 rfl rfl ?_
  cases hf
  exact R_i hK d_X12_holdersOf_53 (Nat.le_of_ble_eq_true rfl) (Nat.le_of_ble_eq_true rfl)
theorem s_X12_holdersOf_l4 {G : Gl} (hG : G.1.stackTraces = false) {C : Cx} {n : Nat} {μ : Mem} {l1 : Int32} {l2 : Int32} {l3 : Int32} {r : Int32} (hf : f_X12_holdersOf_l4 μ l1 l2 l3 = some r) (hK : FinR G C F_X12_holdersOf (some .int) (some (.int r)) μ) : V G C F_X12_holdersOf 4 [some (.ref (G.2.1 + 264)), some (.int l1), some (.int l2), some (.int l3)] [] (pic G μ) n 0 0 := by
  unfold f_X12_holdersOf_l4 at hf
  obtain ⟨t, hl, hf⟩ := ob hf
  refine loopV (P := fun z => ∀ n, V G C F_X12_holdersOf 4 [some (.ref (G.2.1 + 264)), some (.int l1), some (.int z.1), some (.int z.2)] [] (pic G μ) n 0 0) (t := t) ?_ _ _ hl n
  intro z y' hy hI hT n
  refine s_X12_holdersOf_b4 hG hy ⟨hI, fun x9 ex => ?_⟩
  have ex2 := hT x9 ex
  subst ex2
  intro n
  exact s_X12_holdersOf_j52 hG hf hK
theorem s_X12_holdersOf_e {G : Gl} (hG : G.1.stackTraces = false) {C : Cx} {n : Nat} {μ : Mem} {p1 : Int32} {r : Int32} (hf : f_X12_holdersOf μ p1 = some r) (hK : FinR G C F_X12_holdersOf (some .int) (some (.int r)) μ) : V G C F_X12_holdersOf 0 [some (.ref (G.2.1 + 264)), some (.int p1), none, none] [] (pic G μ) n 0 0 := by
  unfold f_X12_holdersOf at hf
  refine V_iconst (v := 0) d_X12_holdersOf_0 ic_0 ?_
  refine V_istore_n (ls' := [_, _, _, _]) d_X12_holdersOf_1 rfl rfl rfl ?_
  refine V_iconst (v := 0) d_X12_holdersOf_2 ic_0 ?_
  refine V_istore_n (ls' := [_, _, _, _]) d_X12_holdersOf_3 rfl rfl rfl ?_
  refine V_less (ls' := [some _, some _, some _, some _]) ⟨rfl, rfl, rfl, rfl, trivial⟩ ?_
  exact s_X12_holdersOf_l4 hG hf hK
theorem s_X12_holdersOf {G : Gl} (hG : G.1.stackTraces = false) {μ : Mem} {p1 : Int32} {r : Int32} (hf : f_X12_holdersOf μ p1 = some r) : Rt G yX12_holdersOf F_X12_holdersOf (some .int) [.ref (G.2.1 + 264), .int p1] μ (some (.int r)) μ := fun n => Sd.of hG ⟨by decide +kernel, rfl, rfl⟩ rfl (Nat.le_of_ble_eq_true rfl) rfl (fun C hK => s_X12_holdersOf_e hG hf hK)
theorem d_X12_leadsFrom_0 : decode cX12_leadsFrom 0 = .ok (.aload_n 0, 1) := by decide +kernel
theorem d_X12_leadsFrom_1 : decode cX12_leadsFrom 1 = .ok (.iconst 1, 1) := by decide +kernel
theorem d_X12_leadsFrom_2 : decode cX12_leadsFrom 2 = .ok (.iload_n 1, 1) := by decide +kernel
theorem d_X12_leadsFrom_3 : decode cX12_leadsFrom 3 = .ok (.ishl, 1) := by decide +kernel
theorem d_X12_leadsFrom_4 : decode cX12_leadsFrom 4 = .ok (.invokevirtual 395, 3) := by decide +kernel
theorem d_X12_leadsFrom_7 : decode cX12_leadsFrom 7 = .ok (.istore_n 2, 1) := by decide +kernel
theorem d_X12_leadsFrom_8 : decode cX12_leadsFrom 8 = .ok (.iconst 0, 1) := by decide +kernel
theorem d_X12_leadsFrom_9 : decode cX12_leadsFrom 9 = .ok (.istore_n 3, 1) := by decide +kernel
theorem d_X12_leadsFrom_10 : decode cX12_leadsFrom 10 = .ok (.iload_n 3, 1) := by decide +kernel
theorem d_X12_leadsFrom_11 : decode cX12_leadsFrom 11 = .ok (.bipush 6, 2) := by decide +kernel
theorem d_X12_leadsFrom_13 : decode cX12_leadsFrom 13 = .ok (.if_icmp .ge 17, 3) := by decide +kernel
theorem d_X12_leadsFrom_16 : decode cX12_leadsFrom 16 = .ok (.iload_n 2, 1) := by decide +kernel
theorem d_X12_leadsFrom_17 : decode cX12_leadsFrom 17 = .ok (.aload_n 0, 1) := by decide +kernel
theorem d_X12_leadsFrom_18 : decode cX12_leadsFrom 18 = .ok (.iload_n 2, 1) := by decide +kernel
theorem d_X12_leadsFrom_19 : decode cX12_leadsFrom 19 = .ok (.invokevirtual 395, 3) := by decide +kernel
theorem d_X12_leadsFrom_22 : decode cX12_leadsFrom 22 = .ok (.ior, 1) := by decide +kernel
theorem d_X12_leadsFrom_23 : decode cX12_leadsFrom 23 = .ok (.istore_n 2, 1) := by decide +kernel
theorem d_X12_leadsFrom_24 : decode cX12_leadsFrom 24 = .ok (.iinc 3 1, 3) := by decide +kernel
theorem d_X12_leadsFrom_27 : decode cX12_leadsFrom 27 = .ok (.goto (-17), 3) := by decide +kernel
theorem d_X12_leadsFrom_30 : decode cX12_leadsFrom 30 = .ok (.iload_n 2, 1) := by decide +kernel
theorem d_X12_leadsFrom_31 : decode cX12_leadsFrom 31 = .ok (.ireturn, 1) := by decide +kernel
theorem s_X12_leadsFrom_b10 {G : Gl} (hG : G.1.stackTraces = false) {C : Cx} {n : Nat} {μ : Mem} {l2 : Int32} {l3 : Int32} {y : ((Int32 × Int32) ⊕ Int32)} (hf : f_X12_leadsFrom_b10 μ l2 l3 = some y) (hK : (∀ z', y = .inl z' → ∀ n, V G C F_X12_leadsFrom 10 [some (.ref (G.2.1 + 264)), none, some (.int z'.1), some (.int z'.2)] [] (pic G μ) n 0 0) ∧ (∀ x', y = .inr x' → ∀ n, V G C F_X12_leadsFrom 30 [none, none, some (.int x'), none] [] (pic G μ) n 0 0)) : V G C F_X12_leadsFrom 10 [some (.ref (G.2.1 + 264)), none, some (.int l2), some (.int l3)] [] (pic G μ) n 0 0 := by
  unfold f_X12_leadsFrom_b10 at hf
  refine V_iload_n d_X12_leadsFrom_10 rfl rfl ?_
  refine V_bipush (v := 6) d_X12_leadsFrom_11 bp_6 ?_
  refine V_icmp_ge (tgt := 30) d_X12_leadsFrom_13 (by decide) (fun c13 => ?_) (fun c13 => ?_)
  · replace hf := iteT c13 hf
    refine V_less (ls' := [none, none, some _, none]) ⟨rfl, trivial⟩ ?_
    cases hf
    exact hK.2 _ rfl _
  · replace hf := iteF c13 hf
    refine V_iload_n d_X12_leadsFrom_16 rfl rfl ?_
    refine V_aload_n d_X12_leadsFrom_17 rfl rfl ?_
    refine V_iload_n d_X12_leadsFrom_18 rfl rfl ?_
    obtain ⟨t1, ht1, hf⟩ := ob hf
    refine B_callV1 (s_X12_holdersOf hG ht1) k_264 clX12 m_X12_holdersOf kv_RX12_395 d_X12_leadsFrom_19 rfl (Nat.le_of_ble_eq_true rfl) ⟨rfl, rfl, Nat.le_of_ble_eq_true rfl, Nat.le_of_ble_eq_true rfl, Nat.le_of_ble_eq_true rfl⟩ (fun n => ?_)
    refine V_ior d_X12_leadsFrom_22 ?_
    refine V_istore_n (ls' := [_, _, _, _]) d_X12_leadsFrom_23 rfl rfl rfl ?_
    refine V_iinc (v := (l3 + 1)) (ls' := [_, _, _, _]) d_X12_leadsFrom_24 rfl (by rw [ic_1]) rfl ?_
    refine V_goto (tgt := 10) d_X12_leadsFrom_27 (by decide) ?_
    refine V_less (ls' := [some _, none, some _, some _]) ⟨rfl, rfl, rfl, trivial⟩ ?_
    cases hf
    exact hK.1 _ rfl _
theorem s_X12_leadsFrom_j30 {G : Gl} (hG : G.1.stackTraces = false) {C : Cx} {n : Nat} {μ : Mem} {l2 : Int32} {r : Int32} (hf : f_X12_leadsFrom_j30 μ l2 = some r) (hK : FinR G C F_X12_leadsFrom (some .int) (some (.int r)) μ) : V G C F_X12_leadsFrom 30 [none, none, some (.int l2), none] [] (pic G μ) n 0 0 := by
  unfold f_X12_leadsFrom_j30 at hf
  refine V_iload_n d_X12_leadsFrom_30 rfl rfl ?_
  cases hf
  exact R_i hK d_X12_leadsFrom_31 (Nat.le_of_ble_eq_true rfl) (Nat.le_of_ble_eq_true rfl)
theorem s_X12_leadsFrom_l10 {G : Gl} (hG : G.1.stackTraces = false) {C : Cx} {n : Nat} {μ : Mem} {l2 : Int32} {l3 : Int32} {r : Int32} (hf : f_X12_leadsFrom_l10 μ l2 l3 = some r) (hK : FinR G C F_X12_leadsFrom (some .int) (some (.int r)) μ) : V G C F_X12_leadsFrom 10 [some (.ref (G.2.1 + 264)), none, some (.int l2), some (.int l3)] [] (pic G μ) n 0 0 := by
  unfold f_X12_leadsFrom_l10 at hf
  obtain ⟨t, hl, hf⟩ := ob hf
  refine loopV (P := fun z => ∀ n, V G C F_X12_leadsFrom 10 [some (.ref (G.2.1 + 264)), none, some (.int z.1), some (.int z.2)] [] (pic G μ) n 0 0) (t := t) ?_ _ _ hl n
  intro z y' hy hI hT n
  refine s_X12_leadsFrom_b10 hG hy ⟨hI, fun x9 ex => ?_⟩
  have ex2 := hT x9 ex
  subst ex2
  intro n
  exact s_X12_leadsFrom_j30 hG hf hK
theorem s_X12_leadsFrom_e {G : Gl} (hG : G.1.stackTraces = false) {C : Cx} {n : Nat} {μ : Mem} {p1 : Int32} {r : Int32} (hf : f_X12_leadsFrom μ p1 = some r) (hK : FinR G C F_X12_leadsFrom (some .int) (some (.int r)) μ) : V G C F_X12_leadsFrom 0 [some (.ref (G.2.1 + 264)), some (.int p1), none, none] [] (pic G μ) n 0 0 := by
  unfold f_X12_leadsFrom at hf
  refine V_aload_n d_X12_leadsFrom_0 rfl rfl ?_
  refine V_iconst (v := 1) d_X12_leadsFrom_1 ic_1 ?_
  refine V_iload_n d_X12_leadsFrom_2 rfl rfl ?_
  refine V_ishl d_X12_leadsFrom_3 ?_
  obtain ⟨t1, ht1, hf⟩ := ob hf
  refine B_callV1 (s_X12_holdersOf hG ht1) k_264 clX12 m_X12_holdersOf kv_RX12_395 d_X12_leadsFrom_4 rfl (Nat.le_of_ble_eq_true rfl) ⟨rfl, rfl, Nat.le_of_ble_eq_true rfl, Nat.le_of_ble_eq_true rfl, Nat.le_of_ble_eq_true rfl⟩ (fun n => ?_)
  refine V_istore_n (ls' := [_, _, _, _]) d_X12_leadsFrom_7 rfl rfl rfl ?_
  refine V_iconst (v := 0) d_X12_leadsFrom_8 ic_0 ?_
  refine V_istore_n (ls' := [_, _, _, _]) d_X12_leadsFrom_9 rfl rfl rfl ?_
  refine V_less (ls' := [some _, none, some _, some _]) ⟨rfl, rfl, rfl, trivial⟩ ?_
  exact s_X12_leadsFrom_l10 hG hf hK
theorem s_X12_leadsFrom {G : Gl} (hG : G.1.stackTraces = false) {μ : Mem} {p1 : Int32} {r : Int32} (hf : f_X12_leadsFrom μ p1 = some r) : Rt G yX12_leadsFrom F_X12_leadsFrom (some .int) [.ref (G.2.1 + 264), .int p1] μ (some (.int r)) μ := fun n => Sd.of hG ⟨by decide +kernel, rfl, rfl⟩ rfl (Nat.le_of_ble_eq_true rfl) rfl (fun C hK => s_X12_leadsFrom_e hG hf hK)
theorem d_X12_owes_0 : decode cX12_owes 0 = .ok (.aload_n 0, 1) := by decide +kernel
theorem d_X12_owes_1 : decode cX12_owes 1 = .ok (.iconst 0, 1) := by decide +kernel
theorem d_X12_owes_2 : decode cX12_owes 2 = .ok (.putfield 3, 3) := by decide +kernel
theorem d_X12_owes_5 : decode cX12_owes 5 = .ok (.aload_n 0, 1) := by decide +kernel
theorem d_X12_owes_6 : decode cX12_owes 6 = .ok (.aload_n 0, 1) := by decide +kernel
theorem d_X12_owes_7 : decode cX12_owes 7 = .ok (.iload_n 1, 1) := by decide +kernel
theorem d_X12_owes_8 : decode cX12_owes 8 = .ok (.invokevirtual 305, 3) := by decide +kernel
theorem d_X12_owes_11 : decode cX12_owes 11 = .ok (.ifCond .ne 11, 3) := by decide +kernel
theorem d_X12_owes_14 : decode cX12_owes 14 = .ok (.aload_n 0, 1) := by decide +kernel
theorem d_X12_owes_15 : decode cX12_owes 15 = .ok (.iload_n 2, 1) := by decide +kernel
theorem d_X12_owes_16 : decode cX12_owes 16 = .ok (.invokevirtual 305, 3) := by decide +kernel
theorem d_X12_owes_19 : decode cX12_owes 19 = .ok (.ifCond .eq 7, 3) := by decide +kernel
theorem d_X12_owes_22 : decode cX12_owes 22 = .ok (.iconst 1, 1) := by decide +kernel
theorem d_X12_owes_23 : decode cX12_owes 23 = .ok (.goto 4, 3) := by decide +kernel
theorem d_X12_owes_26 : decode cX12_owes 26 = .ok (.iconst 0, 1) := by decide +kernel
theorem d_X12_owes_27 : decode cX12_owes 27 = .ok (.iconst 1, 1) := by decide +kernel
theorem d_X12_owes_28 : decode cX12_owes 28 = .ok (.invokevirtual 263, 3) := by decide +kernel
theorem d_X12_owes_31 : decode cX12_owes 31 = .ok (.ifCond .ne 37, 3) := by decide +kernel
theorem d_X12_owes_34 : decode cX12_owes 34 = .ok (.aload_n 0, 1) := by decide +kernel
theorem d_X12_owes_35 : decode cX12_owes 35 = .ok (.iload_n 1, 1) := by decide +kernel
theorem d_X12_owes_36 : decode cX12_owes 36 = .ok (.iload_n 2, 1) := by decide +kernel
theorem d_X12_owes_37 : decode cX12_owes 37 = .ok (.if_icmp .ne 7, 3) := by decide +kernel
theorem d_X12_owes_40 : decode cX12_owes 40 = .ok (.iconst 1, 1) := by decide +kernel
theorem d_X12_owes_41 : decode cX12_owes 41 = .ok (.goto 4, 3) := by decide +kernel
theorem d_X12_owes_44 : decode cX12_owes 44 = .ok (.iconst 0, 1) := by decide +kernel
theorem d_X12_owes_45 : decode cX12_owes 45 = .ok (.iconst 2, 1) := by decide +kernel
theorem d_X12_owes_46 : decode cX12_owes 46 = .ok (.invokevirtual 263, 3) := by decide +kernel
theorem d_X12_owes_49 : decode cX12_owes 49 = .ok (.ifCond .ne 19, 3) := by decide +kernel
theorem d_X12_owes_52 : decode cX12_owes 52 = .ok (.aload_n 0, 1) := by decide +kernel
theorem d_X12_owes_53 : decode cX12_owes 53 = .ok (.iload_n 1, 1) := by decide +kernel
theorem d_X12_owes_54 : decode cX12_owes 54 = .ok (.invokevirtual 398, 3) := by decide +kernel
theorem d_X12_owes_57 : decode cX12_owes 57 = .ok (.iload_n 2, 1) := by decide +kernel
theorem d_X12_owes_58 : decode cX12_owes 58 = .ok (.invokestatic 380, 3) := by decide +kernel
theorem d_X12_owes_61 : decode cX12_owes 61 = .ok (.ifCond .eq 7, 3) := by decide +kernel
theorem d_X12_owes_64 : decode cX12_owes 64 = .ok (.iconst 1, 1) := by decide +kernel
theorem d_X12_owes_65 : decode cX12_owes 65 = .ok (.goto 4, 3) := by decide +kernel
theorem d_X12_owes_68 : decode cX12_owes 68 = .ok (.iconst 0, 1) := by decide +kernel
theorem d_X12_owes_69 : decode cX12_owes 69 = .ok (.ireturn, 1) := by decide +kernel
theorem s_X12_owes_j69 {G : Gl} (hG : G.1.stackTraces = false) {C : Cx} {n : Nat} {μ : Mem} {k0 : Bool} {r : (Bool × Mem)} (hf : f_X12_owes_j69 μ k0 = some r) (hK : FinR G C F_X12_owes (some .boolean) (some (.int (b2i r.1))) r.2) : V G C F_X12_owes 69 [none, none, none] [.int (b2i k0)] (pic G μ) n 0 0 := by
  unfold f_X12_owes_j69 at hf
  cases hf
  exact R_z hK d_X12_owes_69 (Nat.le_of_ble_eq_true rfl) (Nat.le_of_ble_eq_true rfl)
theorem s_X12_owes_j68 {G : Gl} (hG : G.1.stackTraces = false) {C : Cx} {n : Nat} {μ : Mem}  {r : (Bool × Mem)} (hf : f_X12_owes_j68 μ = some r) (hK : FinR G C F_X12_owes (some .boolean) (some (.int (b2i r.1))) r.2) : V G C F_X12_owes 68 [none, none, none] [] (pic G μ) n 0 0 := by
  unfold f_X12_owes_j68 at hf
  refine V_iconst (v := 0) d_X12_owes_68 ic_0 ?_
  refine V_less (ls' := [none, none, none]) trivial ?_
  exact s_X12_owes_j69 hG hf hK
theorem s_X12_owes_j27 {G : Gl} (hG : G.1.stackTraces = false) {C : Cx} {n : Nat} {μ : Mem} {l1 : Int32} {l2 : Int32} {k1 : Bool} {r : (Bool × Mem)} (hf : f_X12_owes_j27 μ l1 l2 k1 = some r) (hK : FinR G C F_X12_owes (some .boolean) (some (.int (b2i r.1))) r.2) : V G C F_X12_owes 27 [some (.ref (G.2.1 + 264)), some (.int l1), some (.int l2)] [.int (b2i k1), .ref (G.2.1 + 264)] (pic G μ) n 0 0 := by
  unfold f_X12_owes_j27 at hf
  refine V_iconst (v := 1) d_X12_owes_27 ic_1 ?_
  obtain ⟨q1, hq1, hf⟩ := ob hf
  refine B_callV1 (s_X12_throwsIf hG hq1) k_264 clX12 m_X12_throwsIf kv_RX12_263 d_X12_owes_28 rfl (Nat.le_of_ble_eq_true rfl) ⟨rfl, rfl, Nat.le_of_ble_eq_true rfl, Nat.le_of_ble_eq_true rfl, Nat.le_of_ble_eq_true rfl⟩ (fun n => ?_)
  refine V_if_ne (tgt := 68) d_X12_owes_31 (by decide) (fun c31 => ?_) (fun c31 => ?_)
  · replace hf := iteT (b2i_ne0 c31) hf
    refine V_less (ls' := [none, none, none]) trivial ?_
    exact s_X12_owes_j68 hG hf hK
  · replace hf := iteF (b2i_nt (b2i_eq0 c31)) hf
    refine V_aload_n d_X12_owes_34 rfl rfl ?_
    refine V_iload_n d_X12_owes_35 rfl rfl ?_
    refine V_iload_n d_X12_owes_36 rfl rfl ?_
    have hJj2 : ∀ j2 : Bool, j2 = (if l1 = l2 then (true : Bool) else false) → V G C F_X12_owes 45 [some (.ref (G.2.1 + 264)), some (.int l1), some (.int l2)] [.int (b2i j2), .ref (G.2.1 + 264)] (pic G q1.2) n 0 0 := by
      intro j2 ej2
      subst ej2
      refine V_iconst (v := 2) d_X12_owes_45 ic_2 ?_
      obtain ⟨q3, hq3, hf⟩ := ob hf
      refine B_callV1 (s_X12_throwsIf hG hq3) k_264 clX12 m_X12_throwsIf kv_RX12_263 d_X12_owes_46 rfl (Nat.le_of_ble_eq_true rfl) ⟨rfl, rfl, Nat.le_of_ble_eq_true rfl, Nat.le_of_ble_eq_true rfl, Nat.le_of_ble_eq_true rfl⟩ (fun n => ?_)
      refine V_if_ne (tgt := 68) d_X12_owes_49 (by decide) (fun c49 => ?_) (fun c49 => ?_)
      · replace hf := iteT (b2i_ne0 c49) hf
        refine V_less (ls' := [none, none, none]) trivial ?_
        exact s_X12_owes_j68 hG hf hK
      · replace hf := iteF (b2i_nt (b2i_eq0 c49)) hf
        refine V_aload_n d_X12_owes_52 rfl rfl ?_
        refine V_iload_n d_X12_owes_53 rfl rfl ?_
        obtain ⟨t4, ht4, hf⟩ := ob hf
        refine B_callV1 (s_X12_leadsFrom hG ht4) k_264 clX12 m_X12_leadsFrom kv_RX12_398 d_X12_owes_54 rfl (Nat.le_of_ble_eq_true rfl) ⟨rfl, rfl, Nat.le_of_ble_eq_true rfl, Nat.le_of_ble_eq_true rfl, Nat.le_of_ble_eq_true rfl⟩ (fun n => ?_)
        refine V_iload_n d_X12_owes_57 rfl rfl ?_
        obtain ⟨t5, ht5, hf⟩ := ob hf
        refine B_callS1 (s_X12_has hG ht5) m_X12_has ks_RX12_380 d_X12_owes_58 rfl (Nat.le_of_ble_eq_true rfl) ⟨rfl, rfl, Nat.le_of_ble_eq_true rfl, Nat.le_of_ble_eq_true rfl, Nat.le_of_ble_eq_true rfl⟩ (fun n => ?_)
        have hJj6 : ∀ j6 : Bool, j6 = (if t5 = true then (true : Bool) else false) → V G C F_X12_owes 69 [none, none, none] [.int (b2i j6)] (pic G q3.2) n 0 0 := by
          intro j6 ej6
          subst ej6
          cases hf
          exact R_z hK d_X12_owes_69 (Nat.le_of_ble_eq_true rfl) (Nat.le_of_ble_eq_true rfl)
        refine V_if_eq (tgt := 68) d_X12_owes_61 (by decide) (fun c61 => ?_) (fun c61 => ?_)
        · refine V_iconst (v := 0) d_X12_owes_68 ic_0 ?_
          refine V_less (ls' := [none, none, none]) trivial ?_
          exact hJj6 false (by rw [if_neg (b2i_nt (b2i_eq0 c61))])
        · refine V_iconst (v := 1) d_X12_owes_64 ic_1 ?_
          refine V_goto (tgt := 69) d_X12_owes_65 (by decide) ?_
          refine V_less (ls' := [none, none, none]) trivial ?_
          exact hJj6 true (by rw [if_pos (b2i_ne0 c61)])
    refine V_icmp_ne (tgt := 44) d_X12_owes_37 (by decide) (fun c37 => ?_) (fun c37 => ?_)
    · refine V_iconst (v := 0) d_X12_owes_44 ic_0 ?_
      refine V_less (ls' := [some _, some _, some _]) ⟨rfl, rfl, rfl, trivial⟩ ?_
      exact hJj2 false (by rw [if_neg c37])
    · refine V_iconst (v := 1) d_X12_owes_40 ic_1 ?_
      refine V_goto (tgt := 45) d_X12_owes_41 (by decide) ?_
      refine V_less (ls' := [some _, some _, some _]) ⟨rfl, rfl, rfl, trivial⟩ ?_
      exact hJj2 true (by rw [if_pos c37])
theorem s_X12_owes_j22 {G : Gl} (hG : G.1.stackTraces = false) {C : Cx} {n : Nat} {μ : Mem} {l1 : Int32} {l2 : Int32} {r : (Bool × Mem)} (hf : f_X12_owes_j22 μ l1 l2 = some r) (hK : FinR G C F_X12_owes (some .boolean) (some (.int (b2i r.1))) r.2) : V G C F_X12_owes 22 [some (.ref (G.2.1 + 264)), some (.int l1), some (.int l2)] [.ref (G.2.1 + 264)] (pic G μ) n 0 0 := by
  unfold f_X12_owes_j22 at hf
  refine V_iconst (v := 1) d_X12_owes_22 ic_1 ?_
  refine V_goto (tgt := 27) d_X12_owes_23 (by decide) ?_
  refine V_less (ls' := [some _, some _, some _]) ⟨rfl, rfl, rfl, trivial⟩ ?_
  exact s_X12_owes_j27 hG hf hK
theorem s_X12_owes_e {G : Gl} (hG : G.1.stackTraces = false) {C : Cx} {n : Nat} {μ : Mem} {p1 : Int32} {p2 : Int32} {r : (Bool × Mem)} (hf : f_X12_owes μ p1 p2 = some r) (hK : FinR G C F_X12_owes (some .boolean) (some (.int (b2i r.1))) r.2) : V G C F_X12_owes 0 [some (.ref (G.2.1 + 264)), some (.int p1), some (.int p2)] [] (pic G μ) n 0 0 := by
  unfold f_X12_owes at hf
  refine V_aload_n d_X12_owes_0 rfl rfl ?_
  refine V_iconst (v := 0) d_X12_owes_1 ic_0 ?_
  refine B_putI k_264 fl_RX12_3 pt_12_0 (Nat.le_of_ble_eq_true rfl) p_12_0 d_X12_owes_2 ?_
  refine V_aload_n d_X12_owes_5 rfl rfl ?_
  refine V_aload_n d_X12_owes_6 rfl rfl ?_
  refine V_iload_n d_X12_owes_7 rfl rfl ?_
  obtain ⟨t1, ht1, hf⟩ := ob hf
  refine B_callV1 (s_X12_noPerson hG ht1) k_264 clX12 m_X12_noPerson kv_RX12_305 d_X12_owes_8 rfl (Nat.le_of_ble_eq_true rfl) ⟨rfl, rfl, Nat.le_of_ble_eq_true rfl, Nat.le_of_ble_eq_true rfl, Nat.le_of_ble_eq_true rfl⟩ (fun n => ?_)
  refine V_if_ne (tgt := 22) d_X12_owes_11 (by decide) (fun c11 => ?_) (fun c11 => ?_)
  · replace hf := iteT (b2i_ne0 c11) hf
    refine V_less (ls' := [some _, some _, some _]) ⟨rfl, rfl, rfl, trivial⟩ ?_
    exact s_X12_owes_j22 hG hf hK
  · replace hf := iteF (b2i_nt (b2i_eq0 c11)) hf
    refine V_aload_n d_X12_owes_14 rfl rfl ?_
    refine V_iload_n d_X12_owes_15 rfl rfl ?_
    obtain ⟨t2, ht2, hf⟩ := ob hf
    refine B_callV1 (s_X12_noPerson hG ht2) k_264 clX12 m_X12_noPerson kv_RX12_305 d_X12_owes_16 rfl (Nat.le_of_ble_eq_true rfl) ⟨rfl, rfl, Nat.le_of_ble_eq_true rfl, Nat.le_of_ble_eq_true rfl, Nat.le_of_ble_eq_true rfl⟩ (fun n => ?_)
    have hJj3 : ∀ j3 : Bool, j3 = (if t2 = true then (true : Bool) else false) → V G C F_X12_owes 27 [some (.ref (G.2.1 + 264)), some (.int p1), some (.int p2)] [.int (b2i j3), .ref (G.2.1 + 264)] (pic G (mset μ 264 0 0)) n 0 0 := by
      intro j3 ej3
      subst ej3
      refine V_iconst (v := 1) d_X12_owes_27 ic_1 ?_
      obtain ⟨q4, hq4, hf⟩ := ob hf
      refine B_callV1 (s_X12_throwsIf hG hq4) k_264 clX12 m_X12_throwsIf kv_RX12_263 d_X12_owes_28 rfl (Nat.le_of_ble_eq_true rfl) ⟨rfl, rfl, Nat.le_of_ble_eq_true rfl, Nat.le_of_ble_eq_true rfl, Nat.le_of_ble_eq_true rfl⟩ (fun n => ?_)
      refine V_if_ne (tgt := 68) d_X12_owes_31 (by decide) (fun c31 => ?_) (fun c31 => ?_)
      · replace hf := iteT (b2i_ne0 c31) hf
        refine V_less (ls' := [none, none, none]) trivial ?_
        exact s_X12_owes_j68 hG hf hK
      · replace hf := iteF (b2i_nt (b2i_eq0 c31)) hf
        refine V_aload_n d_X12_owes_34 rfl rfl ?_
        refine V_iload_n d_X12_owes_35 rfl rfl ?_
        refine V_iload_n d_X12_owes_36 rfl rfl ?_
        have hJj5 : ∀ j5 : Bool, j5 = (if p1 = p2 then (true : Bool) else false) → V G C F_X12_owes 45 [some (.ref (G.2.1 + 264)), some (.int p1), some (.int p2)] [.int (b2i j5), .ref (G.2.1 + 264)] (pic G q4.2) n 0 0 := by
          intro j5 ej5
          subst ej5
          refine V_iconst (v := 2) d_X12_owes_45 ic_2 ?_
          obtain ⟨q6, hq6, hf⟩ := ob hf
          refine B_callV1 (s_X12_throwsIf hG hq6) k_264 clX12 m_X12_throwsIf kv_RX12_263 d_X12_owes_46 rfl (Nat.le_of_ble_eq_true rfl) ⟨rfl, rfl, Nat.le_of_ble_eq_true rfl, Nat.le_of_ble_eq_true rfl, Nat.le_of_ble_eq_true rfl⟩ (fun n => ?_)
          refine V_if_ne (tgt := 68) d_X12_owes_49 (by decide) (fun c49 => ?_) (fun c49 => ?_)
          · replace hf := iteT (b2i_ne0 c49) hf
            refine V_less (ls' := [none, none, none]) trivial ?_
            exact s_X12_owes_j68 hG hf hK
          · replace hf := iteF (b2i_nt (b2i_eq0 c49)) hf
            refine V_aload_n d_X12_owes_52 rfl rfl ?_
            refine V_iload_n d_X12_owes_53 rfl rfl ?_
            obtain ⟨t7, ht7, hf⟩ := ob hf
            refine B_callV1 (s_X12_leadsFrom hG ht7) k_264 clX12 m_X12_leadsFrom kv_RX12_398 d_X12_owes_54 rfl (Nat.le_of_ble_eq_true rfl) ⟨rfl, rfl, Nat.le_of_ble_eq_true rfl, Nat.le_of_ble_eq_true rfl, Nat.le_of_ble_eq_true rfl⟩ (fun n => ?_)
            refine V_iload_n d_X12_owes_57 rfl rfl ?_
            obtain ⟨t8, ht8, hf⟩ := ob hf
            refine B_callS1 (s_X12_has hG ht8) m_X12_has ks_RX12_380 d_X12_owes_58 rfl (Nat.le_of_ble_eq_true rfl) ⟨rfl, rfl, Nat.le_of_ble_eq_true rfl, Nat.le_of_ble_eq_true rfl, Nat.le_of_ble_eq_true rfl⟩ (fun n => ?_)
            have hJj9 : ∀ j9 : Bool, j9 = (if t8 = true then (true : Bool) else false) → V G C F_X12_owes 69 [none, none, none] [.int (b2i j9)] (pic G q6.2) n 0 0 := by
              intro j9 ej9
              subst ej9
              cases hf
              exact R_z hK d_X12_owes_69 (Nat.le_of_ble_eq_true rfl) (Nat.le_of_ble_eq_true rfl)
            refine V_if_eq (tgt := 68) d_X12_owes_61 (by decide) (fun c61 => ?_) (fun c61 => ?_)
            · refine V_iconst (v := 0) d_X12_owes_68 ic_0 ?_
              refine V_less (ls' := [none, none, none]) trivial ?_
              exact hJj9 false (by rw [if_neg (b2i_nt (b2i_eq0 c61))])
            · refine V_iconst (v := 1) d_X12_owes_64 ic_1 ?_
              refine V_goto (tgt := 69) d_X12_owes_65 (by decide) ?_
              refine V_less (ls' := [none, none, none]) trivial ?_
              exact hJj9 true (by rw [if_pos (b2i_ne0 c61)])
        refine V_icmp_ne (tgt := 44) d_X12_owes_37 (by decide) (fun c37 => ?_) (fun c37 => ?_)
        · refine V_iconst (v := 0) d_X12_owes_44 ic_0 ?_
          refine V_less (ls' := [some _, some _, some _]) ⟨rfl, rfl, rfl, trivial⟩ ?_
          exact hJj5 false (by rw [if_neg c37])
        · refine V_iconst (v := 1) d_X12_owes_40 ic_1 ?_
          refine V_goto (tgt := 45) d_X12_owes_41 (by decide) ?_
          refine V_less (ls' := [some _, some _, some _]) ⟨rfl, rfl, rfl, trivial⟩ ?_
          exact hJj5 true (by rw [if_pos c37])
    refine V_if_eq (tgt := 26) d_X12_owes_19 (by decide) (fun c19 => ?_) (fun c19 => ?_)
    · refine V_iconst (v := 0) d_X12_owes_26 ic_0 ?_
      refine V_less (ls' := [some _, some _, some _]) ⟨rfl, rfl, rfl, trivial⟩ ?_
      exact hJj3 false (by rw [if_neg (b2i_nt (b2i_eq0 c19))])
    · refine V_iconst (v := 1) d_X12_owes_22 ic_1 ?_
      refine V_goto (tgt := 27) d_X12_owes_23 (by decide) ?_
      refine V_less (ls' := [some _, some _, some _]) ⟨rfl, rfl, rfl, trivial⟩ ?_
      exact hJj3 true (by rw [if_pos (b2i_ne0 c19)])
theorem s_X12_owes {G : Gl} (hG : G.1.stackTraces = false) {μ : Mem} {p1 : Int32} {p2 : Int32} {r : (Bool × Mem)} (hf : f_X12_owes μ p1 p2 = some r) : Rt G yX12_owes F_X12_owes (some .boolean) [.ref (G.2.1 + 264), .int p1, .int p2] μ (some (.int (b2i r.1))) r.2 := fun n => Sd.of hG ⟨by decide +kernel, rfl, rfl⟩ rfl (Nat.le_of_ble_eq_true rfl) rfl (fun C hK => s_X12_owes_e hG hf hK)
