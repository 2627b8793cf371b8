theorem d_X12_readAtom_0 : decode cX12_readAtom 0 = .ok (.aload_n 0, 1) := by decide +kernel
theorem d_X12_readAtom_1 : decode cX12_readAtom 1 = .ok (.bipush 40, 2) := by decide +kernel
theorem d_X12_readAtom_3 : decode cX12_readAtom 3 = .ok (.invokevirtual 207, 3) := by decide +kernel
theorem d_X12_readAtom_6 : decode cX12_readAtom 6 = .ok (.ifCond .eq 50, 3) := by decide +kernel
theorem d_X12_readAtom_9 : decode cX12_readAtom 9 = .ok (.aload_n 0, 1) := by decide +kernel
theorem d_X12_readAtom_10 : decode cX12_readAtom 10 = .ok (.getfield 214, 3) := by decide +kernel
theorem d_X12_readAtom_13 : decode cX12_readAtom 13 = .ok (.bipush 6, 2) := by decide +kernel
theorem d_X12_readAtom_15 : decode cX12_readAtom 15 = .ok (.if_icmp .ne 5, 3) := by decide +kernel
theorem d_X12_readAtom_18 : decode cX12_readAtom 18 = .ok (.iconst 0, 1) := by decide +kernel
theorem d_X12_readAtom_19 : decode cX12_readAtom 19 = .ok (.ireturn, 1) := by decide +kernel
theorem d_X12_readAtom_20 : decode cX12_readAtom 20 = .ok (.aload_n 0, 1) := by decide +kernel
theorem d_X12_readAtom_21 : decode cX12_readAtom 21 = .ok (.dup, 1) := by decide +kernel
theorem d_X12_readAtom_22 : decode cX12_readAtom 22 = .ok (.getfield 214, 3) := by decide +kernel
theorem d_X12_readAtom_25 : decode cX12_readAtom 25 = .ok (.iconst 1, 1) := by decide +kernel
theorem d_X12_readAtom_26 : decode cX12_readAtom 26 = .ok (.iadd, 1) := by decide +kernel
theorem d_X12_readAtom_27 : decode cX12_readAtom 27 = .ok (.putfield 214, 3) := by decide +kernel
theorem d_X12_readAtom_30 : decode cX12_readAtom 30 = .ok (.aload_n 0, 1) := by decide +kernel
theorem d_X12_readAtom_31 : decode cX12_readAtom 31 = .ok (.invokevirtual 217, 3) := by decide +kernel
theorem d_X12_readAtom_34 : decode cX12_readAtom 34 = .ok (.ifCond .ne 5, 3) := by decide +kernel
theorem d_X12_readAtom_37 : decode cX12_readAtom 37 = .ok (.iconst 0, 1) := by decide +kernel
theorem d_X12_readAtom_38 : decode cX12_readAtom 38 = .ok (.ireturn, 1) := by decide +kernel
theorem d_X12_readAtom_39 : decode cX12_readAtom 39 = .ok (.aload_n 0, 1) := by decide +kernel
theorem d_X12_readAtom_40 : decode cX12_readAtom 40 = .ok (.dup, 1) := by decide +kernel
theorem d_X12_readAtom_41 : decode cX12_readAtom 41 = .ok (.getfield 214, 3) := by decide +kernel
theorem d_X12_readAtom_44 : decode cX12_readAtom 44 = .ok (.iconst 1, 1) := by decide +kernel
theorem d_X12_readAtom_45 : decode cX12_readAtom 45 = .ok (.isub, 1) := by decide +kernel
theorem d_X12_readAtom_46 : decode cX12_readAtom 46 = .ok (.putfield 214, 3) := by decide +kernel
theorem d_X12_readAtom_49 : decode cX12_readAtom 49 = .ok (.aload_n 0, 1) := by decide +kernel
theorem d_X12_readAtom_50 : decode cX12_readAtom 50 = .ok (.bipush 41, 2) := by decide +kernel
theorem d_X12_readAtom_52 : decode cX12_readAtom 52 = .ok (.invokevirtual 207, 3) := by decide +kernel
theorem d_X12_readAtom_55 : decode cX12_readAtom 55 = .ok (.ireturn, 1) := by decide +kernel
theorem d_X12_readAtom_56 : decode cX12_readAtom 56 = .ok (.aload_n 0, 1) := by decide +kernel
theorem d_X12_readAtom_57 : decode cX12_readAtom 57 = .ok (.ldc 220, 2) := by decide +kernel
theorem d_X12_readAtom_59 : decode cX12_readAtom 59 = .ok (.invokevirtual 156, 3) := by decide +kernel
theorem d_X12_readAtom_62 : decode cX12_readAtom 62 = .ok (.ifCond .eq 52, 3) := by decide +kernel
theorem d_X12_readAtom_65 : decode cX12_readAtom 65 = .ok (.aload_n 0, 1) := by decide +kernel
theorem d_X12_readAtom_66 : decode cX12_readAtom 66 = .ok (.getfield 214, 3) := by decide +kernel
theorem d_X12_readAtom_69 : decode cX12_readAtom 69 = .ok (.bipush 6, 2) := by decide +kernel
theorem d_X12_readAtom_71 : decode cX12_readAtom 71 = .ok (.if_icmp .ne 5, 3) := by decide +kernel
theorem d_X12_readAtom_74 : decode cX12_readAtom 74 = .ok (.iconst 0, 1) := by decide +kernel
theorem d_X12_readAtom_75 : decode cX12_readAtom 75 = .ok (.ireturn, 1) := by decide +kernel
theorem d_X12_readAtom_76 : decode cX12_readAtom 76 = .ok (.aload_n 0, 1) := by decide +kernel
theorem d_X12_readAtom_77 : decode cX12_readAtom 77 = .ok (.dup, 1) := by decide +kernel
theorem d_X12_readAtom_78 : decode cX12_readAtom 78 = .ok (.getfield 214, 3) := by decide +kernel
theorem d_X12_readAtom_81 : decode cX12_readAtom 81 = .ok (.iconst 1, 1) := by decide +kernel
theorem d_X12_readAtom_82 : decode cX12_readAtom 82 = .ok (.iadd, 1) := by decide +kernel
theorem d_X12_readAtom_83 : decode cX12_readAtom 83 = .ok (.putfield 214, 3) := by decide +kernel
theorem d_X12_readAtom_86 : decode cX12_readAtom 86 = .ok (.aload_n 0, 1) := by decide +kernel
theorem d_X12_readAtom_87 : decode cX12_readAtom 87 = .ok (.invokevirtual 222, 3) := by decide +kernel
theorem d_X12_readAtom_90 : decode cX12_readAtom 90 = .ok (.ifCond .ne 5, 3) := by decide +kernel
theorem d_X12_readAtom_93 : decode cX12_readAtom 93 = .ok (.iconst 0, 1) := by decide +kernel
theorem d_X12_readAtom_94 : decode cX12_readAtom 94 = .ok (.ireturn, 1) := by decide +kernel
theorem d_X12_readAtom_95 : decode cX12_readAtom 95 = .ok (.aload_n 0, 1) := by decide +kernel
theorem d_X12_readAtom_96 : decode cX12_readAtom 96 = .ok (.dup, 1) := by decide +kernel
theorem d_X12_readAtom_97 : decode cX12_readAtom 97 = .ok (.getfield 214, 3) := by decide +kernel
theorem d_X12_readAtom_100 : decode cX12_readAtom 100 = .ok (.iconst 1, 1) := by decide +kernel
theorem d_X12_readAtom_101 : decode cX12_readAtom 101 = .ok (.isub, 1) := by decide +kernel
theorem d_X12_readAtom_102 : decode cX12_readAtom 102 = .ok (.putfield 214, 3) := by decide +kernel
theorem d_X12_readAtom_105 : decode cX12_readAtom 105 = .ok (.aload_n 0, 1) := by decide +kernel
theorem d_X12_readAtom_106 : decode cX12_readAtom 106 = .ok (.bipush 13, 2) := by decide +kernel
theorem d_X12_readAtom_108 : decode cX12_readAtom 108 = .ok (.iconst 0, 1) := by decide +kernel
theorem d_X12_readAtom_109 : decode cX12_readAtom 109 = .ok (.invokevirtual 190, 3) := by decide +kernel
theorem d_X12_readAtom_112 : decode cX12_readAtom 112 = .ok (.iconst 1, 1) := by decide +kernel
theorem d_X12_readAtom_113 : decode cX12_readAtom 113 = .ok (.ireturn, 1) := by decide +kernel
theorem d_X12_readAtom_114 : decode cX12_readAtom 114 = .ok (.aload_n 0, 1) := by decide +kernel
theorem d_X12_readAtom_115 : decode cX12_readAtom 115 = .ok (.invokevirtual 225, 3) := by decide +kernel
theorem d_X12_readAtom_118 : decode cX12_readAtom 118 = .ok (.ifCond .eq 5, 3) := by decide +kernel
theorem d_X12_readAtom_121 : decode cX12_readAtom 121 = .ok (.iconst 1, 1) := by decide +kernel
theorem d_X12_readAtom_122 : decode cX12_readAtom 122 = .ok (.ireturn, 1) := by decide +kernel
theorem d_X12_readAtom_123 : decode cX12_readAtom 123 = .ok (.aload_n 0, 1) := by decide +kernel
theorem d_X12_readAtom_124 : decode cX12_readAtom 124 = .ok (.invokevirtual 228, 3) := by decide +kernel
theorem d_X12_readAtom_127 : decode cX12_readAtom 127 = .ok (.ifCond .ne 5, 3) := by decide +kernel
theorem d_X12_readAtom_130 : decode cX12_readAtom 130 = .ok (.iconst 0, 1) := by decide +kernel
theorem d_X12_readAtom_131 : decode cX12_readAtom 131 = .ok (.ireturn, 1) := by decide +kernel
theorem d_X12_readAtom_132 : decode cX12_readAtom 132 = .ok (.aload_n 0, 1) := by decide +kernel
theorem d_X12_readAtom_133 : decode cX12_readAtom 133 = .ok (.bipush 60, 2) := by decide +kernel
theorem d_X12_readAtom_135 : decode cX12_readAtom 135 = .ok (.invokevirtual 207, 3) := by decide +kernel
theorem d_X12_readAtom_138 : decode cX12_readAtom 138 = .ok (.istore_n 1, 1) := by decide +kernel
theorem d_X12_readAtom_139 : decode cX12_readAtom 139 = .ok (.iload_n 1, 1) := by decide +kernel
theorem d_X12_readAtom_140 : decode cX12_readAtom 140 = .ok (.ifCond .ne 12, 3) := by decide +kernel
theorem d_X12_readAtom_143 : decode cX12_readAtom 143 = .ok (.aload_n 0, 1) := by decide +kernel
theorem d_X12_readAtom_144 : decode cX12_readAtom 144 = .ok (.bipush 62, 2) := by decide +kernel
theorem d_X12_readAtom_146 : decode cX12_readAtom 146 = .ok (.invokevirtual 207, 3) := by decide +kernel
theorem d_X12_readAtom_149 : decode cX12_readAtom 149 = .ok (.ifCond .eq 10, 3) := by decide +kernel
theorem d_X12_readAtom_152 : decode cX12_readAtom 152 = .ok (.aload_n 0, 1) := by decide +kernel
theorem d_X12_readAtom_153 : decode cX12_readAtom 153 = .ok (.invokevirtual 228, 3) := by decide +kernel
theorem d_X12_readAtom_156 : decode cX12_readAtom 156 = .ok (.ifCond .ne 5, 3) := by decide +kernel
theorem d_X12_readAtom_159 : decode cX12_readAtom 159 = .ok (.iconst 0, 1) := by decide +kernel
theorem d_X12_readAtom_160 : decode cX12_readAtom 160 = .ok (.ireturn, 1) := by decide +kernel
theorem d_X12_readAtom_161 : decode cX12_readAtom 161 = .ok (.aload_n 0, 1) := by decide +kernel
theorem d_X12_readAtom_162 : decode cX12_readAtom 162 = .ok (.iload_n 1, 1) := by decide +kernel
theorem d_X12_readAtom_163 : decode cX12_readAtom 163 = .ok (.ifCond .eq 8, 3) := by decide +kernel
theorem d_X12_readAtom_166 : decode cX12_readAtom 166 = .ok (.bipush 11, 2) := by decide +kernel
theorem d_X12_readAtom_168 : decode cX12_readAtom 168 = .ok (.goto 5, 3) := by decide +kernel
theorem d_X12_readAtom_171 : decode cX12_readAtom 171 = .ok (.bipush 12, 2) := by decide +kernel
theorem d_X12_readAtom_173 : decode cX12_readAtom 173 = .ok (.iconst 0, 1) := by decide +kernel
theorem d_X12_readAtom_174 : decode cX12_readAtom 174 = .ok (.invokevirtual 190, 3) := by decide +kernel
theorem d_X12_readAtom_177 : decode cX12_readAtom 177 = .ok (.iconst 1, 1) := by decide +kernel
theorem d_X12_readAtom_178 : decode cX12_readAtom 178 = .ok (.ireturn, 1) := by decide +kernel
theorem s_X12_readAtom_body_j159 {G : Gl} (hG : G.1.stackTraces = false) {k : Nat} {rA : Mem → Option (Bool × Mem)} (hA : ∀ {μ9 : Mem}  {q : (Bool × Mem)}, rA μ9 = some q → Rt G yX12_readAtom (F_X12_readAtom k) (some .boolean) [.ref (G.2.1 + 264)] μ9 (some (.int (b2i q.1))) q.2) {C : Cx} {n : Nat} {μ : Mem}  {r : (Bool × Mem)} (hf : f_X12_readAtom_body_j159 rA μ = some r) (hK : FinR G C (F_X12_readAtom (k + 1)) (some .boolean) (some (.int (b2i r.1))) r.2) : V G C (F_X12_readAtom (k + 1)) 159 [none, none] [] (pic G μ) n 0 0 := by
  unfold f_X12_readAtom_body_j159 at hf
  refine V_iconst (v := 0) d_X12_readAtom_159 ic_0 ?_
  cases hf
  exact R_z hK d_X12_readAtom_160 (Nat.le_of_ble_eq_true rfl) (Nat.le_of_ble_eq_true rfl)
theorem s_X12_readAtom_body_j152 {G : Gl} (hG : G.1.stackTraces = false) {k : Nat} {rA : Mem → Option (Bool × Mem)} (hA : ∀ {μ9 : Mem}  {q : (Bool × Mem)}, rA μ9 = some q → Rt G yX12_readAtom (F_X12_readAtom k) (some .boolean) [.ref (G.2.1 + 264)] μ9 (some (.int (b2i q.1))) q.2) {C : Cx} {n : Nat} {μ : Mem} {l1 : Bool} {r : (Bool × Mem)} (hf : f_X12_readAtom_body_j152 rA μ l1 = some r) (hK : FinR G C (F_X12_readAtom (k + 1)) (some .boolean) (some (.int (b2i r.1))) r.2) : V G C (F_X12_readAtom (k + 1)) 152 [some (.ref (G.2.1 + 264)), some (.int (b2i l1))] [] (pic G μ) n 0 0 := by
  unfold f_X12_readAtom_body_j152 at hf
  refine V_aload_n d_X12_readAtom_152 rfl rfl ?_
  obtain ⟨q1, hq1, hf⟩ := ob hf
  refine B_callV1 (s_X12_readSum hG hq1) k_264 clX12 m_X12_readSum kv_RX12_228 d_X12_readAtom_153 rfl (Nat.le_of_ble_eq_true rfl) ⟨rfl, rfl, Nat.le_of_ble_eq_true rfl, Nat.le_of_ble_eq_true rfl, (show (8 : Nat) < 9 + 3 * (k + 1) by omega)⟩ (fun n => ?_)
  refine V_if_ne (tgt := 161) d_X12_readAtom_156 (by decide) (fun c156 => ?_) (fun c156 => ?_)
  · replace hf := iteT (b2i_ne0 c156) hf
    refine V_aload_n d_X12_readAtom_161 rfl rfl ?_
    refine V_iload_n d_X12_readAtom_162 rfl rfl ?_
    have hJj2 : ∀ j2 : Int32, j2 = (if l1 = true then (11 : Int32) else 12) → V G C (F_X12_readAtom (k + 1)) 173 [none, none] [.int j2, .ref (G.2.1 + 264)] (pic G q1.2) n 0 0 := by
      intro j2 ej2
      subst ej2
      refine V_iconst (v := 0) d_X12_readAtom_173 ic_0 ?_
      obtain ⟨q3, hq3, hf⟩ := ob hf
      refine B_callV0 (s_X12_emits hG hq3) k_264 clX12 m_X12_emits kv_RX12_190 d_X12_readAtom_174 rfl (Nat.le_of_ble_eq_true rfl) ⟨rfl, rfl, Nat.le_of_ble_eq_true rfl, Nat.le_of_ble_eq_true rfl, (show (1 : Nat) < 9 + 3 * (k + 1) by omega)⟩ (fun n => ?_)
      refine V_iconst (v := 1) d_X12_readAtom_177 ic_1 ?_
      cases hf
      exact R_z hK d_X12_readAtom_178 (Nat.le_of_ble_eq_true rfl) (Nat.le_of_ble_eq_true rfl)
    refine V_if_eq (tgt := 171) d_X12_readAtom_163 (by decide) (fun c163 => ?_) (fun c163 => ?_)
    · refine V_bipush (v := 12) d_X12_readAtom_171 bp_12 ?_
      refine V_less (ls' := [none, none]) trivial ?_
      exact hJj2 12 (by rw [if_neg (b2i_nt (b2i_eq0 c163))])
    · refine V_bipush (v := 11) d_X12_readAtom_166 bp_11 ?_
      refine V_goto (tgt := 173) d_X12_readAtom_168 (by decide) ?_
      refine V_less (ls' := [none, none]) trivial ?_
      exact hJj2 11 (by rw [if_pos (b2i_ne0 c163)])
  · replace hf := iteF (b2i_nt (b2i_eq0 c156)) hf
    refine V_less (ls' := [none, none]) trivial ?_
    exact s_X12_readAtom_body_j159 hG hA hf hK
theorem s_X12_readAtom_e {G : Gl} (hG : G.1.stackTraces = false) {k : Nat} {rA : Mem → Option (Bool × Mem)} (hA : ∀ {μ9 : Mem}  {q : (Bool × Mem)}, rA μ9 = some q → Rt G yX12_readAtom (F_X12_readAtom k) (some .boolean) [.ref (G.2.1 + 264)] μ9 (some (.int (b2i q.1))) q.2) {C : Cx} {n : Nat} {μ : Mem}  {r : (Bool × Mem)} (hf : f_X12_readAtom_body rA μ = some r) (hK : FinR G C (F_X12_readAtom (k + 1)) (some .boolean) (some (.int (b2i r.1))) r.2) : V G C (F_X12_readAtom (k + 1)) 0 [some (.ref (G.2.1 + 264)), none] [] (pic G μ) n 0 0 := by
  unfold f_X12_readAtom_body at hf
  refine V_aload_n d_X12_readAtom_0 rfl rfl ?_
  refine V_bipush (v := 40) d_X12_readAtom_1 bp_40 ?_
  obtain ⟨q1, hq1, hf⟩ := ob hf
  refine B_callV1 (s_X12_sign hG hq1) k_264 clX12 m_X12_sign kv_RX12_207 d_X12_readAtom_3 rfl (Nat.le_of_ble_eq_true rfl) ⟨rfl, rfl, Nat.le_of_ble_eq_true rfl, Nat.le_of_ble_eq_true rfl, (show (3 : Nat) < 9 + 3 * (k + 1) by omega)⟩ (fun n => ?_)
  refine V_if_eq (tgt := 56) d_X12_readAtom_6 (by decide) (fun c6 => ?_) (fun c6 => ?_)
  · replace hf := iteF (b2i_nt (b2i_eq0 c6)) hf
    refine V_aload_n d_X12_readAtom_56 rfl rfl ?_
    refine V_ldcS (i := 74) d_X12_readAtom_57 sT_RX12_220 ?_
    obtain ⟨q2, hq2, hf⟩ := ob hf
    refine B_callV1 (s_X12_passes hG sS_74 hq2) k_264 clX12 m_X12_passes kv_RX12_156 d_X12_readAtom_59 rfl (Nat.le_of_ble_eq_true rfl) ⟨rfl, rfl, Nat.le_of_ble_eq_true rfl, Nat.le_of_ble_eq_true rfl, (show (7 : Nat) < 9 + 3 * (k + 1) by omega)⟩ (fun n => ?_)
    refine V_if_eq (tgt := 114) d_X12_readAtom_62 (by decide) (fun c62 => ?_) (fun c62 => ?_)
    · replace hf := iteF (b2i_nt (b2i_eq0 c62)) hf
      refine V_aload_n d_X12_readAtom_114 rfl rfl ?_
      obtain ⟨q3, hq3, hf⟩ := ob hf
      refine B_callV1 (s_X12_readTag hG hq3) k_264 clX12 m_X12_readTag kv_RX12_225 d_X12_readAtom_115 rfl (Nat.le_of_ble_eq_true rfl) ⟨rfl, rfl, Nat.le_of_ble_eq_true rfl, Nat.le_of_ble_eq_true rfl, (show (7 : Nat) < 9 + 3 * (k + 1) by omega)⟩ (fun n => ?_)
      refine V_if_eq (tgt := 123) d_X12_readAtom_118 (by decide) (fun c118 => ?_) (fun c118 => ?_)
      · replace hf := iteF (b2i_nt (b2i_eq0 c118)) hf
        refine V_aload_n d_X12_readAtom_123 rfl rfl ?_
        obtain ⟨q4, hq4, hf⟩ := ob hf
        refine B_callV1 (s_X12_readSum hG hq4) k_264 clX12 m_X12_readSum kv_RX12_228 d_X12_readAtom_124 rfl (Nat.le_of_ble_eq_true rfl) ⟨rfl, rfl, Nat.le_of_ble_eq_true rfl, Nat.le_of_ble_eq_true rfl, (show (8 : Nat) < 9 + 3 * (k + 1) by omega)⟩ (fun n => ?_)
        refine V_if_ne (tgt := 132) d_X12_readAtom_127 (by decide) (fun c127 => ?_) (fun c127 => ?_)
        · replace hf := iteT (b2i_ne0 c127) hf
          refine V_aload_n d_X12_readAtom_132 rfl rfl ?_
          refine V_bipush (v := 60) d_X12_readAtom_133 bp_60 ?_
          obtain ⟨q5, hq5, hf⟩ := ob hf
          refine B_callV1 (s_X12_sign hG hq5) k_264 clX12 m_X12_sign kv_RX12_207 d_X12_readAtom_135 rfl (Nat.le_of_ble_eq_true rfl) ⟨rfl, rfl, Nat.le_of_ble_eq_true rfl, Nat.le_of_ble_eq_true rfl, (show (3 : Nat) < 9 + 3 * (k + 1) by omega)⟩ (fun n => ?_)
          refine V_istore_n (ls' := [_, _]) d_X12_readAtom_138 rfl rfl rfl ?_
          refine V_iload_n d_X12_readAtom_139 rfl rfl ?_
          refine V_if_ne (tgt := 152) d_X12_readAtom_140 (by decide) (fun c140 => ?_) (fun c140 => ?_)
          · replace hf := iteT (b2i_ne0 c140) hf
            refine V_less (ls' := [some _, some _]) ⟨rfl, rfl, trivial⟩ ?_
            exact s_X12_readAtom_body_j152 hG hA hf hK
          · replace hf := iteF (b2i_nt (b2i_eq0 c140)) hf
            refine V_aload_n d_X12_readAtom_143 rfl rfl ?_
            refine V_bipush (v := 62) d_X12_readAtom_144 bp_62 ?_
            obtain ⟨q6, hq6, hf⟩ := ob hf
            refine B_callV1 (s_X12_sign hG hq6) k_264 clX12 m_X12_sign kv_RX12_207 d_X12_readAtom_146 rfl (Nat.le_of_ble_eq_true rfl) ⟨rfl, rfl, Nat.le_of_ble_eq_true rfl, Nat.le_of_ble_eq_true rfl, (show (3 : Nat) < 9 + 3 * (k + 1) by omega)⟩ (fun n => ?_)
            refine V_if_eq (tgt := 159) d_X12_readAtom_149 (by decide) (fun c149 => ?_) (fun c149 => ?_)
            · replace hf := iteF (b2i_nt (b2i_eq0 c149)) hf
              refine V_less (ls' := [none, none]) trivial ?_
              exact s_X12_readAtom_body_j159 hG hA hf hK
            · replace hf := iteT (b2i_ne0 c149) hf
              refine V_less (ls' := [some _, some _]) ⟨rfl, rfl, trivial⟩ ?_
              exact s_X12_readAtom_body_j152 hG hA hf hK
        · replace hf := iteF (b2i_nt (b2i_eq0 c127)) hf
          refine V_iconst (v := 0) d_X12_readAtom_130 ic_0 ?_
          cases hf
          exact R_z hK d_X12_readAtom_131 (Nat.le_of_ble_eq_true rfl) (Nat.le_of_ble_eq_true rfl)
      · replace hf := iteT (b2i_ne0 c118) hf
        refine V_iconst (v := 1) d_X12_readAtom_121 ic_1 ?_
        cases hf
        exact R_z hK d_X12_readAtom_122 (Nat.le_of_ble_eq_true rfl) (Nat.le_of_ble_eq_true rfl)
    · replace hf := iteT (b2i_ne0 c62) hf
      refine V_aload_n d_X12_readAtom_65 rfl rfl ?_
      refine B_get k_264 fl_RX12_214 d_X12_readAtom_66 g_12_13 ?_
      refine V_bipush (v := 6) d_X12_readAtom_69 bp_6 ?_
      refine V_icmp_ne (tgt := 76) d_X12_readAtom_71 (by decide) (fun c71 => ?_) (fun c71 => ?_)
      · replace hf := iteF c71 hf
        refine V_aload_n d_X12_readAtom_76 rfl rfl ?_
        refine V_dup d_X12_readAtom_77 rfl ?_
        refine B_get k_264 fl_RX12_214 d_X12_readAtom_78 g_12_13 ?_
        refine V_iconst (v := 1) d_X12_readAtom_81 ic_1 ?_
        refine V_iadd d_X12_readAtom_82 ?_
        refine B_putI k_264 fl_RX12_214 pt_12_13 (Nat.le_of_ble_eq_true rfl) p_12_13 d_X12_readAtom_83 ?_
        refine V_aload_n d_X12_readAtom_86 rfl rfl ?_
        obtain ⟨q7, hq7, hf⟩ := ob hf
        refine B_callV1 (hA hq7) k_264 clX12 m_X12_readAtom kv_RX12_222 d_X12_readAtom_87 rfl (Nat.le_of_ble_eq_true rfl) ⟨rfl, rfl, Nat.le_of_ble_eq_true rfl, Nat.le_of_ble_eq_true rfl, (show (9 + 3 * k : Nat) < 9 + 3 * (k + 1) by omega)⟩ (fun n => ?_)
        refine V_if_ne (tgt := 95) d_X12_readAtom_90 (by decide) (fun c90 => ?_) (fun c90 => ?_)
        · replace hf := iteT (b2i_ne0 c90) hf
          refine V_aload_n d_X12_readAtom_95 rfl rfl ?_
          refine V_dup d_X12_readAtom_96 rfl ?_
          refine B_get k_264 fl_RX12_214 d_X12_readAtom_97 g_12_13 ?_
          refine V_iconst (v := 1) d_X12_readAtom_100 ic_1 ?_
          refine V_isub d_X12_readAtom_101 ?_
          refine B_putI k_264 fl_RX12_214 pt_12_13 (Nat.le_of_ble_eq_true rfl) p_12_13 d_X12_readAtom_102 ?_
          refine V_aload_n d_X12_readAtom_105 rfl rfl ?_
          refine V_bipush (v := 13) d_X12_readAtom_106 bp_13 ?_
          refine V_iconst (v := 0) d_X12_readAtom_108 ic_0 ?_
          obtain ⟨q8, hq8, hf⟩ := ob hf
          refine B_callV0 (s_X12_emits hG hq8) k_264 clX12 m_X12_emits kv_RX12_190 d_X12_readAtom_109 rfl (Nat.le_of_ble_eq_true rfl) ⟨rfl, rfl, Nat.le_of_ble_eq_true rfl, Nat.le_of_ble_eq_true rfl, (show (1 : Nat) < 9 + 3 * (k + 1) by omega)⟩ (fun n => ?_)
          refine V_iconst (v := 1) d_X12_readAtom_112 ic_1 ?_
          cases hf
          exact R_z hK d_X12_readAtom_113 (Nat.le_of_ble_eq_true rfl) (Nat.le_of_ble_eq_true rfl)
        · replace hf := iteF (b2i_nt (b2i_eq0 c90)) hf
          refine V_iconst (v := 0) d_X12_readAtom_93 ic_0 ?_
          cases hf
          exact R_z hK d_X12_readAtom_94 (Nat.le_of_ble_eq_true rfl) (Nat.le_of_ble_eq_true rfl)
      · replace hf := iteT c71 hf
        refine V_iconst (v := 0) d_X12_readAtom_74 ic_0 ?_
        cases hf
        exact R_z hK d_X12_readAtom_75 (Nat.le_of_ble_eq_true rfl) (Nat.le_of_ble_eq_true rfl)
  · replace hf := iteT (b2i_ne0 c6) hf
    refine V_aload_n d_X12_readAtom_9 rfl rfl ?_
    refine B_get k_264 fl_RX12_214 d_X12_readAtom_10 g_12_13 ?_
    refine V_bipush (v := 6) d_X12_readAtom_13 bp_6 ?_
    refine V_icmp_ne (tgt := 20) d_X12_readAtom_15 (by decide) (fun c15 => ?_) (fun c15 => ?_)
    · replace hf := iteF c15 hf
      refine V_aload_n d_X12_readAtom_20 rfl rfl ?_
      refine V_dup d_X12_readAtom_21 rfl ?_
      refine B_get k_264 fl_RX12_214 d_X12_readAtom_22 g_12_13 ?_
      refine V_iconst (v := 1) d_X12_readAtom_25 ic_1 ?_
      refine V_iadd d_X12_readAtom_26 ?_
      refine B_putI k_264 fl_RX12_214 pt_12_13 (Nat.le_of_ble_eq_true rfl) p_12_13 d_X12_readAtom_27 ?_
      refine V_aload_n d_X12_readAtom_30 rfl rfl ?_
      obtain ⟨q9, hq9, hf⟩ := ob hf
      refine B_callV1 (s_X12_readCond hG hA hq9) k_264 clX12 m_X12_readCond kv_RX12_217 d_X12_readAtom_31 rfl (Nat.le_of_ble_eq_true rfl) ⟨rfl, rfl, Nat.le_of_ble_eq_true rfl, Nat.le_of_ble_eq_true rfl, (show (11 + 3 * k : Nat) < 9 + 3 * (k + 1) by omega)⟩ (fun n => ?_)
      refine V_if_ne (tgt := 39) d_X12_readAtom_34 (by decide) (fun c34 => ?_) (fun c34 => ?_)
      · replace hf := iteT (b2i_ne0 c34) hf
        refine V_aload_n d_X12_readAtom_39 rfl rfl ?_
        refine V_dup d_X12_readAtom_40 rfl ?_
        refine B_get k_264 fl_RX12_214 d_X12_readAtom_41 g_12_13 ?_
        refine V_iconst (v := 1) d_X12_readAtom_44 ic_1 ?_
        refine V_isub d_X12_readAtom_45 ?_
        refine B_putI k_264 fl_RX12_214 pt_12_13 (Nat.le_of_ble_eq_true rfl) p_12_13 d_X12_readAtom_46 ?_
        refine V_aload_n d_X12_readAtom_49 rfl rfl ?_
        refine V_bipush (v := 41) d_X12_readAtom_50 bp_41 ?_
        obtain ⟨q10, hq10, hf⟩ := ob hf
        refine B_callV1 (s_X12_sign hG hq10) k_264 clX12 m_X12_sign kv_RX12_207 d_X12_readAtom_52 rfl (Nat.le_of_ble_eq_true rfl) ⟨rfl, rfl, Nat.le_of_ble_eq_true rfl, Nat.le_of_ble_eq_true rfl, (show (3 : Nat) < 9 + 3 * (k + 1) by omega)⟩ (fun n => ?_)
        cases hf
        exact R_z hK d_X12_readAtom_55 (Nat.le_of_ble_eq_true rfl) (Nat.le_of_ble_eq_true rfl)
      · replace hf := iteF (b2i_nt (b2i_eq0 c34)) hf
        refine V_iconst (v := 0) d_X12_readAtom_37 ic_0 ?_
        cases hf
        exact R_z hK d_X12_readAtom_38 (Nat.le_of_ble_eq_true rfl) (Nat.le_of_ble_eq_true rfl)
    · replace hf := iteT c15 hf
      refine V_iconst (v := 0) d_X12_readAtom_18 ic_0 ?_
      cases hf
      exact R_z hK d_X12_readAtom_19 (Nat.le_of_ble_eq_true rfl) (Nat.le_of_ble_eq_true rfl)
theorem s_X12_readAtom_body {G : Gl} (hG : G.1.stackTraces = false) {k : Nat} {rA : Mem → Option (Bool × Mem)} (hA : ∀ {μ9 : Mem}  {q : (Bool × Mem)}, rA μ9 = some q → Rt G yX12_readAtom (F_X12_readAtom k) (some .boolean) [.ref (G.2.1 + 264)] μ9 (some (.int (b2i q.1))) q.2) {μ : Mem} {r : (Bool × Mem)} (hf : f_X12_readAtom_body rA μ = some r) : Rt G yX12_readAtom (F_X12_readAtom (k + 1)) (some .boolean) [.ref (G.2.1 + 264)] μ (some (.int (b2i r.1))) r.2 := fun n => Sd.of hG ⟨by decide +kernel, rfl, rfl⟩ rfl (Nat.le_of_ble_eq_true rfl) rfl (fun C hK => s_X12_readAtom_e hG hA hf hK)
theorem s_X12_readAtom {G : Gl} (hG : G.1.stackTraces = false) : ∀ (k : Nat) {μ : Mem} {r : (Bool × Mem)}, f_X12_readAtom k μ = some r → Rt G yX12_readAtom (F_X12_readAtom k) (some .boolean) [.ref (G.2.1 + 264)] μ (some (.int (b2i r.1))) r.2
  | 0 => fun hf => by cases hf
  | k + 1 => fun hf => s_X12_readAtom_body hG (fun h9 => s_X12_readAtom hG k h9) hf
theorem d_X12_readLawLine_0 : decode cX12_readLawLine 0 = .ok (.sipush 1220, 3) := by decide +kernel
theorem d_X12_readLawLine_3 : decode cX12_readLawLine 3 = .ok (.iconst 4, 1) := by decide +kernel
theorem d_X12_readLawLine_4 : decode cX12_readLawLine 4 = .ok (.iload_n 1, 1) := by decide +kernel
theorem d_X12_readLawLine_5 : decode cX12_readLawLine 5 = .ok (.imul, 1) := by decide +kernel
theorem d_X12_readLawLine_6 : decode cX12_readLawLine 6 = .ok (.iadd, 1) := by decide +kernel
theorem d_X12_readLawLine_7 : decode cX12_readLawLine 7 = .ok (.istore_n 2, 1) := by decide +kernel
theorem d_X12_readLawLine_8 : decode cX12_readLawLine 8 = .ok (.aload_n 0, 1) := by decide +kernel
theorem d_X12_readLawLine_9 : decode cX12_readLawLine 9 = .ok (.getfield 13, 3) := by decide +kernel
theorem d_X12_readLawLine_12 : decode cX12_readLawLine 12 = .ok (.iload_n 2, 1) := by decide +kernel
theorem d_X12_readLawLine_13 : decode cX12_readLawLine 13 = .ok (.aload_n 0, 1) := by decide +kernel
theorem d_X12_readLawLine_14 : decode cX12_readLawLine 14 = .ok (.ldc 238, 2) := by decide +kernel
theorem d_X12_readLawLine_16 : decode cX12_readLawLine 16 = .ok (.invokevirtual 124, 3) := by decide +kernel
theorem d_X12_readLawLine_19 : decode cX12_readLawLine 19 = .ok (.ifCond .eq 7, 3) := by decide +kernel
theorem d_X12_readLawLine_22 : decode cX12_readLawLine 22 = .ok (.iconst 0, 1) := by decide +kernel
theorem d_X12_readLawLine_23 : decode cX12_readLawLine 23 = .ok (.goto 30, 3) := by decide +kernel
theorem d_X12_readLawLine_26 : decode cX12_readLawLine 26 = .ok (.aload_n 0, 1) := by decide +kernel
theorem d_X12_readLawLine_27 : decode cX12_readLawLine 27 = .ok (.ldc 240, 2) := by decide +kernel
theorem d_X12_readLawLine_29 : decode cX12_readLawLine 29 = .ok (.invokevirtual 124, 3) := by decide +kernel
theorem d_X12_readLawLine_32 : decode cX12_readLawLine 32 = .ok (.ifCond .eq 7, 3) := by decide +kernel
theorem d_X12_readLawLine_35 : decode cX12_readLawLine 35 = .ok (.iconst 1, 1) := by decide +kernel
theorem d_X12_readLawLine_36 : decode cX12_readLawLine 36 = .ok (.goto 17, 3) := by decide +kernel
theorem d_X12_readLawLine_39 : decode cX12_readLawLine 39 = .ok (.aload_n 0, 1) := by decide +kernel
theorem d_X12_readLawLine_40 : decode cX12_readLawLine 40 = .ok (.ldc 242, 2) := by decide +kernel
theorem d_X12_readLawLine_42 : decode cX12_readLawLine 42 = .ok (.invokevirtual 124, 3) := by decide +kernel
theorem d_X12_readLawLine_45 : decode cX12_readLawLine 45 = .ok (.ifCond .eq 7, 3) := by decide +kernel
theorem d_X12_readLawLine_48 : decode cX12_readLawLine 48 = .ok (.iconst 2, 1) := by decide +kernel
theorem d_X12_readLawLine_49 : decode cX12_readLawLine 49 = .ok (.goto 4, 3) := by decide +kernel
theorem d_X12_readLawLine_52 : decode cX12_readLawLine 52 = .ok (.iconst (-1), 1) := by decide +kernel
theorem d_X12_readLawLine_53 : decode cX12_readLawLine 53 = .ok (.iastore, 1) := by decide +kernel
theorem d_X12_readLawLine_54 : decode cX12_readLawLine 54 = .ok (.aload_n 0, 1) := by decide +kernel
theorem d_X12_readLawLine_55 : decode cX12_readLawLine 55 = .ok (.getfield 13, 3) := by decide +kernel
theorem d_X12_readLawLine_58 : decode cX12_readLawLine 58 = .ok (.iload_n 2, 1) := by decide +kernel
theorem d_X12_readLawLine_59 : decode cX12_readLawLine 59 = .ok (.iaload, 1) := by decide +kernel
theorem d_X12_readLawLine_60 : decode cX12_readLawLine 60 = .ok (.ifCond .ge 5, 3) := by decide +kernel
theorem d_X12_readLawLine_63 : decode cX12_readLawLine 63 = .ok (.iconst 0, 1) := by decide +kernel
theorem d_X12_readLawLine_64 : decode cX12_readLawLine 64 = .ok (.ireturn, 1) := by decide +kernel
theorem d_X12_readLawLine_65 : decode cX12_readLawLine 65 = .ok (.aload_n 0, 1) := by decide +kernel
theorem d_X12_readLawLine_66 : decode cX12_readLawLine 66 = .ok (.getfield 13, 3) := by decide +kernel
theorem d_X12_readLawLine_69 : decode cX12_readLawLine 69 = .ok (.iload_n 2, 1) := by decide +kernel
theorem d_X12_readLawLine_70 : decode cX12_readLawLine 70 = .ok (.iconst 1, 1) := by decide +kernel
theorem d_X12_readLawLine_71 : decode cX12_readLawLine 71 = .ok (.iadd, 1) := by decide +kernel
theorem d_X12_readLawLine_72 : decode cX12_readLawLine 72 = .ok (.aload_n 0, 1) := by decide +kernel
theorem d_X12_readLawLine_73 : decode cX12_readLawLine 73 = .ok (.iconst 0, 1) := by decide +kernel
theorem d_X12_readLawLine_74 : decode cX12_readLawLine 74 = .ok (.bipush 99, 2) := by decide +kernel
theorem d_X12_readLawLine_76 : decode cX12_readLawLine 76 = .ok (.invokevirtual 128, 3) := by decide +kernel
theorem d_X12_readLawLine_79 : decode cX12_readLawLine 79 = .ok (.iastore, 1) := by decide +kernel
theorem d_X12_readLawLine_80 : decode cX12_readLawLine 80 = .ok (.aload_n 0, 1) := by decide +kernel
theorem d_X12_readLawLine_81 : decode cX12_readLawLine 81 = .ok (.getfield 13, 3) := by decide +kernel
theorem d_X12_readLawLine_84 : decode cX12_readLawLine 84 = .ok (.iload_n 2, 1) := by decide +kernel
theorem d_X12_readLawLine_85 : decode cX12_readLawLine 85 = .ok (.iconst 1, 1) := by decide +kernel
theorem d_X12_readLawLine_86 : decode cX12_readLawLine 86 = .ok (.iadd, 1) := by decide +kernel
theorem d_X12_readLawLine_87 : decode cX12_readLawLine 87 = .ok (.iaload, 1) := by decide +kernel
theorem d_X12_readLawLine_88 : decode cX12_readLawLine 88 = .ok (.ifCond .ge 5, 3) := by decide +kernel
theorem d_X12_readLawLine_91 : decode cX12_readLawLine 91 = .ok (.iconst 0, 1) := by decide +kernel
theorem d_X12_readLawLine_92 : decode cX12_readLawLine 92 = .ok (.ireturn, 1) := by decide +kernel
theorem d_X12_readLawLine_93 : decode cX12_readLawLine 93 = .ok (.aload_n 0, 1) := by decide +kernel
theorem d_X12_readLawLine_94 : decode cX12_readLawLine 94 = .ok (.getfield 13, 3) := by decide +kernel
theorem d_X12_readLawLine_97 : decode cX12_readLawLine 97 = .ok (.iload_n 2, 1) := by decide +kernel
theorem d_X12_readLawLine_98 : decode cX12_readLawLine 98 = .ok (.iconst 2, 1) := by decide +kernel
theorem d_X12_readLawLine_99 : decode cX12_readLawLine 99 = .ok (.iadd, 1) := by decide +kernel
theorem d_X12_readLawLine_100 : decode cX12_readLawLine 100 = .ok (.aload_n 0, 1) := by decide +kernel
theorem d_X12_readLawLine_101 : decode cX12_readLawLine 101 = .ok (.getfield 187, 3) := by decide +kernel
theorem d_X12_readLawLine_104 : decode cX12_readLawLine 104 = .ok (.iastore, 1) := by decide +kernel
theorem d_X12_readLawLine_105 : decode cX12_readLawLine 105 = .ok (.aload_n 0, 1) := by decide +kernel
theorem d_X12_readLawLine_106 : decode cX12_readLawLine 106 = .ok (.iconst 0, 1) := by decide +kernel
theorem d_X12_readLawLine_107 : decode cX12_readLawLine 107 = .ok (.putfield 214, 3) := by decide +kernel
theorem d_X12_readLawLine_110 : decode cX12_readLawLine 110 = .ok (.aload_n 0, 1) := by decide +kernel
theorem d_X12_readLawLine_111 : decode cX12_readLawLine 111 = .ok (.ldc 244, 2) := by decide +kernel
theorem d_X12_readLawLine_113 : decode cX12_readLawLine 113 = .ok (.invokevirtual 156, 3) := by decide +kernel
theorem d_X12_readLawLine_116 : decode cX12_readLawLine 116 = .ok (.ifCond .eq 12, 3) := by decide +kernel
theorem d_X12_readLawLine_119 : decode cX12_readLawLine 119 = .ok (.aload_n 0, 1) := by decide +kernel
theorem d_X12_readLawLine_120 : decode cX12_readLawLine 120 = .ok (.invokevirtual 217, 3) := by decide +kernel
theorem d_X12_readLawLine_123 : decode cX12_readLawLine 123 = .ok (.ifCond .ne 5, 3) := by decide +kernel
theorem d_X12_readLawLine_126 : decode cX12_readLawLine 126 = .ok (.iconst 0, 1) := by decide +kernel
theorem d_X12_readLawLine_127 : decode cX12_readLawLine 127 = .ok (.ireturn, 1) := by decide +kernel
theorem d_X12_readLawLine_128 : decode cX12_readLawLine 128 = .ok (.aload_n 0, 1) := by decide +kernel
theorem d_X12_readLawLine_129 : decode cX12_readLawLine 129 = .ok (.getfield 13, 3) := by decide +kernel
theorem d_X12_readLawLine_132 : decode cX12_readLawLine 132 = .ok (.iload_n 2, 1) := by decide +kernel
theorem d_X12_readLawLine_133 : decode cX12_readLawLine 133 = .ok (.iconst 3, 1) := by decide +kernel
theorem d_X12_readLawLine_134 : decode cX12_readLawLine 134 = .ok (.iadd, 1) := by decide +kernel
theorem d_X12_readLawLine_135 : decode cX12_readLawLine 135 = .ok (.aload_n 0, 1) := by decide +kernel
theorem d_X12_readLawLine_136 : decode cX12_readLawLine 136 = .ok (.getfield 187, 3) := by decide +kernel
theorem d_X12_readLawLine_139 : decode cX12_readLawLine 139 = .ok (.iastore, 1) := by decide +kernel
theorem d_X12_readLawLine_140 : decode cX12_readLawLine 140 = .ok (.iconst 1, 1) := by decide +kernel
theorem d_X12_readLawLine_141 : decode cX12_readLawLine 141 = .ok (.ireturn, 1) := by decide +kernel
theorem s_X12_readLawLine_j128 {G : Gl} (hG : G.1.stackTraces = false) {C : Cx} {n : Nat} {μ : Mem} {l2 : Int32} {r : (Bool × Mem)} (hf : f_X12_readLawLine_j128 μ l2 = some r) (hK : FinR G C F_X12_readLawLine (some .boolean) (some (.int (b2i r.1))) r.2) : V G C F_X12_readLawLine 128 [some (.ref (G.2.1 + 264)), none, some (.int l2)] [] (pic G μ) n 0 0 := by
  unfold f_X12_readLawLine_j128 at hf
  refine V_aload_n d_X12_readLawLine_128 rfl rfl ?_
  refine B_get k_264 fl_RX12_13 d_X12_readLawLine_129 g_12_1 ?_
  refine V_iload_n d_X12_readLawLine_132 rfl rfl ?_
  refine V_iconst (v := 3) d_X12_readLawLine_133 ic_3 ?_
  refine V_iadd d_X12_readLawLine_134 ?_
  refine V_aload_n d_X12_readLawLine_135 rfl rfl ?_
  refine B_get k_264 fl_RX12_187 d_X12_readLawLine_136 g_12_16 ?_
  obtain ⟨μ1, hμ1, hf⟩ := ob hf
  refine B_iast k_265 hμ1 d_X12_readLawLine_139 ?_
  refine V_iconst (v := 1) d_X12_readLawLine_140 ic_1 ?_
  cases hf
  exact R_z hK d_X12_readLawLine_141 (Nat.le_of_ble_eq_true rfl) (Nat.le_of_ble_eq_true rfl)
theorem s_X12_readLawLine_j53 {G : Gl} (hG : G.1.stackTraces = false) {C : Cx} {n : Nat} {μ : Mem} {l2 : Int32} {k1 : Int32} {k2 : Int32} {r : (Bool × Mem)} (hf : f_X12_readLawLine_j53 μ l2 k1 k2 = some r) (hK : FinR G C F_X12_readLawLine (some .boolean) (some (.int (b2i r.1))) r.2) : V G C F_X12_readLawLine 53 [some (.ref (G.2.1 + 264)), none, some (.int l2)] [.int k2, .int k1, .ref (G.2.1 + 265)] (pic G μ) n 0 0 := by
  unfold f_X12_readLawLine_j53 at hf
  obtain ⟨μ1, hμ1, hf⟩ := ob hf
  refine B_iast k_265 hμ1 d_X12_readLawLine_53 ?_
  refine V_aload_n d_X12_readLawLine_54 rfl rfl ?_
  refine B_get k_264 fl_RX12_13 d_X12_readLawLine_55 g_12_1 ?_
  refine V_iload_n d_X12_readLawLine_58 rfl rfl ?_
  obtain ⟨t2, ht2, hf⟩ := ob hf
  refine B_iald k_265 ht2 d_X12_readLawLine_59 ?_
  refine V_if_ge (tgt := 65) d_X12_readLawLine_60 (by decide) (fun c60 => ?_) (fun c60 => ?_)
  · replace hf := iteT c60 hf
    refine V_aload_n d_X12_readLawLine_65 rfl rfl ?_
    refine B_get k_264 fl_RX12_13 d_X12_readLawLine_66 g_12_1 ?_
    refine V_iload_n d_X12_readLawLine_69 rfl rfl ?_
    refine V_iconst (v := 1) d_X12_readLawLine_70 ic_1 ?_
    refine V_iadd d_X12_readLawLine_71 ?_
    refine V_aload_n d_X12_readLawLine_72 rfl rfl ?_
    refine V_iconst (v := 0) d_X12_readLawLine_73 ic_0 ?_
    refine V_bipush (v := 99) d_X12_readLawLine_74 bp_99 ?_
    obtain ⟨q3, hq3, hf⟩ := ob hf
    refine B_callV1 (s_X12_number hG hq3) k_264 clX12 m_X12_number kv_RX12_128 d_X12_readLawLine_76 rfl (Nat.le_of_ble_eq_true rfl) ⟨rfl, rfl, Nat.le_of_ble_eq_true rfl, Nat.le_of_ble_eq_true rfl, Nat.le_of_ble_eq_true rfl⟩ (fun n => ?_)
    obtain ⟨μ4, hμ4, hf⟩ := ob hf
    refine B_iast k_265 hμ4 d_X12_readLawLine_79 ?_
    refine V_aload_n d_X12_readLawLine_80 rfl rfl ?_
    refine B_get k_264 fl_RX12_13 d_X12_readLawLine_81 g_12_1 ?_
    refine V_iload_n d_X12_readLawLine_84 rfl rfl ?_
    refine V_iconst (v := 1) d_X12_readLawLine_85 ic_1 ?_
    refine V_iadd d_X12_readLawLine_86 ?_
    obtain ⟨t5, ht5, hf⟩ := ob hf
    refine B_iald k_265 ht5 d_X12_readLawLine_87 ?_
    refine V_if_ge (tgt := 93) d_X12_readLawLine_88 (by decide) (fun c88 => ?_) (fun c88 => ?_)
    · replace hf := iteT c88 hf
      refine V_aload_n d_X12_readLawLine_93 rfl rfl ?_
      refine B_get k_264 fl_RX12_13 d_X12_readLawLine_94 g_12_1 ?_
      refine V_iload_n d_X12_readLawLine_97 rfl rfl ?_
      refine V_iconst (v := 2) d_X12_readLawLine_98 ic_2 ?_
      refine V_iadd d_X12_readLawLine_99 ?_
      refine V_aload_n d_X12_readLawLine_100 rfl rfl ?_
      refine B_get k_264 fl_RX12_187 d_X12_readLawLine_101 g_12_16 ?_
      obtain ⟨μ6, hμ6, hf⟩ := ob hf
      refine B_iast k_265 hμ6 d_X12_readLawLine_104 ?_
      refine V_aload_n d_X12_readLawLine_105 rfl rfl ?_
      refine V_iconst (v := 0) d_X12_readLawLine_106 ic_0 ?_
      refine B_putI k_264 fl_RX12_214 pt_12_13 (Nat.le_of_ble_eq_true rfl) p_12_13 d_X12_readLawLine_107 ?_
      refine V_aload_n d_X12_readLawLine_110 rfl rfl ?_
      refine V_ldcS (i := 78) d_X12_readLawLine_111 sT_RX12_244 ?_
      obtain ⟨q7, hq7, hf⟩ := ob hf
      refine B_callV1 (s_X12_passes hG sS_78 hq7) k_264 clX12 m_X12_passes kv_RX12_156 d_X12_readLawLine_113 rfl (Nat.le_of_ble_eq_true rfl) ⟨rfl, rfl, Nat.le_of_ble_eq_true rfl, Nat.le_of_ble_eq_true rfl, Nat.le_of_ble_eq_true rfl⟩ (fun n => ?_)
      refine V_if_eq (tgt := 128) d_X12_readLawLine_116 (by decide) (fun c116 => ?_) (fun c116 => ?_)
      · replace hf := iteF (b2i_nt (b2i_eq0 c116)) hf
        refine V_less (ls' := [some _, none, some _]) ⟨rfl, rfl, trivial⟩ ?_
        exact s_X12_readLawLine_j128 hG hf hK
      · replace hf := iteT (b2i_ne0 c116) hf
        refine V_aload_n d_X12_readLawLine_119 rfl rfl ?_
        obtain ⟨q8, hq8, hf⟩ := ob hf
        refine B_callV1 (s_X12_readCond hG (fun h9 => s_X12_readAtom hG 8 h9) hq8) k_264 clX12 m_X12_readCond kv_RX12_217 d_X12_readLawLine_120 rfl (Nat.le_of_ble_eq_true rfl) ⟨rfl, rfl, Nat.le_of_ble_eq_true rfl, Nat.le_of_ble_eq_true rfl, Nat.le_of_ble_eq_true rfl⟩ (fun n => ?_)
        refine V_if_ne (tgt := 128) d_X12_readLawLine_123 (by decide) (fun c123 => ?_) (fun c123 => ?_)
        · replace hf := iteT (b2i_ne0 c123) hf
          refine V_less (ls' := [some _, none, some _]) ⟨rfl, rfl, trivial⟩ ?_
          exact s_X12_readLawLine_j128 hG hf hK
        · replace hf := iteF (b2i_nt (b2i_eq0 c123)) hf
          refine V_iconst (v := 0) d_X12_readLawLine_126 ic_0 ?_
          cases hf
          exact R_z hK d_X12_readLawLine_127 (Nat.le_of_ble_eq_true rfl) (Nat.le_of_ble_eq_true rfl)
    · replace hf := iteF c88 hf
      refine V_iconst (v := 0) d_X12_readLawLine_91 ic_0 ?_
      cases hf
      exact R_z hK d_X12_readLawLine_92 (Nat.le_of_ble_eq_true rfl) (Nat.le_of_ble_eq_true rfl)
  · replace hf := iteF c60 hf
    refine V_iconst (v := 0) d_X12_readLawLine_63 ic_0 ?_
    cases hf
    exact R_z hK d_X12_readLawLine_64 (Nat.le_of_ble_eq_true rfl) (Nat.le_of_ble_eq_true rfl)
theorem s_X12_readLawLine_e {G : Gl} (hG : G.1.stackTraces = false) {C : Cx} {n : Nat} {μ : Mem} {p1 : Int32} {r : (Bool × Mem)} (hf : f_X12_readLawLine μ p1 = some r) (hK : FinR G C F_X12_readLawLine (some .boolean) (some (.int (b2i r.1))) r.2) : V G C F_X12_readLawLine 0 [some (.ref (G.2.1 + 264)), some (.int p1), none] [] (pic G μ) n 0 0 := by
  unfold f_X12_readLawLine at hf
  refine V_sipush (v := 1220) d_X12_readLawLine_0 sp_1220 ?_
  refine V_iconst (v := 4) d_X12_readLawLine_3 ic_4 ?_
  refine V_iload_n d_X12_readLawLine_4 rfl rfl ?_
  refine V_imul d_X12_readLawLine_5 ?_
  refine V_iadd d_X12_readLawLine_6 ?_
  refine V_istore_n (ls' := [_, _, _]) d_X12_readLawLine_7 rfl rfl rfl ?_
  refine V_aload_n d_X12_readLawLine_8 rfl rfl ?_
  refine B_get k_264 fl_RX12_13 d_X12_readLawLine_9 g_12_1 ?_
  refine V_iload_n d_X12_readLawLine_12 rfl rfl ?_
  refine V_aload_n d_X12_readLawLine_13 rfl rfl ?_
  refine V_ldcS (i := 75) d_X12_readLawLine_14 sT_RX12_238 ?_
  obtain ⟨t1, ht1, hf⟩ := ob hf
  refine B_callV1 (s_X12_isWord hG sS_75 ht1) k_264 clX12 m_X12_isWord kv_RX12_124 d_X12_readLawLine_16 rfl (Nat.le_of_ble_eq_true rfl) ⟨rfl, rfl, Nat.le_of_ble_eq_true rfl, Nat.le_of_ble_eq_true rfl, Nat.le_of_ble_eq_true rfl⟩ (fun n => ?_)
  refine V_if_eq (tgt := 26) d_X12_readLawLine_19 (by decide) (fun c19 => ?_) (fun c19 => ?_)
  · replace hf := iteF (b2i_nt (b2i_eq0 c19)) hf
    refine V_aload_n d_X12_readLawLine_26 rfl rfl ?_
    refine V_ldcS (i := 76) d_X12_readLawLine_27 sT_RX12_240 ?_
    obtain ⟨t2, ht2, hf⟩ := ob hf
    refine B_callV1 (s_X12_isWord hG sS_76 ht2) k_264 clX12 m_X12_isWord kv_RX12_124 d_X12_readLawLine_29 rfl (Nat.le_of_ble_eq_true rfl) ⟨rfl, rfl, Nat.le_of_ble_eq_true rfl, Nat.le_of_ble_eq_true rfl, Nat.le_of_ble_eq_true rfl⟩ (fun n => ?_)
    refine V_if_eq (tgt := 39) d_X12_readLawLine_32 (by decide) (fun c32 => ?_) (fun c32 => ?_)
    · replace hf := iteF (b2i_nt (b2i_eq0 c32)) hf
      refine V_aload_n d_X12_readLawLine_39 rfl rfl ?_
      refine V_ldcS (i := 77) d_X12_readLawLine_40 sT_RX12_242 ?_
      obtain ⟨t3, ht3, hf⟩ := ob hf
      refine B_callV1 (s_X12_isWord hG sS_77 ht3) k_264 clX12 m_X12_isWord kv_RX12_124 d_X12_readLawLine_42 rfl (Nat.le_of_ble_eq_true rfl) ⟨rfl, rfl, Nat.le_of_ble_eq_true rfl, Nat.le_of_ble_eq_true rfl, Nat.le_of_ble_eq_true rfl⟩ (fun n => ?_)
      have hJj4 : ∀ j4 : Int32, j4 = (if t3 = true then (2 : Int32) else (-1)) → V G C F_X12_readLawLine 53 [some (.ref (G.2.1 + 264)), none, some (.int (1220 + (4 * p1)))] [.int j4, .int (1220 + (4 * p1)), .ref (G.2.1 + 265)] (pic G μ) n 0 0 := by
        intro j4 ej4
        subst ej4
        obtain ⟨μ5, hμ5, hf⟩ := ob hf
        refine B_iast k_265 hμ5 d_X12_readLawLine_53 ?_
        refine V_aload_n d_X12_readLawLine_54 rfl rfl ?_
        refine B_get k_264 fl_RX12_13 d_X12_readLawLine_55 g_12_1 ?_
        refine V_iload_n d_X12_readLawLine_58 rfl rfl ?_
        obtain ⟨t6, ht6, hf⟩ := ob hf
        refine B_iald k_265 ht6 d_X12_readLawLine_59 ?_
        refine V_if_ge (tgt := 65) d_X12_readLawLine_60 (by decide) (fun c60 => ?_) (fun c60 => ?_)
        · replace hf := iteT c60 hf
          refine V_aload_n d_X12_readLawLine_65 rfl rfl ?_
          refine B_get k_264 fl_RX12_13 d_X12_readLawLine_66 g_12_1 ?_
          refine V_iload_n d_X12_readLawLine_69 rfl rfl ?_
          refine V_iconst (v := 1) d_X12_readLawLine_70 ic_1 ?_
          refine V_iadd d_X12_readLawLine_71 ?_
          refine V_aload_n d_X12_readLawLine_72 rfl rfl ?_
          refine V_iconst (v := 0) d_X12_readLawLine_73 ic_0 ?_
          refine V_bipush (v := 99) d_X12_readLawLine_74 bp_99 ?_
          obtain ⟨q7, hq7, hf⟩ := ob hf
          refine B_callV1 (s_X12_number hG hq7) k_264 clX12 m_X12_number kv_RX12_128 d_X12_readLawLine_76 rfl (Nat.le_of_ble_eq_true rfl) ⟨rfl, rfl, Nat.le_of_ble_eq_true rfl, Nat.le_of_ble_eq_true rfl, Nat.le_of_ble_eq_true rfl⟩ (fun n => ?_)
          obtain ⟨μ8, hμ8, hf⟩ := ob hf
          refine B_iast k_265 hμ8 d_X12_readLawLine_79 ?_
          refine V_aload_n d_X12_readLawLine_80 rfl rfl ?_
          refine B_get k_264 fl_RX12_13 d_X12_readLawLine_81 g_12_1 ?_
          refine V_iload_n d_X12_readLawLine_84 rfl rfl ?_
          refine V_iconst (v := 1) d_X12_readLawLine_85 ic_1 ?_
          refine V_iadd d_X12_readLawLine_86 ?_
          obtain ⟨t9, ht9, hf⟩ := ob hf
          refine B_iald k_265 ht9 d_X12_readLawLine_87 ?_
          refine V_if_ge (tgt := 93) d_X12_readLawLine_88 (by decide) (fun c88 => ?_) (fun c88 => ?_)
          · replace hf := iteT c88 hf
            refine V_aload_n d_X12_readLawLine_93 rfl rfl ?_
            refine B_get k_264 fl_RX12_13 d_X12_readLawLine_94 g_12_1 ?_
            refine V_iload_n d_X12_readLawLine_97 rfl rfl ?_
            refine V_iconst (v := 2) d_X12_readLawLine_98 ic_2 ?_
            refine V_iadd d_X12_readLawLine_99 ?_
            refine V_aload_n d_X12_readLawLine_100 rfl rfl ?_
            refine B_get k_264 fl_RX12_187 d_X12_readLawLine_101 g_12_16 ?_
            obtain ⟨μ10, hμ10, hf⟩ := ob hf
            refine B_iast k_265 hμ10 d_X12_readLawLine_104 ?_
            refine V_aload_n d_X12_readLawLine_105 rfl rfl ?_
            refine V_iconst (v := 0) d_X12_readLawLine_106 ic_0 ?_
            refine B_putI k_264 fl_RX12_214 pt_12_13 (Nat.le_of_ble_eq_true rfl) p_12_13 d_X12_readLawLine_107 ?_
            refine V_aload_n d_X12_readLawLine_110 rfl rfl ?_
            refine V_ldcS (i := 78) d_X12_readLawLine_111 sT_RX12_244 ?_
            obtain ⟨q11, hq11, hf⟩ := ob hf
            refine B_callV1 (s_X12_passes hG sS_78 hq11) k_264 clX12 m_X12_passes kv_RX12_156 d_X12_readLawLine_113 rfl (Nat.le_of_ble_eq_true rfl) ⟨rfl, rfl, Nat.le_of_ble_eq_true rfl, Nat.le_of_ble_eq_true rfl, Nat.le_of_ble_eq_true rfl⟩ (fun n => ?_)
            refine V_if_eq (tgt := 128) d_X12_readLawLine_116 (by decide) (fun c116 => ?_) (fun c116 => ?_)
            · replace hf := iteF (b2i_nt (b2i_eq0 c116)) hf
              refine V_less (ls' := [some _, none, some _]) ⟨rfl, rfl, trivial⟩ ?_
              exact s_X12_readLawLine_j128 hG hf hK
            · replace hf := iteT (b2i_ne0 c116) hf
              refine V_aload_n d_X12_readLawLine_119 rfl rfl ?_
              obtain ⟨q12, hq12, hf⟩ := ob hf
              refine B_callV1 (s_X12_readCond hG (fun h9 => s_X12_readAtom hG 8 h9) hq12) k_264 clX12 m_X12_readCond kv_RX12_217 d_X12_readLawLine_120 rfl (Nat.le_of_ble_eq_true rfl) ⟨rfl, rfl, Nat.le_of_ble_eq_true rfl, Nat.le_of_ble_eq_true rfl, Nat.le_of_ble_eq_true rfl⟩ (fun n => ?_)
              refine V_if_ne (tgt := 128) d_X12_readLawLine_123 (by decide) (fun c123 => ?_) (fun c123 => ?_)
              · replace hf := iteT (b2i_ne0 c123) hf
                refine V_less (ls' := [some _, none, some _]) ⟨rfl, rfl, trivial⟩ ?_
                exact s_X12_readLawLine_j128 hG hf hK
              · replace hf := iteF (b2i_nt (b2i_eq0 c123)) hf
                refine V_iconst (v := 0) d_X12_readLawLine_126 ic_0 ?_
                cases hf
                exact R_z hK d_X12_readLawLine_127 (Nat.le_of_ble_eq_true rfl) (Nat.le_of_ble_eq_true rfl)
          · replace hf := iteF c88 hf
            refine V_iconst (v := 0) d_X12_readLawLine_91 ic_0 ?_
            cases hf
            exact R_z hK d_X12_readLawLine_92 (Nat.le_of_ble_eq_true rfl) (Nat.le_of_ble_eq_true rfl)
        · replace hf := iteF c60 hf
          refine V_iconst (v := 0) d_X12_readLawLine_63 ic_0 ?_
          cases hf
          exact R_z hK d_X12_readLawLine_64 (Nat.le_of_ble_eq_true rfl) (Nat.le_of_ble_eq_true rfl)
      refine V_if_eq (tgt := 52) d_X12_readLawLine_45 (by decide) (fun c45 => ?_) (fun c45 => ?_)
      · refine V_iconst (v := (-1)) d_X12_readLawLine_52 ic_m1 ?_
        refine V_less (ls' := [some _, none, some _]) ⟨rfl, rfl, trivial⟩ ?_
        exact hJj4 (-1) (by rw [if_neg (b2i_nt (b2i_eq0 c45))])
      · refine V_iconst (v := 2) d_X12_readLawLine_48 ic_2 ?_
        refine V_goto (tgt := 53) d_X12_readLawLine_49 (by decide) ?_
        refine V_less (ls' := [some _, none, some _]) ⟨rfl, rfl, trivial⟩ ?_
        exact hJj4 2 (by rw [if_pos (b2i_ne0 c45)])
    · replace hf := iteT (b2i_ne0 c32) hf
      refine V_iconst (v := 1) d_X12_readLawLine_35 ic_1 ?_
      refine V_goto (tgt := 53) d_X12_readLawLine_36 (by decide) ?_
      refine V_less (ls' := [some _, none, some _]) ⟨rfl, rfl, trivial⟩ ?_
      exact s_X12_readLawLine_j53 hG hf hK
  · replace hf := iteT (b2i_ne0 c19) hf
    refine V_iconst (v := 0) d_X12_readLawLine_22 ic_0 ?_
    refine V_goto (tgt := 53) d_X12_readLawLine_23 (by decide) ?_
    refine V_less (ls' := [some _, none, some _]) ⟨rfl, rfl, trivial⟩ ?_
    exact s_X12_readLawLine_j53 hG hf hK
theorem s_X12_readLawLine {G : Gl} (hG : G.1.stackTraces = false) {μ : Mem} {p1 : Int32} {r : (Bool × Mem)} (hf : f_X12_readLawLine μ p1 = some r) : Rt G yX12_readLawLine F_X12_readLawLine (some .boolean) [.ref (G.2.1 + 264), .int p1] μ (some (.int (b2i r.1))) r.2 := fun n => Sd.of hG ⟨by decide +kernel, rfl, rfl⟩ rfl (Nat.le_of_ble_eq_true rfl) rfl (fun C hK => s_X12_readLawLine_e hG hf hK)
theorem d_X12_readLine_0 : decode cX12_readLine 0 = .ok (.aload_n 0, 1) := by decide +kernel
theorem d_X12_readLine_1 : decode cX12_readLine 1 = .ok (.invokevirtual 121, 3) := by decide +kernel
theorem d_X12_readLine_4 : decode cX12_readLine 4 = .ok (.iload_n 2, 1) := by decide +kernel
theorem d_X12_readLine_5 : decode cX12_readLine 5 = .ok (.iload_n 1, 1) := by decide +kernel
theorem d_X12_readLine_6 : decode cX12_readLine 6 = .ok (.ifCond .eq 8, 3) := by decide +kernel
theorem d_X12_readLine_9 : decode cX12_readLine 9 = .ok (.bipush 14, 2) := by decide +kernel
theorem d_X12_readLine_11 : decode cX12_readLine 11 = .ok (.goto 5, 3) := by decide +kernel
theorem d_X12_readLine_14 : decode cX12_readLine 14 = .ok (.bipush 12, 2) := by decide +kernel
theorem d_X12_readLine_16 : decode cX12_readLine 16 = .ok (.if_icmp .ge 29, 3) := by decide +kernel
theorem d_X12_readLine_19 : decode cX12_readLine 19 = .ok (.iload_n 1, 1) := by decide +kernel
theorem d_X12_readLine_20 : decode cX12_readLine 20 = .ok (.ifCond .eq 13, 3) := by decide +kernel
theorem d_X12_readLine_23 : decode cX12_readLine 23 = .ok (.aload_n 0, 1) := by decide +kernel
theorem d_X12_readLine_24 : decode cX12_readLine 24 = .ok (.invokevirtual 246, 3) := by decide +kernel
theorem d_X12_readLine_27 : decode cX12_readLine 27 = .ok (.ifCond .eq 18, 3) := by decide +kernel
theorem d_X12_readLine_30 : decode cX12_readLine 30 = .ok (.goto 11, 3) := by decide +kernel
theorem d_X12_readLine_33 : decode cX12_readLine 33 = .ok (.aload_n 0, 1) := by decide +kernel
theorem d_X12_readLine_34 : decode cX12_readLine 34 = .ok (.iload_n 2, 1) := by decide +kernel
theorem d_X12_readLine_35 : decode cX12_readLine 35 = .ok (.invokevirtual 249, 3) := by decide +kernel
theorem d_X12_readLine_38 : decode cX12_readLine 38 = .ok (.ifCond .eq 7, 3) := by decide +kernel
theorem d_X12_readLine_41 : decode cX12_readLine 41 = .ok (.iconst 1, 1) := by decide +kernel
theorem d_X12_readLine_42 : decode cX12_readLine 42 = .ok (.goto 4, 3) := by decide +kernel
theorem d_X12_readLine_45 : decode cX12_readLine 45 = .ok (.iconst 0, 1) := by decide +kernel
theorem d_X12_readLine_46 : decode cX12_readLine 46 = .ok (.ireturn, 1) := by decide +kernel
theorem s_X12_readLine_j46 {G : Gl} (hG : G.1.stackTraces = false) {C : Cx} {n : Nat} {μ : Mem} {k0 : Bool} {r : (Bool × Mem)} (hf : f_X12_readLine_j46 μ k0 = some r) (hK : FinR G C F_X12_readLine (some .boolean) (some (.int (b2i r.1))) r.2) : V G C F_X12_readLine 46 [none, none, none] [.int (b2i k0)] (pic G μ) n 0 0 := by
  unfold f_X12_readLine_j46 at hf
  cases hf
  exact R_z hK d_X12_readLine_46 (Nat.le_of_ble_eq_true rfl) (Nat.le_of_ble_eq_true rfl)
theorem s_X12_readLine_j45 {G : Gl} (hG : G.1.stackTraces = false) {C : Cx} {n : Nat} {μ : Mem}  {r : (Bool × Mem)} (hf : f_X12_readLine_j45 μ = some r) (hK : FinR G C F_X12_readLine (some .boolean) (some (.int (b2i r.1))) r.2) : V G C F_X12_readLine 45 [none, none, none] [] (pic G μ) n 0 0 := by
  unfold f_X12_readLine_j45 at hf
  refine V_iconst (v := 0) d_X12_readLine_45 ic_0 ?_
  refine V_less (ls' := [none, none, none]) trivial ?_
  exact s_X12_readLine_j46 hG hf hK
theorem s_X12_readLine_e {G : Gl} (hG : G.1.stackTraces = false) {C : Cx} {n : Nat} {μ : Mem} {p1 : Bool} {p2 : Int32} {r : (Bool × Mem)} (hf : f_X12_readLine μ p1 p2 = some r) (hK : FinR G C F_X12_readLine (some .boolean) (some (.int (b2i r.1))) r.2) : V G C F_X12_readLine 0 [some (.ref (G.2.1 + 264)), some (.int (b2i p1)), some (.int p2)] [] (pic G μ) n 0 0 := by
  unfold f_X12_readLine at hf
  refine V_aload_n d_X12_readLine_0 rfl rfl ?_
  obtain ⟨q1, hq1, hf⟩ := ob hf
  refine B_callV0 (s_X12_letters hG hq1) k_264 clX12 m_X12_letters kv_RX12_121 d_X12_readLine_1 rfl (Nat.le_of_ble_eq_true rfl) ⟨rfl, rfl, Nat.le_of_ble_eq_true rfl, Nat.le_of_ble_eq_true rfl, Nat.le_of_ble_eq_true rfl⟩ (fun n => ?_)
  refine V_iload_n d_X12_readLine_4 rfl rfl ?_
  refine V_iload_n d_X12_readLine_5 rfl rfl ?_
  have hJj2 : ∀ j2 : Int32, j2 = (if p1 = true then (14 : Int32) else 12) → V G C F_X12_readLine 16 [some (.ref (G.2.1 + 264)), some (.int (b2i p1)), some (.int p2)] [.int j2, .int p2] (pic G q1) n 0 0 := by
    intro j2 ej2
    subst ej2
    refine V_icmp_ge (tgt := 45) d_X12_readLine_16 (by decide) (fun c16 => ?_) (fun c16 => ?_)
    · replace hf := iteT c16 hf
      refine V_less (ls' := [none, none, none]) trivial ?_
      exact s_X12_readLine_j45 hG hf hK
    · replace hf := iteF c16 hf
      refine V_iload_n d_X12_readLine_19 rfl rfl ?_
      refine V_if_eq (tgt := 33) d_X12_readLine_20 (by decide) (fun c20 => ?_) (fun c20 => ?_)
      · replace hf := iteF (b2i_nt (b2i_eq0 c20)) hf
        refine V_aload_n d_X12_readLine_33 rfl rfl ?_
        refine V_iload_n d_X12_readLine_34 rfl rfl ?_
        obtain ⟨q3, hq3, hf⟩ := ob hf
        refine B_callV1 (s_X12_readLawLine hG hq3) k_264 clX12 m_X12_readLawLine kv_RX12_249 d_X12_readLine_35 rfl (Nat.le_of_ble_eq_true rfl) ⟨rfl, rfl, Nat.le_of_ble_eq_true rfl, Nat.le_of_ble_eq_true rfl, Nat.le_of_ble_eq_true rfl⟩ (fun n => ?_)
        have hJj4 : ∀ j4 : Bool, j4 = (if q3.1 = true then (true : Bool) else false) → V G C F_X12_readLine 46 [none, none, none] [.int (b2i j4)] (pic G q3.2) n 0 0 := by
          intro j4 ej4
          subst ej4
          cases hf
          exact R_z hK d_X12_readLine_46 (Nat.le_of_ble_eq_true rfl) (Nat.le_of_ble_eq_true rfl)
        refine V_if_eq (tgt := 45) d_X12_readLine_38 (by decide) (fun c38 => ?_) (fun c38 => ?_)
        · refine V_iconst (v := 0) d_X12_readLine_45 ic_0 ?_
          refine V_less (ls' := [none, none, none]) trivial ?_
          exact hJj4 false (by rw [if_neg (b2i_nt (b2i_eq0 c38))])
        · refine V_iconst (v := 1) d_X12_readLine_41 ic_1 ?_
          refine V_goto (tgt := 46) d_X12_readLine_42 (by decide) ?_
          refine V_less (ls' := [none, none, none]) trivial ?_
          exact hJj4 true (by rw [if_pos (b2i_ne0 c38)])
      · replace hf := iteT (b2i_ne0 c20) hf
        refine V_aload_n d_X12_readLine_23 rfl rfl ?_
        obtain ⟨q5, hq5, hf⟩ := ob hf
        refine B_callV1 (s_X12_readLandLine hG hq5) k_264 clX12 m_X12_readLandLine kv_RX12_246 d_X12_readLine_24 rfl (Nat.le_of_ble_eq_true rfl) ⟨rfl, rfl, Nat.le_of_ble_eq_true rfl, Nat.le_of_ble_eq_true rfl, Nat.le_of_ble_eq_true rfl⟩ (fun n => ?_)
        have hJj6 : ∀ j6 : Bool, j6 = (if q5.1 = true then (true : Bool) else false) → V G C F_X12_readLine 46 [none, none, none] [.int (b2i j6)] (pic G q5.2) n 0 0 := by
          intro j6 ej6
          subst ej6
          cases hf
          exact R_z hK d_X12_readLine_46 (Nat.le_of_ble_eq_true rfl) (Nat.le_of_ble_eq_true rfl)
        refine V_if_eq (tgt := 45) d_X12_readLine_27 (by decide) (fun c27 => ?_) (fun c27 => ?_)
        · refine V_iconst (v := 0) d_X12_readLine_45 ic_0 ?_
          refine V_less (ls' := [none, none, none]) trivial ?_
          exact hJj6 false (by rw [if_neg (b2i_nt (b2i_eq0 c27))])
        · refine V_goto (tgt := 41) d_X12_readLine_30 (by decide) ?_
          refine V_iconst (v := 1) d_X12_readLine_41 ic_1 ?_
          refine V_goto (tgt := 46) d_X12_readLine_42 (by decide) ?_
          refine V_less (ls' := [none, none, none]) trivial ?_
          exact hJj6 true (by rw [if_pos (b2i_ne0 c27)])
  refine V_if_eq (tgt := 14) d_X12_readLine_6 (by decide) (fun c6 => ?_) (fun c6 => ?_)
  · refine V_bipush (v := 12) d_X12_readLine_14 bp_12 ?_
    refine V_less (ls' := [some _, some _, some _]) ⟨rfl, rfl, rfl, trivial⟩ ?_
    exact hJj2 12 (by rw [if_neg (b2i_nt (b2i_eq0 c6))])
  · refine V_bipush (v := 14) d_X12_readLine_9 bp_14 ?_
    refine V_goto (tgt := 16) d_X12_readLine_11 (by decide) ?_
    refine V_less (ls' := [some _, some _, some _]) ⟨rfl, rfl, rfl, trivial⟩ ?_
    exact hJj2 14 (by rw [if_pos (b2i_ne0 c6)])
theorem s_X12_readLine {G : Gl} (hG : G.1.stackTraces = false) {μ : Mem} {p1 : Bool} {p2 : Int32} {r : (Bool × Mem)} (hf : f_X12_readLine μ p1 p2 = some r) : Rt G yX12_readLine F_X12_readLine (some .boolean) [.ref (G.2.1 + 264), .int (b2i p1), .int p2] μ (some (.int (b2i r.1))) r.2 := fun n => Sd.of hG ⟨by decide +kernel, rfl, rfl⟩ rfl (Nat.le_of_ble_eq_true rfl) rfl (fun C hK => s_X12_readLine_e hG hf hK)
theorem d_X12_readAll_0 : decode cX12_readAll 0 = .ok (.aload_n 0, 1) := by decide +kernel
theorem d_X12_readAll_1 : decode cX12_readAll 1 = .ok (.invokevirtual 252, 3) := by decide +kernel
theorem d_X12_readAll_4 : decode cX12_readAll 4 = .ok (.aload_n 0, 1) := by decide +kernel
theorem d_X12_readAll_5 : decode cX12_readAll 5 = .ok (.iconst 0, 1) := by decide +kernel
theorem d_X12_readAll_6 : decode cX12_readAll 6 = .ok (.putfield 187, 3) := by decide +kernel
theorem d_X12_readAll_9 : decode cX12_readAll 9 = .ok (.aload_n 0, 1) := by decide +kernel
theorem d_X12_readAll_10 : decode cX12_readAll 10 = .ok (.invokevirtual 109, 3) := by decide +kernel
theorem d_X12_readAll_13 : decode cX12_readAll 13 = .ok (.aload_n 0, 1) := by decide +kernel
theorem d_X12_readAll_14 : decode cX12_readAll 14 = .ok (.getfield 96, 3) := by decide +kernel
theorem d_X12_readAll_17 : decode cX12_readAll 17 = .ok (.aload_n 0, 1) := by decide +kernel
theorem d_X12_readAll_18 : decode cX12_readAll 18 = .ok (.getfield 99, 3) := by decide +kernel
theorem d_X12_readAll_21 : decode cX12_readAll 21 = .ok (.if_icmp .ne 5, 3) := by decide +kernel
theorem d_X12_readAll_24 : decode cX12_readAll 24 = .ok (.iconst 0, 1) := by decide +kernel
theorem d_X12_readAll_25 : decode cX12_readAll 25 = .ok (.ireturn, 1) := by decide +kernel
theorem d_X12_readAll_26 : decode cX12_readAll 26 = .ok (.iconst 0, 1) := by decide +kernel
theorem d_X12_readAll_27 : decode cX12_readAll 27 = .ok (.istore_n 2, 1) := by decide +kernel
theorem d_X12_readAll_28 : decode cX12_readAll 28 = .ok (.aload_n 0, 1) := by decide +kernel
theorem d_X12_readAll_29 : decode cX12_readAll 29 = .ok (.iload_n 1, 1) := by decide +kernel
theorem d_X12_readAll_30 : decode cX12_readAll 30 = .ok (.iload_n 2, 1) := by decide +kernel
theorem d_X12_readAll_31 : decode cX12_readAll 31 = .ok (.invokevirtual 255, 3) := by decide +kernel
theorem d_X12_readAll_34 : decode cX12_readAll 34 = .ok (.ifCond .ne 5, 3) := by decide +kernel
theorem d_X12_readAll_37 : decode cX12_readAll 37 = .ok (.iconst (-1), 1) := by decide +kernel
theorem d_X12_readAll_38 : decode cX12_readAll 38 = .ok (.ireturn, 1) := by decide +kernel
theorem d_X12_readAll_39 : decode cX12_readAll 39 = .ok (.aload_n 0, 1) := by decide +kernel
theorem d_X12_readAll_40 : decode cX12_readAll 40 = .ok (.invokevirtual 109, 3) := by decide +kernel
theorem d_X12_readAll_43 : decode cX12_readAll 43 = .ok (.aload_n 0, 1) := by decide +kernel
theorem d_X12_readAll_44 : decode cX12_readAll 44 = .ok (.getfield 96, 3) := by decide +kernel
theorem d_X12_readAll_47 : decode cX12_readAll 47 = .ok (.aload_n 0, 1) := by decide +kernel
theorem d_X12_readAll_48 : decode cX12_readAll 48 = .ok (.getfield 99, 3) := by decide +kernel
theorem d_X12_readAll_51 : decode cX12_readAll 51 = .ok (.if_icmp .ne 7, 3) := by decide +kernel
theorem d_X12_readAll_54 : decode cX12_readAll 54 = .ok (.iload_n 2, 1) := by decide +kernel
theorem d_X12_readAll_55 : decode cX12_readAll 55 = .ok (.iconst 1, 1) := by decide +kernel
theorem d_X12_readAll_56 : decode cX12_readAll 56 = .ok (.iadd, 1) := by decide +kernel
theorem d_X12_readAll_57 : decode cX12_readAll 57 = .ok (.ireturn, 1) := by decide +kernel
theorem d_X12_readAll_58 : decode cX12_readAll 58 = .ok (.aload_n 0, 1) := by decide +kernel
theorem d_X12_readAll_59 : decode cX12_readAll 59 = .ok (.bipush 59, 2) := by decide +kernel
theorem d_X12_readAll_61 : decode cX12_readAll 61 = .ok (.bipush 59, 2) := by decide +kernel
theorem d_X12_readAll_63 : decode cX12_readAll 63 = .ok (.invokevirtual 102, 3) := by decide +kernel
theorem d_X12_readAll_66 : decode cX12_readAll 66 = .ok (.ifCond .ne 5, 3) := by decide +kernel
theorem d_X12_readAll_69 : decode cX12_readAll 69 = .ok (.iconst (-1), 1) := by decide +kernel
theorem d_X12_readAll_70 : decode cX12_readAll 70 = .ok (.ireturn, 1) := by decide +kernel
theorem d_X12_readAll_71 : decode cX12_readAll 71 = .ok (.aload_n 0, 1) := by decide +kernel
theorem d_X12_readAll_72 : decode cX12_readAll 72 = .ok (.dup, 1) := by decide +kernel
theorem d_X12_readAll_73 : decode cX12_readAll 73 = .ok (.getfield 96, 3) := by decide +kernel
theorem d_X12_readAll_76 : decode cX12_readAll 76 = .ok (.iconst 1, 1) := by decide +kernel
theorem d_X12_readAll_77 : decode cX12_readAll 77 = .ok (.iadd, 1) := by decide +kernel
theorem d_X12_readAll_78 : decode cX12_readAll 78 = .ok (.putfield 96, 3) := by decide +kernel
theorem d_X12_readAll_81 : decode cX12_readAll 81 = .ok (.iinc 2 1, 3) := by decide +kernel
theorem d_X12_readAll_84 : decode cX12_readAll 84 = .ok (.goto (-56), 3) := by decide +kernel
theorem s_X12_readAll_b28 {G : Gl} (hG : G.1.stackTraces = false) {C : Cx} {n : Nat} {μ : Mem} {l1 : Bool} {l2 : Int32} {y : ((Int32 × Mem) ⊕ (Int32 × Mem))} (hf : f_X12_readAll_b28 μ l1 l2 = some y) (hK : (∀ z', y = .inl z' → ∀ n, V G C F_X12_readAll 28 [some (.ref (G.2.1 + 264)), some (.int (b2i l1)), some (.int z'.1)] [] (pic G z'.2) n 0 0) ∧ (∀ x', y = .inr x' → FinR G C F_X12_readAll (some .int) (some (.int x'.1)) x'.2)) : V G C F_X12_readAll 28 [some (.ref (G.2.1 + 264)), some (.int (b2i l1)), some (.int l2)] [] (pic G μ) n 0 0 := by
  unfold f_X12_readAll_b28 at hf
  refine V_aload_n d_X12_readAll_28 rfl rfl ?_
  refine V_iload_n d_X12_readAll_29 rfl rfl ?_
  refine V_iload_n d_X12_readAll_30 rfl rfl ?_
  obtain ⟨q1, hq1, hf⟩ := ob hf
  refine B_callV1 (s_X12_readLine hG hq1) k_264 clX12 m_X12_readLine kv_RX12_255 d_X12_readAll_31 rfl (Nat.le_of_ble_eq_true rfl) ⟨rfl, rfl, Nat.le_of_ble_eq_true rfl, Nat.le_of_ble_eq_true rfl, Nat.le_of_ble_eq_true rfl⟩ (fun n => ?_)
  refine V_if_ne (tgt := 39) d_X12_readAll_34 (by decide) (fun c34 => ?_) (fun c34 => ?_)
  · replace hf := iteT (b2i_ne0 c34) hf
    refine V_aload_n d_X12_readAll_39 rfl rfl ?_
    obtain ⟨q2, hq2, hf⟩ := ob hf
    refine B_callV0 (s_X12_blanks hG hq2) k_264 clX12 m_X12_blanks kv_RX12_109 d_X12_readAll_40 rfl (Nat.le_of_ble_eq_true rfl) ⟨rfl, rfl, Nat.le_of_ble_eq_true rfl, Nat.le_of_ble_eq_true rfl, Nat.le_of_ble_eq_true rfl⟩ (fun n => ?_)
    refine V_aload_n d_X12_readAll_43 rfl rfl ?_
    refine B_get k_264 fl_RX12_96 d_X12_readAll_44 g_12_10 ?_
    refine V_aload_n d_X12_readAll_47 rfl rfl ?_
    refine B_get k_264 fl_RX12_99 d_X12_readAll_48 g_12_11 ?_
    refine V_icmp_ne (tgt := 58) d_X12_readAll_51 (by decide) (fun c51 => ?_) (fun c51 => ?_)
    · replace hf := iteF c51 hf
      refine V_aload_n d_X12_readAll_58 rfl rfl ?_
      refine V_bipush (v := 59) d_X12_readAll_59 bp_59 ?_
      refine V_bipush (v := 59) d_X12_readAll_61 bp_59 ?_
      obtain ⟨t3, ht3, hf⟩ := ob hf
      refine B_callV1 (s_X12_isAt hG ht3) k_264 clX12 m_X12_isAt kv_RX12_102 d_X12_readAll_63 rfl (Nat.le_of_ble_eq_true rfl) ⟨rfl, rfl, Nat.le_of_ble_eq_true rfl, Nat.le_of_ble_eq_true rfl, Nat.le_of_ble_eq_true rfl⟩ (fun n => ?_)
      refine V_if_ne (tgt := 71) d_X12_readAll_66 (by decide) (fun c66 => ?_) (fun c66 => ?_)
      · replace hf := iteT (b2i_ne0 c66) hf
        refine V_aload_n d_X12_readAll_71 rfl rfl ?_
        refine V_dup d_X12_readAll_72 rfl ?_
        refine B_get k_264 fl_RX12_96 d_X12_readAll_73 g_12_10 ?_
        refine V_iconst (v := 1) d_X12_readAll_76 ic_1 ?_
        refine V_iadd d_X12_readAll_77 ?_
        refine B_putI k_264 fl_RX12_96 pt_12_10 (Nat.le_of_ble_eq_true rfl) p_12_10 d_X12_readAll_78 ?_
        refine V_iinc (v := (l2 + 1)) (ls' := [_, _, _]) d_X12_readAll_81 rfl (by rw [ic_1]) rfl ?_
        refine V_goto (tgt := 28) d_X12_readAll_84 (by decide) ?_
        refine V_less (ls' := [some _, some _, some _]) ⟨rfl, rfl, rfl, trivial⟩ ?_
        cases hf
        exact hK.1 _ rfl _
      · replace hf := iteF (b2i_nt (b2i_eq0 c66)) hf
        refine V_iconst (v := (-1)) d_X12_readAll_69 ic_m1 ?_
        cases hf
        exact R_i (hK.2 _ rfl) d_X12_readAll_70 (Nat.le_of_ble_eq_true rfl) (Nat.le_of_ble_eq_true rfl)
    · replace hf := iteT c51 hf
      refine V_iload_n d_X12_readAll_54 rfl rfl ?_
      refine V_iconst (v := 1) d_X12_readAll_55 ic_1 ?_
      refine V_iadd d_X12_readAll_56 ?_
      cases hf
      exact R_i (hK.2 _ rfl) d_X12_readAll_57 (Nat.le_of_ble_eq_true rfl) (Nat.le_of_ble_eq_true rfl)
  · replace hf := iteF (b2i_nt (b2i_eq0 c34)) hf
    refine V_iconst (v := (-1)) d_X12_readAll_37 ic_m1 ?_
    cases hf
    exact R_i (hK.2 _ rfl) d_X12_readAll_38 (Nat.le_of_ble_eq_true rfl) (Nat.le_of_ble_eq_true rfl)
theorem s_X12_readAll_l28 {G : Gl} (hG : G.1.stackTraces = false) {C : Cx} {n : Nat} {μ : Mem} {l1 : Bool} {l2 : Int32} {r : (Int32 × Mem)} (hf : f_X12_readAll_l28 μ l1 l2 = some r) (hK : FinR G C F_X12_readAll (some .int) (some (.int r.1)) r.2) : V G C F_X12_readAll 28 [some (.ref (G.2.1 + 264)), some (.int (b2i l1)), some (.int l2)] [] (pic G μ) n 0 0 := by
  unfold f_X12_readAll_l28 at hf
  obtain ⟨t, hl, hf⟩ := ob hf
  refine loopV (P := fun z => ∀ n, V G C F_X12_readAll 28 [some (.ref (G.2.1 + 264)), some (.int (b2i l1)), some (.int z.1)] [] (pic G z.2) n 0 0) (t := t) ?_ _ _ hl n
  intro z y' hy hI hT n
  refine s_X12_readAll_b28 hG hy ⟨hI, fun x9 ex => ?_⟩
  have ex2 := hT x9 ex
  subst ex2
  cases hf
  exact hK
theorem s_X12_readAll_e {G : Gl} (hG : G.1.stackTraces = false) {C : Cx} {n : Nat} {μ : Mem} {p1 : Bool} {r : (Int32 × Mem)} (hf : f_X12_readAll μ p1 = some r) (hK : FinR G C F_X12_readAll (some .int) (some (.int r.1)) r.2) : V G C F_X12_readAll 0 [some (.ref (G.2.1 + 264)), some (.int (b2i p1)), none] [] (pic G μ) n 0 0 := by
  unfold f_X12_readAll at hf
  refine V_aload_n d_X12_readAll_0 rfl rfl ?_
  obtain ⟨q1, hq1, hf⟩ := ob hf
  refine B_callV0 (s_X12_uses hG hq1) k_264 clX12 m_X12_uses kv_RX12_252 d_X12_readAll_1 rfl (Nat.le_of_ble_eq_true rfl) ⟨rfl, rfl, Nat.le_of_ble_eq_true rfl, Nat.le_of_ble_eq_true rfl, Nat.le_of_ble_eq_true rfl⟩ (fun n => ?_)
  refine V_aload_n d_X12_readAll_4 rfl rfl ?_
  refine V_iconst (v := 0) d_X12_readAll_5 ic_0 ?_
  refine B_putI k_264 fl_RX12_187 pt_12_16 (Nat.le_of_ble_eq_true rfl) p_12_16 d_X12_readAll_6 ?_
  refine V_aload_n d_X12_readAll_9 rfl rfl ?_
  obtain ⟨q2, hq2, hf⟩ := ob hf
  refine B_callV0 (s_X12_blanks hG hq2) k_264 clX12 m_X12_blanks kv_RX12_109 d_X12_readAll_10 rfl (Nat.le_of_ble_eq_true rfl) ⟨rfl, rfl, Nat.le_of_ble_eq_true rfl, Nat.le_of_ble_eq_true rfl, Nat.le_of_ble_eq_true rfl⟩ (fun n => ?_)
  refine V_aload_n d_X12_readAll_13 rfl rfl ?_
  refine B_get k_264 fl_RX12_96 d_X12_readAll_14 g_12_10 ?_
  refine V_aload_n d_X12_readAll_17 rfl rfl ?_
  refine B_get k_264 fl_RX12_99 d_X12_readAll_18 g_12_11 ?_
  refine V_icmp_ne (tgt := 26) d_X12_readAll_21 (by decide) (fun c21 => ?_) (fun c21 => ?_)
  · replace hf := iteF c21 hf
    refine V_iconst (v := 0) d_X12_readAll_26 ic_0 ?_
    refine V_istore_n (ls' := [_, _, _]) d_X12_readAll_27 rfl rfl rfl ?_
    refine V_less (ls' := [some _, some _, some _]) ⟨rfl, rfl, rfl, trivial⟩ ?_
    exact s_X12_readAll_l28 hG hf hK
  · replace hf := iteT c21 hf
    refine V_iconst (v := 0) d_X12_readAll_24 ic_0 ?_
    cases hf
    exact R_i hK d_X12_readAll_25 (Nat.le_of_ble_eq_true rfl) (Nat.le_of_ble_eq_true rfl)
theorem s_X12_readAll {G : Gl} (hG : G.1.stackTraces = false) {μ : Mem} {p1 : Bool} {r : (Int32 × Mem)} (hf : f_X12_readAll μ p1 = some r) : Rt G yX12_readAll F_X12_readAll (some .int) [.ref (G.2.1 + 264), .int (b2i p1)] μ (some (.int r.1)) r.2 := fun n => Sd.of hG ⟨by decide +kernel, rfl, rfl⟩ rfl (Nat.le_of_ble_eq_true rfl) rfl (fun C hK => s_X12_readAll_e hG hf hK)
theorem d_X12_land_0 : decode cX12_land 0 = .ok (.iconst 0, 1) := by decide +kernel
theorem d_X12_land_1 : decode cX12_land 1 = .ok (.istore_n 1, 1) := by decide +kernel
theorem d_X12_land_2 : decode cX12_land 2 = .ok (.iload_n 1, 1) := by decide +kernel
theorem d_X12_land_3 : decode cX12_land 3 = .ok (.sipush 1219, 3) := by decide +kernel
theorem d_X12_land_6 : decode cX12_land 6 = .ok (.if_icmp .ge 21, 3) := by decide +kernel
theorem d_X12_land_9 : decode cX12_land 9 = .ok (.aload_n 0, 1) := by decide +kernel
theorem d_X12_land_10 : decode cX12_land 10 = .ok (.getfield 20, 3) := by decide +kernel
theorem d_X12_land_13 : decode cX12_land 13 = .ok (.iload_n 1, 1) := by decide +kernel
theorem d_X12_land_14 : decode cX12_land 14 = .ok (.aload_n 0, 1) := by decide +kernel
theorem d_X12_land_15 : decode cX12_land 15 = .ok (.getfield 13, 3) := by decide +kernel
theorem d_X12_land_18 : decode cX12_land 18 = .ok (.iload_n 1, 1) := by decide +kernel
theorem d_X12_land_19 : decode cX12_land 19 = .ok (.iaload, 1) := by decide +kernel
theorem d_X12_land_20 : decode cX12_land 20 = .ok (.iastore, 1) := by decide +kernel
theorem d_X12_land_21 : decode cX12_land 21 = .ok (.iinc 1 1, 3) := by decide +kernel
theorem d_X12_land_24 : decode cX12_land 24 = .ok (.goto (-22), 3) := by decide +kernel
theorem d_X12_land_27 : decode cX12_land 27 = .ok (.aload_n 0, 1) := by decide +kernel
theorem d_X12_land_28 : decode cX12_land 28 = .ok (.iconst 1, 1) := by decide +kernel
theorem d_X12_land_29 : decode cX12_land 29 = .ok (.invokevirtual 259, 3) := by decide +kernel
theorem d_X12_land_32 : decode cX12_land 32 = .ok (.istore_n 1, 1) := by decide +kernel
theorem d_X12_land_33 : decode cX12_land 33 = .ok (.aload_n 0, 1) := by decide +kernel
theorem d_X12_land_34 : decode cX12_land 34 = .ok (.iload_n 1, 1) := by decide +kernel
theorem d_X12_land_35 : decode cX12_land 35 = .ok (.ifCond .ge 10, 3) := by decide +kernel
theorem d_X12_land_38 : decode cX12_land 38 = .ok (.aload_n 0, 1) := by decide +kernel
theorem d_X12_land_39 : decode cX12_land 39 = .ok (.getfield 106, 3) := by decide +kernel
theorem d_X12_land_42 : decode cX12_land 42 = .ok (.goto 4, 3) := by decide +kernel
theorem d_X12_land_45 : decode cX12_land 45 = .ok (.iconst (-1), 1) := by decide +kernel
theorem d_X12_land_46 : decode cX12_land 46 = .ok (.putfield 33, 3) := by decide +kernel
theorem d_X12_land_49 : decode cX12_land 49 = .ok (.aload_n 0, 1) := by decide +kernel
theorem d_X12_land_50 : decode cX12_land 50 = .ok (.iload_n 1, 1) := by decide +kernel
theorem d_X12_land_51 : decode cX12_land 51 = .ok (.ifCond .ge 7, 3) := by decide +kernel
theorem d_X12_land_54 : decode cX12_land 54 = .ok (.iconst 1, 1) := by decide +kernel
theorem d_X12_land_55 : decode cX12_land 55 = .ok (.goto 4, 3) := by decide +kernel
theorem d_X12_land_58 : decode cX12_land 58 = .ok (.iconst 0, 1) := by decide +kernel
theorem d_X12_land_59 : decode cX12_land 59 = .ok (.iconst 1, 1) := by decide +kernel
theorem d_X12_land_60 : decode cX12_land 60 = .ok (.invokevirtual 263, 3) := by decide +kernel
theorem d_X12_land_63 : decode cX12_land 63 = .ok (.ifCond .ne 27, 3) := by decide +kernel
theorem d_X12_land_66 : decode cX12_land 66 = .ok (.aload_n 0, 1) := by decide +kernel
theorem d_X12_land_67 : decode cX12_land 67 = .ok (.aload_n 0, 1) := by decide +kernel
theorem d_X12_land_68 : decode cX12_land 68 = .ok (.getfield 13, 3) := by decide +kernel
theorem d_X12_land_71 : decode cX12_land 71 = .ok (.iconst 1, 1) := by decide +kernel
theorem d_X12_land_72 : decode cX12_land 72 = .ok (.iaload, 1) := by decide +kernel
theorem d_X12_land_73 : decode cX12_land 73 = .ok (.bipush 12, 2) := by decide +kernel
theorem d_X12_land_75 : decode cX12_land 75 = .ok (.if_icmp .ne 7, 3) := by decide +kernel
theorem d_X12_land_78 : decode cX12_land 78 = .ok (.iconst 1, 1) := by decide +kernel
theorem d_X12_land_79 : decode cX12_land 79 = .ok (.goto 4, 3) := by decide +kernel
theorem d_X12_land_82 : decode cX12_land 82 = .ok (.iconst 0, 1) := by decide +kernel
theorem d_X12_land_83 : decode cX12_land 83 = .ok (.iconst 2, 1) := by decide +kernel
theorem d_X12_land_84 : decode cX12_land 84 = .ok (.invokevirtual 263, 3) := by decide +kernel
theorem d_X12_land_87 : decode cX12_land 87 = .ok (.ifCond .eq 32, 3) := by decide +kernel
theorem d_X12_land_90 : decode cX12_land 90 = .ok (.iconst 0, 1) := by decide +kernel
theorem d_X12_land_91 : decode cX12_land 91 = .ok (.istore_n 2, 1) := by decide +kernel
theorem d_X12_land_92 : decode cX12_land 92 = .ok (.iload_n 2, 1) := by decide +kernel
theorem d_X12_land_93 : decode cX12_land 93 = .ok (.sipush 1219, 3) := by decide +kernel
theorem d_X12_land_96 : decode cX12_land 96 = .ok (.if_icmp .ge 21, 3) := by decide +kernel
theorem d_X12_land_99 : decode cX12_land 99 = .ok (.aload_n 0, 1) := by decide +kernel
theorem d_X12_land_100 : decode cX12_land 100 = .ok (.getfield 13, 3) := by decide +kernel
theorem d_X12_land_103 : decode cX12_land 103 = .ok (.iload_n 2, 1) := by decide +kernel
theorem d_X12_land_104 : decode cX12_land 104 = .ok (.aload_n 0, 1) := by decide +kernel
theorem d_X12_land_105 : decode cX12_land 105 = .ok (.getfield 20, 3) := by decide +kernel
theorem d_X12_land_108 : decode cX12_land 108 = .ok (.iload_n 2, 1) := by decide +kernel
theorem d_X12_land_109 : decode cX12_land 109 = .ok (.iaload, 1) := by decide +kernel
theorem d_X12_land_110 : decode cX12_land 110 = .ok (.iastore, 1) := by decide +kernel
theorem d_X12_land_111 : decode cX12_land 111 = .ok (.iinc 2 1, 3) := by decide +kernel
theorem d_X12_land_114 : decode cX12_land 114 = .ok (.goto (-22), 3) := by decide +kernel
theorem d_X12_land_117 : decode cX12_land 117 = .ok (.iconst 0, 1) := by decide +kernel
theorem d_X12_land_118 : decode cX12_land 118 = .ok (.ireturn, 1) := by decide +kernel
theorem d_X12_land_119 : decode cX12_land 119 = .ok (.aload_n 0, 1) := by decide +kernel
theorem d_X12_land_120 : decode cX12_land 120 = .ok (.getfield 13, 3) := by decide +kernel
theorem d_X12_land_123 : decode cX12_land 123 = .ok (.iconst 1, 1) := by decide +kernel
theorem d_X12_land_124 : decode cX12_land 124 = .ok (.dup2, 1) := by decide +kernel
theorem d_X12_land_125 : decode cX12_land 125 = .ok (.iaload, 1) := by decide +kernel
theorem d_X12_land_126 : decode cX12_land 126 = .ok (.iconst 1, 1) := by decide +kernel
theorem d_X12_land_127 : decode cX12_land 127 = .ok (.iadd, 1) := by decide +kernel
theorem d_X12_land_128 : decode cX12_land 128 = .ok (.iastore, 1) := by decide +kernel
theorem d_X12_land_129 : decode cX12_land 129 = .ok (.aload_n 0, 1) := by decide +kernel
theorem d_X12_land_130 : decode cX12_land 130 = .ok (.iconst 0, 1) := by decide +kernel
theorem d_X12_land_131 : decode cX12_land 131 = .ok (.putfield 56, 3) := by decide +kernel
theorem d_X12_land_134 : decode cX12_land 134 = .ok (.aload_n 0, 1) := by decide +kernel
theorem d_X12_land_135 : decode cX12_land 135 = .ok (.getfield 13, 3) := by decide +kernel
theorem d_X12_land_138 : decode cX12_land 138 = .ok (.iconst 1, 1) := by decide +kernel
theorem d_X12_land_139 : decode cX12_land 139 = .ok (.iaload, 1) := by decide +kernel
theorem d_X12_land_140 : decode cX12_land 140 = .ok (.ireturn, 1) := by decide +kernel
theorem s_X12_land_b2 {G : Gl} (hG : G.1.stackTraces = false) {C : Cx} {n : Nat} {μ : Mem} {l1 : Int32} {y : ((Int32 × Mem) ⊕ Mem)} (hf : f_X12_land_b2 μ l1 = some y) (hK : (∀ z', y = .inl z' → ∀ n, V G C F_X12_land 2 [some (.ref (G.2.1 + 264)), some (.int z'.1), none] [] (pic G z'.2) n 0 0) ∧ (∀ x', y = .inr x' → ∀ n, V G C F_X12_land 27 [some (.ref (G.2.1 + 264)), none, none] [] (pic G x') n 0 0)) : V G C F_X12_land 2 [some (.ref (G.2.1 + 264)), some (.int l1), none] [] (pic G μ) n 0 0 := by
  unfold f_X12_land_b2 at hf
  refine V_iload_n d_X12_land_2 rfl rfl ?_
  refine V_sipush (v := 1219) d_X12_land_3 sp_1219 ?_
  refine V_icmp_ge (tgt := 27) d_X12_land_6 (by decide) (fun c6 => ?_) (fun c6 => ?_)
  · replace hf := iteT c6 hf
    refine V_less (ls' := [some _, none, none]) ⟨rfl, trivial⟩ ?_
    cases hf
    exact hK.2 _ rfl _
  · replace hf := iteF c6 hf
    refine V_aload_n d_X12_land_9 rfl rfl ?_
    refine B_get k_264 fl_RX12_20 d_X12_land_10 g_12_3 ?_
    refine V_iload_n d_X12_land_13 rfl rfl ?_
    refine V_aload_n d_X12_land_14 rfl rfl ?_
    refine B_get k_264 fl_RX12_13 d_X12_land_15 g_12_1 ?_
    refine V_iload_n d_X12_land_18 rfl rfl ?_
    obtain ⟨t1, ht1, hf⟩ := ob hf
    refine B_iald k_265 ht1 d_X12_land_19 ?_
    obtain ⟨μ2, hμ2, hf⟩ := ob hf
    refine B_iast k_267 hμ2 d_X12_land_20 ?_
    refine V_iinc (v := (l1 + 1)) (ls' := [_, _, _]) d_X12_land_21 rfl (by rw [ic_1]) rfl ?_
    refine V_goto (tgt := 2) d_X12_land_24 (by decide) ?_
    refine V_less (ls' := [some _, some _, none]) ⟨rfl, rfl, trivial⟩ ?_
    cases hf
    exact hK.1 _ rfl _
theorem s_X12_land_b92 {G : Gl} (hG : G.1.stackTraces = false) {C : Cx} {n : Nat} {μ : Mem} {l2 : Int32} {y : ((Int32 × Mem) ⊕ Mem)} (hf : f_X12_land_b92 μ l2 = some y) (hK : (∀ z', y = .inl z' → ∀ n, V G C F_X12_land 92 [some (.ref (G.2.1 + 264)), none, some (.int z'.1)] [] (pic G z'.2) n 0 0) ∧ (∀ x', y = .inr x' → ∀ n, V G C F_X12_land 117 [none, none, none] [] (pic G x') n 0 0)) : V G C F_X12_land 92 [some (.ref (G.2.1 + 264)), none, some (.int l2)] [] (pic G μ) n 0 0 := by
  unfold f_X12_land_b92 at hf
  refine V_iload_n d_X12_land_92 rfl rfl ?_
  refine V_sipush (v := 1219) d_X12_land_93 sp_1219 ?_
  refine V_icmp_ge (tgt := 117) d_X12_land_96 (by decide) (fun c96 => ?_) (fun c96 => ?_)
  · replace hf := iteT c96 hf
    refine V_less (ls' := [none, none, none]) trivial ?_
    cases hf
    exact hK.2 _ rfl _
  · replace hf := iteF c96 hf
    refine V_aload_n d_X12_land_99 rfl rfl ?_
    refine B_get k_264 fl_RX12_13 d_X12_land_100 g_12_1 ?_
    refine V_iload_n d_X12_land_103 rfl rfl ?_
    refine V_aload_n d_X12_land_104 rfl rfl ?_
    refine B_get k_264 fl_RX12_20 d_X12_land_105 g_12_3 ?_
    refine V_iload_n d_X12_land_108 rfl rfl ?_
    obtain ⟨t1, ht1, hf⟩ := ob hf
    refine B_iald k_267 ht1 d_X12_land_109 ?_
    obtain ⟨μ2, hμ2, hf⟩ := ob hf
    refine B_iast k_265 hμ2 d_X12_land_110 ?_
    refine V_iinc (v := (l2 + 1)) (ls' := [_, _, _]) d_X12_land_111 rfl (by rw [ic_1]) rfl ?_
    refine V_goto (tgt := 92) d_X12_land_114 (by decide) ?_
    refine V_less (ls' := [some _, none, some _]) ⟨rfl, rfl, trivial⟩ ?_
    cases hf
    exact hK.1 _ rfl _
theorem s_X12_land_j117 {G : Gl} (hG : G.1.stackTraces = false) {C : Cx} {n : Nat} {μ : Mem}  {r : (Int32 × Mem)} (hf : f_X12_land_j117 μ = some r) (hK : FinR G C F_X12_land (some .int) (some (.int r.1)) r.2) : V G C F_X12_land 117 [none, none, none] [] (pic G μ) n 0 0 := by
  unfold f_X12_land_j117 at hf
  refine V_iconst (v := 0) d_X12_land_117 ic_0 ?_
  cases hf
  exact R_i hK d_X12_land_118 (Nat.le_of_ble_eq_true rfl) (Nat.le_of_ble_eq_true rfl)
theorem s_X12_land_l92 {G : Gl} (hG : G.1.stackTraces = false) {C : Cx} {n : Nat} {μ : Mem} {l2 : Int32} {r : (Int32 × Mem)} (hf : f_X12_land_l92 μ l2 = some r) (hK : FinR G C F_X12_land (some .int) (some (.int r.1)) r.2) : V G C F_X12_land 92 [some (.ref (G.2.1 + 264)), none, some (.int l2)] [] (pic G μ) n 0 0 := by
  unfold f_X12_land_l92 at hf
  obtain ⟨t, hl, hf⟩ := ob hf
  refine loopV (P := fun z => ∀ n, V G C F_X12_land 92 [some (.ref (G.2.1 + 264)), none, some (.int z.1)] [] (pic G z.2) n 0 0) (t := t) ?_ _ _ hl n
  intro z y' hy hI hT n
  refine s_X12_land_b92 hG hy ⟨hI, fun x9 ex => ?_⟩
  have ex2 := hT x9 ex
  subst ex2
  intro n
  exact s_X12_land_j117 hG hf hK
theorem s_X12_land_j90 {G : Gl} (hG : G.1.stackTraces = false) {C : Cx} {n : Nat} {μ : Mem}  {r : (Int32 × Mem)} (hf : f_X12_land_j90 μ = some r) (hK : FinR G C F_X12_land (some .int) (some (.int r.1)) r.2) : V G C F_X12_land 90 [some (.ref (G.2.1 + 264)), none, none] [] (pic G μ) n 0 0 := by
  unfold f_X12_land_j90 at hf
  refine V_iconst (v := 0) d_X12_land_90 ic_0 ?_
  refine V_istore_n (ls' := [_, _, _]) d_X12_land_91 rfl rfl rfl ?_
  refine V_less (ls' := [some _, none, some _]) ⟨rfl, rfl, trivial⟩ ?_
  exact s_X12_land_l92 hG hf hK
theorem s_X12_land_j27 {G : Gl} (hG : G.1.stackTraces = false) {C : Cx} {n : Nat} {μ : Mem}  {r : (Int32 × Mem)} (hf : f_X12_land_j27 μ = some r) (hK : FinR G C F_X12_land (some .int) (some (.int r.1)) r.2) : V G C F_X12_land 27 [some (.ref (G.2.1 + 264)), none, none] [] (pic G μ) n 0 0 := by
  unfold f_X12_land_j27 at hf
  refine V_aload_n d_X12_land_27 rfl rfl ?_
  refine V_iconst (v := 1) d_X12_land_28 ic_1 ?_
  obtain ⟨q1, hq1, hf⟩ := ob hf
  refine B_callV1 (s_X12_readAll hG hq1) k_264 clX12 m_X12_readAll kv_RX12_259 d_X12_land_29 rfl (Nat.le_of_ble_eq_true rfl) ⟨rfl, rfl, Nat.le_of_ble_eq_true rfl, Nat.le_of_ble_eq_true rfl, Nat.le_of_ble_eq_true rfl⟩ (fun n => ?_)
  refine V_istore_n (ls' := [_, _, _]) d_X12_land_32 rfl rfl rfl ?_
  refine V_aload_n d_X12_land_33 rfl rfl ?_
  refine V_iload_n d_X12_land_34 rfl rfl ?_
  have hJj2 : ∀ j2 : Int32, j2 = (if 0 ≤ q1.1 then ((-1) : Int32) else (q1.2 264 12)) → V G C F_X12_land 46 [some (.ref (G.2.1 + 264)), some (.int q1.1), none] [.int j2, .ref (G.2.1 + 264)] (pic G q1.2) n 0 0 := by
    intro j2 ej2
    subst ej2
    refine B_putI k_264 fl_RX12_33 pt_12_14 (Nat.le_of_ble_eq_true rfl) p_12_14 d_X12_land_46 ?_
    refine V_aload_n d_X12_land_49 rfl rfl ?_
    refine V_iload_n d_X12_land_50 rfl rfl ?_
    have hJj3 : ∀ j3 : Bool, j3 = (if 0 ≤ q1.1 then (false : Bool) else true) → V G C F_X12_land 59 [some (.ref (G.2.1 + 264)), none, none] [.int (b2i j3), .ref (G.2.1 + 264)] (pic G (mset q1.2 264 14 (if 0 ≤ q1.1 then ((-1) : Int32) else (q1.2 264 12)))) n 0 0 := by
      intro j3 ej3
      subst ej3
      refine V_iconst (v := 1) d_X12_land_59 ic_1 ?_
      obtain ⟨q4, hq4, hf⟩ := ob hf
      refine B_callV1 (s_X12_throwsIf hG hq4) k_264 clX12 m_X12_throwsIf kv_RX12_263 d_X12_land_60 rfl (Nat.le_of_ble_eq_true rfl) ⟨rfl, rfl, Nat.le_of_ble_eq_true rfl, Nat.le_of_ble_eq_true rfl, Nat.le_of_ble_eq_true rfl⟩ (fun n => ?_)
      refine V_if_ne (tgt := 90) d_X12_land_63 (by decide) (fun c63 => ?_) (fun c63 => ?_)
      · replace hf := iteT (b2i_ne0 c63) hf
        refine V_less (ls' := [some _, none, none]) ⟨rfl, trivial⟩ ?_
        exact s_X12_land_j90 hG hf hK
      · replace hf := iteF (b2i_nt (b2i_eq0 c63)) hf
        refine V_aload_n d_X12_land_66 rfl rfl ?_
        refine V_aload_n d_X12_land_67 rfl rfl ?_
        refine B_get k_264 fl_RX12_13 d_X12_land_68 g_12_1 ?_
        refine V_iconst (v := 1) d_X12_land_71 ic_1 ?_
        obtain ⟨t5, ht5, hf⟩ := ob hf
        refine B_iald k_265 ht5 d_X12_land_72 ?_
        refine V_bipush (v := 12) d_X12_land_73 bp_12 ?_
        have hJj6 : ∀ j6 : Bool, j6 = (if t5 = 12 then (true : Bool) else false) → V G C F_X12_land 83 [some (.ref (G.2.1 + 264)), none, none] [.int (b2i j6), .ref (G.2.1 + 264)] (pic G q4.2) n 0 0 := by
          intro j6 ej6
          subst ej6
          refine V_iconst (v := 2) d_X12_land_83 ic_2 ?_
          obtain ⟨q7, hq7, hf⟩ := ob hf
          refine B_callV1 (s_X12_throwsIf hG hq7) k_264 clX12 m_X12_throwsIf kv_RX12_263 d_X12_land_84 rfl (Nat.le_of_ble_eq_true rfl) ⟨rfl, rfl, Nat.le_of_ble_eq_true rfl, Nat.le_of_ble_eq_true rfl, Nat.le_of_ble_eq_true rfl⟩ (fun n => ?_)
          refine V_if_eq (tgt := 119) d_X12_land_87 (by decide) (fun c87 => ?_) (fun c87 => ?_)
          · replace hf := iteF (b2i_nt (b2i_eq0 c87)) hf
            refine V_aload_n d_X12_land_119 rfl rfl ?_
            refine B_get k_264 fl_RX12_13 d_X12_land_120 g_12_1 ?_
            refine V_iconst (v := 1) d_X12_land_123 ic_1 ?_
            refine V_dup2 d_X12_land_124 rfl rfl ?_
            obtain ⟨t8, ht8, hf⟩ := ob hf
            refine B_iald k_265 ht8 d_X12_land_125 ?_
            refine V_iconst (v := 1) d_X12_land_126 ic_1 ?_
            refine V_iadd d_X12_land_127 ?_
            obtain ⟨μ9, hμ9, hf⟩ := ob hf
            refine B_iast k_265 hμ9 d_X12_land_128 ?_
            refine V_aload_n d_X12_land_129 rfl rfl ?_
            refine V_iconst (v := 0) d_X12_land_130 ic_0 ?_
            refine B_putI k_264 fl_RX12_56 pt_12_7 (Nat.le_of_ble_eq_true rfl) p_12_7 d_X12_land_131 ?_
            refine V_aload_n d_X12_land_134 rfl rfl ?_
            refine B_get k_264 fl_RX12_13 d_X12_land_135 g_12_1 ?_
            refine V_iconst (v := 1) d_X12_land_138 ic_1 ?_
            obtain ⟨t10, ht10, hf⟩ := ob hf
            refine B_iald k_265 ht10 d_X12_land_139 ?_
            cases hf
            exact R_i hK d_X12_land_140 (Nat.le_of_ble_eq_true rfl) (Nat.le_of_ble_eq_true rfl)
          · replace hf := iteT (b2i_ne0 c87) hf
            refine V_less (ls' := [some _, none, none]) ⟨rfl, trivial⟩ ?_
            exact s_X12_land_j90 hG hf hK
        refine V_icmp_ne (tgt := 82) d_X12_land_75 (by decide) (fun c75 => ?_) (fun c75 => ?_)
        · refine V_iconst (v := 0) d_X12_land_82 ic_0 ?_
          refine V_less (ls' := [some _, none, none]) ⟨rfl, trivial⟩ ?_
          exact hJj6 false (by rw [if_neg c75])
        · refine V_iconst (v := 1) d_X12_land_78 ic_1 ?_
          refine V_goto (tgt := 83) d_X12_land_79 (by decide) ?_
          refine V_less (ls' := [some _, none, none]) ⟨rfl, trivial⟩ ?_
          exact hJj6 true (by rw [if_pos c75])
    refine V_if_ge (tgt := 58) d_X12_land_51 (by decide) (fun c51 => ?_) (fun c51 => ?_)
    · refine V_iconst (v := 0) d_X12_land_58 ic_0 ?_
      refine V_less (ls' := [some _, none, none]) ⟨rfl, trivial⟩ ?_
      exact hJj3 false (by rw [if_pos c51])
    · refine V_iconst (v := 1) d_X12_land_54 ic_1 ?_
      refine V_goto (tgt := 59) d_X12_land_55 (by decide) ?_
      refine V_less (ls' := [some _, none, none]) ⟨rfl, trivial⟩ ?_
      exact hJj3 true (by rw [if_neg c51])
  refine V_if_ge (tgt := 45) d_X12_land_35 (by decide) (fun c35 => ?_) (fun c35 => ?_)
  · refine V_iconst (v := (-1)) d_X12_land_45 ic_m1 ?_
    refine V_less (ls' := [some _, some _, none]) ⟨rfl, rfl, trivial⟩ ?_
    exact hJj2 (-1) (by rw [if_pos c35])
  · refine V_aload_n d_X12_land_38 rfl rfl ?_
    refine B_get k_264 fl_RX12_106 d_X12_land_39 g_12_12 ?_
    refine V_goto (tgt := 46) d_X12_land_42 (by decide) ?_
    refine V_less (ls' := [some _, some _, none]) ⟨rfl, rfl, trivial⟩ ?_
    exact hJj2 (q1.2 264 12) (by rw [if_neg c35])
theorem s_X12_land_l2 {G : Gl} (hG : G.1.stackTraces = false) {C : Cx} {n : Nat} {μ : Mem} {l1 : Int32} {r : (Int32 × Mem)} (hf : f_X12_land_l2 μ l1 = some r) (hK : FinR G C F_X12_land (some .int) (some (.int r.1)) r.2) : V G C F_X12_land 2 [some (.ref (G.2.1 + 264)), some (.int l1), none] [] (pic G μ) n 0 0 := by
  unfold f_X12_land_l2 at hf
  obtain ⟨t, hl, hf⟩ := ob hf
  refine loopV (P := fun z => ∀ n, V G C F_X12_land 2 [some (.ref (G.2.1 + 264)), some (.int z.1), none] [] (pic G z.2) n 0 0) (t := t) ?_ _ _ hl n
  intro z y' hy hI hT n
  refine s_X12_land_b2 hG hy ⟨hI, fun x9 ex => ?_⟩
  have ex2 := hT x9 ex
  subst ex2
  intro n
  exact s_X12_land_j27 hG hf hK
theorem s_X12_land_e {G : Gl} (hG : G.1.stackTraces = false) {C : Cx} {n : Nat} {μ : Mem}  {r : (Int32 × Mem)} (hf : f_X12_land μ = some r) (hK : FinR G C F_X12_land (some .int) (some (.int r.1)) r.2) : V G C F_X12_land 0 [some (.ref (G.2.1 + 264)), none, none] [] (pic G μ) n 0 0 := by
  unfold f_X12_land at hf
  refine V_iconst (v := 0) d_X12_land_0 ic_0 ?_
  refine V_istore_n (ls' := [_, _, _]) d_X12_land_1 rfl rfl rfl ?_
  refine V_less (ls' := [some _, some _, none]) ⟨rfl, rfl, trivial⟩ ?_
  exact s_X12_land_l2 hG hf hK
theorem s_X12_land {G : Gl} (hG : G.1.stackTraces = false) {μ : Mem} {r : (Int32 × Mem)} (hf : f_X12_land μ = some r) : Rt G yX12_land F_X12_land (some .int) [.ref (G.2.1 + 264)] μ (some (.int r.1)) r.2 := fun n => Sd.of hG ⟨by decide +kernel, rfl, rfl⟩ rfl (Nat.le_of_ble_eq_true rfl) rfl (fun C hK => s_X12_land_e hG hf hK)
theorem d_X12_law_0 : decode cX12_law 0 = .ok (.aload_n 0, 1) := by decide +kernel
theorem d_X12_law_1 : decode cX12_law 1 = .ok (.iconst 0, 1) := by decide +kernel
theorem d_X12_law_2 : decode cX12_law 2 = .ok (.invokevirtual 259, 3) := by decide +kernel
theorem d_X12_law_5 : decode cX12_law 5 = .ok (.istore_n 1, 1) := by decide +kernel
theorem d_X12_law_6 : decode cX12_law 6 = .ok (.aload_n 0, 1) := by decide +kernel
theorem d_X12_law_7 : decode cX12_law 7 = .ok (.iload_n 1, 1) := by decide +kernel
theorem d_X12_law_8 : decode cX12_law 8 = .ok (.ifCond .ge 10, 3) := by decide +kernel
theorem d_X12_law_11 : decode cX12_law 11 = .ok (.aload_n 0, 1) := by decide +kernel
theorem d_X12_law_12 : decode cX12_law 12 = .ok (.getfield 106, 3) := by decide +kernel
theorem d_X12_law_15 : decode cX12_law 15 = .ok (.goto 4, 3) := by decide +kernel
theorem d_X12_law_18 : decode cX12_law 18 = .ok (.iconst (-1), 1) := by decide +kernel
theorem d_X12_law_19 : decode cX12_law 19 = .ok (.putfield 33, 3) := by decide +kernel
theorem d_X12_law_22 : decode cX12_law 22 = .ok (.aload_n 0, 1) := by decide +kernel
theorem d_X12_law_23 : decode cX12_law 23 = .ok (.iload_n 1, 1) := by decide +kernel
theorem d_X12_law_24 : decode cX12_law 24 = .ok (.ifCond .ge 7, 3) := by decide +kernel
theorem d_X12_law_27 : decode cX12_law 27 = .ok (.iconst 1, 1) := by decide +kernel
theorem d_X12_law_28 : decode cX12_law 28 = .ok (.goto 4, 3) := by decide +kernel
theorem d_X12_law_31 : decode cX12_law 31 = .ok (.iconst 0, 1) := by decide +kernel
theorem d_X12_law_32 : decode cX12_law 32 = .ok (.iconst 1, 1) := by decide +kernel
theorem d_X12_law_33 : decode cX12_law 33 = .ok (.invokevirtual 263, 3) := by decide +kernel
theorem d_X12_law_36 : decode cX12_law 36 = .ok (.ifCond .eq 5, 3) := by decide +kernel
theorem d_X12_law_39 : decode cX12_law 39 = .ok (.iconst 0, 1) := by decide +kernel
theorem d_X12_law_40 : decode cX12_law 40 = .ok (.ireturn, 1) := by decide +kernel
theorem d_X12_law_41 : decode cX12_law 41 = .ok (.aload_n 0, 1) := by decide +kernel
theorem d_X12_law_42 : decode cX12_law 42 = .ok (.getfield 13, 3) := by decide +kernel
theorem d_X12_law_45 : decode cX12_law 45 = .ok (.sipush 1219, 3) := by decide +kernel
theorem d_X12_law_48 : decode cX12_law 48 = .ok (.iload_n 1, 1) := by decide +kernel
theorem d_X12_law_49 : decode cX12_law 49 = .ok (.iastore, 1) := by decide +kernel
theorem d_X12_law_50 : decode cX12_law 50 = .ok (.iconst 0, 1) := by decide +kernel
theorem d_X12_law_51 : decode cX12_law 51 = .ok (.istore_n 2, 1) := by decide +kernel
theorem d_X12_law_52 : decode cX12_law 52 = .ok (.iload_n 2, 1) := by decide +kernel
theorem d_X12_law_53 : decode cX12_law 53 = .ok (.sipush 849, 3) := by decide +kernel
theorem d_X12_law_56 : decode cX12_law 56 = .ok (.if_icmp .ge 29, 3) := by decide +kernel
theorem d_X12_law_59 : decode cX12_law 59 = .ok (.aload_n 0, 1) := by decide +kernel
theorem d_X12_law_60 : decode cX12_law 60 = .ok (.getfield 13, 3) := by decide +kernel
theorem d_X12_law_63 : decode cX12_law 63 = .ok (.sipush 370, 3) := by decide +kernel
theorem d_X12_law_66 : decode cX12_law 66 = .ok (.iload_n 2, 1) := by decide +kernel
theorem d_X12_law_67 : decode cX12_law 67 = .ok (.iadd, 1) := by decide +kernel
theorem d_X12_law_68 : decode cX12_law 68 = .ok (.aload_n 0, 1) := by decide +kernel
theorem d_X12_law_69 : decode cX12_law 69 = .ok (.getfield 13, 3) := by decide +kernel
theorem d_X12_law_72 : decode cX12_law 72 = .ok (.sipush 1219, 3) := by decide +kernel
theorem d_X12_law_75 : decode cX12_law 75 = .ok (.iload_n 2, 1) := by decide +kernel
theorem d_X12_law_76 : decode cX12_law 76 = .ok (.iadd, 1) := by decide +kernel
theorem d_X12_law_77 : decode cX12_law 77 = .ok (.iaload, 1) := by decide +kernel
theorem d_X12_law_78 : decode cX12_law 78 = .ok (.iastore, 1) := by decide +kernel
theorem d_X12_law_79 : decode cX12_law 79 = .ok (.iinc 2 1, 3) := by decide +kernel
theorem d_X12_law_82 : decode cX12_law 82 = .ok (.goto (-30), 3) := by decide +kernel
theorem d_X12_law_85 : decode cX12_law 85 = .ok (.aload_n 0, 1) := by decide +kernel
theorem d_X12_law_86 : decode cX12_law 86 = .ok (.getfield 13, 3) := by decide +kernel
theorem d_X12_law_89 : decode cX12_law 89 = .ok (.iconst 2, 1) := by decide +kernel
theorem d_X12_law_90 : decode cX12_law 90 = .ok (.iconst 1, 1) := by decide +kernel
theorem d_X12_law_91 : decode cX12_law 91 = .ok (.iastore, 1) := by decide +kernel
theorem d_X12_law_92 : decode cX12_law 92 = .ok (.aload_n 0, 1) := by decide +kernel
theorem d_X12_law_93 : decode cX12_law 93 = .ok (.iconst 0, 1) := by decide +kernel
theorem d_X12_law_94 : decode cX12_law 94 = .ok (.putfield 56, 3) := by decide +kernel
theorem d_X12_law_97 : decode cX12_law 97 = .ok (.iload_n 1, 1) := by decide +kernel
theorem d_X12_law_98 : decode cX12_law 98 = .ok (.ireturn, 1) := by decide +kernel
theorem s_X12_law_b52 {G : Gl} (hG : G.1.stackTraces = false) {C : Cx} {n : Nat} {μ : Mem} {l1 : Int32} {l2 : Int32} {y : ((Int32 × Mem) ⊕ Mem)} (hf : f_X12_law_b52 μ l1 l2 = some y) (hK : (∀ z', y = .inl z' → ∀ n, V G C F_X12_law 52 [some (.ref (G.2.1 + 264)), some (.int l1), some (.int z'.1)] [] (pic G z'.2) n 0 0) ∧ (∀ x', y = .inr x' → ∀ n, V G C F_X12_law 85 [some (.ref (G.2.1 + 264)), some (.int l1), none] [] (pic G x') n 0 0)) : V G C F_X12_law 52 [some (.ref (G.2.1 + 264)), some (.int l1), some (.int l2)] [] (pic G μ) n 0 0 := by
  unfold f_X12_law_b52 at hf
  refine V_iload_n d_X12_law_52 rfl rfl ?_
  refine V_sipush (v := 849) d_X12_law_53 sp_849 ?_
  refine V_icmp_ge (tgt := 85) d_X12_law_56 (by decide) (fun c56 => ?_) (fun c56 => ?_)
  · replace hf := iteT c56 hf
    refine V_less (ls' := [some _, some _, none]) ⟨rfl, rfl, trivial⟩ ?_
    cases hf
    exact hK.2 _ rfl _
  · replace hf := iteF c56 hf
    refine V_aload_n d_X12_law_59 rfl rfl ?_
    refine B_get k_264 fl_RX12_13 d_X12_law_60 g_12_1 ?_
    refine V_sipush (v := 370) d_X12_law_63 sp_370 ?_
    refine V_iload_n d_X12_law_66 rfl rfl ?_
    refine V_iadd d_X12_law_67 ?_
    refine V_aload_n d_X12_law_68 rfl rfl ?_
    refine B_get k_264 fl_RX12_13 d_X12_law_69 g_12_1 ?_
    refine V_sipush (v := 1219) d_X12_law_72 sp_1219 ?_
    refine V_iload_n d_X12_law_75 rfl rfl ?_
    refine V_iadd d_X12_law_76 ?_
    obtain ⟨t1, ht1, hf⟩ := ob hf
    refine B_iald k_265 ht1 d_X12_law_77 ?_
    obtain ⟨μ2, hμ2, hf⟩ := ob hf
    refine B_iast k_265 hμ2 d_X12_law_78 ?_
    refine V_iinc (v := (l2 + 1)) (ls' := [_, _, _]) d_X12_law_79 rfl (by rw [ic_1]) rfl ?_
    refine V_goto (tgt := 52) d_X12_law_82 (by decide) ?_
    refine V_less (ls' := [some _, some _, some _]) ⟨rfl, rfl, rfl, trivial⟩ ?_
    cases hf
    exact hK.1 _ rfl _
theorem s_X12_law_j85 {G : Gl} (hG : G.1.stackTraces = false) {C : Cx} {n : Nat} {μ : Mem} {l1 : Int32} {r : (Int32 × Mem)} (hf : f_X12_law_j85 μ l1 = some r) (hK : FinR G C F_X12_law (some .int) (some (.int r.1)) r.2) : V G C F_X12_law 85 [some (.ref (G.2.1 + 264)), some (.int l1), none] [] (pic G μ) n 0 0 := by
  unfold f_X12_law_j85 at hf
  refine V_aload_n d_X12_law_85 rfl rfl ?_
  refine B_get k_264 fl_RX12_13 d_X12_law_86 g_12_1 ?_
  refine V_iconst (v := 2) d_X12_law_89 ic_2 ?_
  refine V_iconst (v := 1) d_X12_law_90 ic_1 ?_
  obtain ⟨μ1, hμ1, hf⟩ := ob hf
  refine B_iast k_265 hμ1 d_X12_law_91 ?_
  refine V_aload_n d_X12_law_92 rfl rfl ?_
  refine V_iconst (v := 0) d_X12_law_93 ic_0 ?_
  refine B_putI k_264 fl_RX12_56 pt_12_7 (Nat.le_of_ble_eq_true rfl) p_12_7 d_X12_law_94 ?_
  refine V_iload_n d_X12_law_97 rfl rfl ?_
  cases hf
  exact R_i hK d_X12_law_98 (Nat.le_of_ble_eq_true rfl) (Nat.le_of_ble_eq_true rfl)
theorem s_X12_law_l52 {G : Gl} (hG : G.1.stackTraces = false) {C : Cx} {n : Nat} {μ : Mem} {l1 : Int32} {l2 : Int32} {r : (Int32 × Mem)} (hf : f_X12_law_l52 μ l1 l2 = some r) (hK : FinR G C F_X12_law (some .int) (some (.int r.1)) r.2) : V G C F_X12_law 52 [some (.ref (G.2.1 + 264)), some (.int l1), some (.int l2)] [] (pic G μ) n 0 0 := by
  unfold f_X12_law_l52 at hf
  obtain ⟨t, hl, hf⟩ := ob hf
  refine loopV (P := fun z => ∀ n, V G C F_X12_law 52 [some (.ref (G.2.1 + 264)), some (.int l1), some (.int z.1)] [] (pic G z.2) n 0 0) (t := t) ?_ _ _ hl n
  intro z y' hy hI hT n
  refine s_X12_law_b52 hG hy ⟨hI, fun x9 ex => ?_⟩
  have ex2 := hT x9 ex
  subst ex2
  intro n
  exact s_X12_law_j85 hG hf hK
theorem s_X12_law_e {G : Gl} (hG : G.1.stackTraces = false) {C : Cx} {n : Nat} {μ : Mem}  {r : (Int32 × Mem)} (hf : f_X12_law μ = some r) (hK : FinR G C F_X12_law (some .int) (some (.int r.1)) r.2) : V G C F_X12_law 0 [some (.ref (G.2.1 + 264)), none, none] [] (pic G μ) n 0 0 := by
  unfold f_X12_law at hf
  refine V_aload_n d_X12_law_0 rfl rfl ?_
  refine V_iconst (v := 0) d_X12_law_1 ic_0 ?_
  obtain ⟨q1, hq1, hf⟩ := ob hf
  refine B_callV1 (s_X12_readAll hG hq1) k_264 clX12 m_X12_readAll kv_RX12_259 d_X12_law_2 rfl (Nat.le_of_ble_eq_true rfl) ⟨rfl, rfl, Nat.le_of_ble_eq_true rfl, Nat.le_of_ble_eq_true rfl, Nat.le_of_ble_eq_true rfl⟩ (fun n => ?_)
  refine V_istore_n (ls' := [_, _, _]) d_X12_law_5 rfl rfl rfl ?_
  refine V_aload_n d_X12_law_6 rfl rfl ?_
  refine V_iload_n d_X12_law_7 rfl rfl ?_
  have hJj2 : ∀ j2 : Int32, j2 = (if 0 ≤ q1.1 then ((-1) : Int32) else (q1.2 264 12)) → V G C F_X12_law 19 [some (.ref (G.2.1 + 264)), some (.int q1.1), none] [.int j2, .ref (G.2.1 + 264)] (pic G q1.2) n 0 0 := by
    intro j2 ej2
    subst ej2
    refine B_putI k_264 fl_RX12_33 pt_12_14 (Nat.le_of_ble_eq_true rfl) p_12_14 d_X12_law_19 ?_
    refine V_aload_n d_X12_law_22 rfl rfl ?_
    refine V_iload_n d_X12_law_23 rfl rfl ?_
    have hJj3 : ∀ j3 : Bool, j3 = (if 0 ≤ q1.1 then (false : Bool) else true) → V G C F_X12_law 32 [some (.ref (G.2.1 + 264)), some (.int q1.1), none] [.int (b2i j3), .ref (G.2.1 + 264)] (pic G (mset q1.2 264 14 (if 0 ≤ q1.1 then ((-1) : Int32) else (q1.2 264 12)))) n 0 0 := by
      intro j3 ej3
      subst ej3
      refine V_iconst (v := 1) d_X12_law_32 ic_1 ?_
      obtain ⟨q4, hq4, hf⟩ := ob hf
      refine B_callV1 (s_X12_throwsIf hG hq4) k_264 clX12 m_X12_throwsIf kv_RX12_263 d_X12_law_33 rfl (Nat.le_of_ble_eq_true rfl) ⟨rfl, rfl, Nat.le_of_ble_eq_true rfl, Nat.le_of_ble_eq_true rfl, Nat.le_of_ble_eq_true rfl⟩ (fun n => ?_)
      refine V_if_eq (tgt := 41) d_X12_law_36 (by decide) (fun c36 => ?_) (fun c36 => ?_)
      · replace hf := iteF (b2i_nt (b2i_eq0 c36)) hf
        refine V_aload_n d_X12_law_41 rfl rfl ?_
        refine B_get k_264 fl_RX12_13 d_X12_law_42 g_12_1 ?_
        refine V_sipush (v := 1219) d_X12_law_45 sp_1219 ?_
        refine V_iload_n d_X12_law_48 rfl rfl ?_
        obtain ⟨μ5, hμ5, hf⟩ := ob hf
        refine B_iast k_265 hμ5 d_X12_law_49 ?_
        refine V_iconst (v := 0) d_X12_law_50 ic_0 ?_
        refine V_istore_n (ls' := [_, _, _]) d_X12_law_51 rfl rfl rfl ?_
        refine V_less (ls' := [some _, some _, some _]) ⟨rfl, rfl, rfl, trivial⟩ ?_
        exact s_X12_law_l52 hG hf hK
      · replace hf := iteT (b2i_ne0 c36) hf
        refine V_iconst (v := 0) d_X12_law_39 ic_0 ?_
        cases hf
        exact R_i hK d_X12_law_40 (Nat.le_of_ble_eq_true rfl) (Nat.le_of_ble_eq_true rfl)
    refine V_if_ge (tgt := 31) d_X12_law_24 (by decide) (fun c24 => ?_) (fun c24 => ?_)
    · refine V_iconst (v := 0) d_X12_law_31 ic_0 ?_
      refine V_less (ls' := [some _, some _, none]) ⟨rfl, rfl, trivial⟩ ?_
      exact hJj3 false (by rw [if_pos c24])
    · refine V_iconst (v := 1) d_X12_law_27 ic_1 ?_
      refine V_goto (tgt := 32) d_X12_law_28 (by decide) ?_
      refine V_less (ls' := [some _, some _, none]) ⟨rfl, rfl, trivial⟩ ?_
      exact hJj3 true (by rw [if_neg c24])
  refine V_if_ge (tgt := 18) d_X12_law_8 (by decide) (fun c8 => ?_) (fun c8 => ?_)
  · refine V_iconst (v := (-1)) d_X12_law_18 ic_m1 ?_
    refine V_less (ls' := [some _, some _, none]) ⟨rfl, rfl, trivial⟩ ?_
    exact hJj2 (-1) (by rw [if_pos c8])
  · refine V_aload_n d_X12_law_11 rfl rfl ?_
    refine B_get k_264 fl_RX12_106 d_X12_law_12 g_12_12 ?_
    refine V_goto (tgt := 19) d_X12_law_15 (by decide) ?_
    refine V_less (ls' := [some _, some _, none]) ⟨rfl, rfl, trivial⟩ ?_
    exact hJj2 (q1.2 264 12) (by rw [if_neg c8])
theorem s_X12_law {G : Gl} (hG : G.1.stackTraces = false) {μ : Mem} {r : (Int32 × Mem)} (hf : f_X12_law μ = some r) : Rt G yX12_law F_X12_law (some .int) [.ref (G.2.1 + 264)] μ (some (.int r.1)) r.2 := fun n => Sd.of hG ⟨by decide +kernel, rfl, rfl⟩ rfl (Nat.le_of_ble_eq_true rfl) rfl (fun C hK => s_X12_law_e hG hf hK)
theorem d_X12_slackOf_0 : decode cX12_slackOf 0 = .ok (.aload_n 0, 1) := by decide +kernel
theorem d_X12_slackOf_1 : decode cX12_slackOf 1 = .ok (.iconst 2, 1) := by decide +kernel
theorem d_X12_slackOf_2 : decode cX12_slackOf 2 = .ok (.iload_n 1, 1) := by decide +kernel
theorem d_X12_slackOf_3 : decode cX12_slackOf 3 = .ok (.imul, 1) := by decide +kernel
theorem d_X12_slackOf_4 : decode cX12_slackOf 4 = .ok (.invokevirtual 138, 3) := by decide +kernel
theorem d_X12_slackOf_7 : decode cX12_slackOf 7 = .ok (.ifCond .eq 7, 3) := by decide +kernel
theorem d_X12_slackOf_10 : decode cX12_slackOf 10 = .ok (.iconst 0, 1) := by decide +kernel
theorem d_X12_slackOf_11 : decode cX12_slackOf 11 = .ok (.goto 4, 3) := by decide +kernel
theorem d_X12_slackOf_14 : decode cX12_slackOf 14 = .ok (.iconst 1, 1) := by decide +kernel
theorem d_X12_slackOf_15 : decode cX12_slackOf 15 = .ok (.aload_n 0, 1) := by decide +kernel
theorem d_X12_slackOf_16 : decode cX12_slackOf 16 = .ok (.iconst 2, 1) := by decide +kernel
theorem d_X12_slackOf_17 : decode cX12_slackOf 17 = .ok (.iload_n 1, 1) := by decide +kernel
theorem d_X12_slackOf_18 : decode cX12_slackOf 18 = .ok (.imul, 1) := by decide +kernel
theorem d_X12_slackOf_19 : decode cX12_slackOf 19 = .ok (.iconst 1, 1) := by decide +kernel
theorem d_X12_slackOf_20 : decode cX12_slackOf 20 = .ok (.iadd, 1) := by decide +kernel
theorem d_X12_slackOf_21 : decode cX12_slackOf 21 = .ok (.invokevirtual 138, 3) := by decide +kernel
theorem d_X12_slackOf_24 : decode cX12_slackOf 24 = .ok (.ifCond .eq 7, 3) := by decide +kernel
theorem d_X12_slackOf_27 : decode cX12_slackOf 27 = .ok (.iconst 0, 1) := by decide +kernel
theorem d_X12_slackOf_28 : decode cX12_slackOf 28 = .ok (.goto 4, 3) := by decide +kernel
theorem d_X12_slackOf_31 : decode cX12_slackOf 31 = .ok (.iconst 1, 1) := by decide +kernel
theorem d_X12_slackOf_32 : decode cX12_slackOf 32 = .ok (.iadd, 1) := by decide +kernel
theorem d_X12_slackOf_33 : decode cX12_slackOf 33 = .ok (.ireturn, 1) := by decide +kernel
theorem s_X12_slackOf_e {G : Gl} (hG : G.1.stackTraces = false) {C : Cx} {n : Nat} {μ : Mem} {p1 : Int32} {r : Int32} (hf : f_X12_slackOf μ p1 = some r) (hK : FinR G C F_X12_slackOf (some .int) (some (.int r)) μ) : V G C F_X12_slackOf 0 [some (.ref (G.2.1 + 264)), some (.int p1)] [] (pic G μ) n 0 0 := by
  unfold f_X12_slackOf at hf
  refine V_aload_n d_X12_slackOf_0 rfl rfl ?_
  refine V_iconst (v := 2) d_X12_slackOf_1 ic_2 ?_
  refine V_iload_n d_X12_slackOf_2 rfl rfl ?_
  refine V_imul d_X12_slackOf_3 ?_
  obtain ⟨t1, ht1, hf⟩ := ob hf
  refine B_callV1 (s_X12_isIn hG ht1) k_264 clX12 m_X12_isIn kv_RX12_138 d_X12_slackOf_4 rfl (Nat.le_of_ble_eq_true rfl) ⟨rfl, rfl, Nat.le_of_ble_eq_true rfl, Nat.le_of_ble_eq_true rfl, Nat.le_of_ble_eq_true rfl⟩ (fun n => ?_)
  have hJj2 : ∀ j2 : Bool, j2 = (if t1 = true then (false : Bool) else true) → V G C F_X12_slackOf 15 [some (.ref (G.2.1 + 264)), some (.int p1)] [.int (b2i j2)] (pic G μ) n 0 0 := by
    intro j2 ej2
    subst ej2
    refine V_aload_n d_X12_slackOf_15 rfl rfl ?_
    refine V_iconst (v := 2) d_X12_slackOf_16 ic_2 ?_
    refine V_iload_n d_X12_slackOf_17 rfl rfl ?_
    refine V_imul d_X12_slackOf_18 ?_
    refine V_iconst (v := 1) d_X12_slackOf_19 ic_1 ?_
    refine V_iadd d_X12_slackOf_20 ?_
    obtain ⟨t3, ht3, hf⟩ := ob hf
    refine B_callV1 (s_X12_isIn hG ht3) k_264 clX12 m_X12_isIn kv_RX12_138 d_X12_slackOf_21 rfl (Nat.le_of_ble_eq_true rfl) ⟨rfl, rfl, Nat.le_of_ble_eq_true rfl, Nat.le_of_ble_eq_true rfl, Nat.le_of_ble_eq_true rfl⟩ (fun n => ?_)
    have hJj4 : ∀ j4 : Bool, j4 = (if t3 = true then (false : Bool) else true) → V G C F_X12_slackOf 32 [none, none] [.int (b2i j4), .int (b2i (if t1 = true then (false : Bool) else true))] (pic G μ) n 0 0 := by
      intro j4 ej4
      subst ej4
      refine V_iadd d_X12_slackOf_32 ?_
      cases hf
      exact R_i hK d_X12_slackOf_33 (Nat.le_of_ble_eq_true rfl) (Nat.le_of_ble_eq_true rfl)
    refine V_if_eq (tgt := 31) d_X12_slackOf_24 (by decide) (fun c24 => ?_) (fun c24 => ?_)
    · refine V_iconst (v := 1) d_X12_slackOf_31 ic_1 ?_
      refine V_less (ls' := [none, none]) trivial ?_
      exact hJj4 true (by rw [if_neg (b2i_nt (b2i_eq0 c24))])
    · refine V_iconst (v := 0) d_X12_slackOf_27 ic_0 ?_
      refine V_goto (tgt := 32) d_X12_slackOf_28 (by decide) ?_
      refine V_less (ls' := [none, none]) trivial ?_
      exact hJj4 false (by rw [if_pos (b2i_ne0 c24)])
  refine V_if_eq (tgt := 14) d_X12_slackOf_7 (by decide) (fun c7 => ?_) (fun c7 => ?_)
  · refine V_iconst (v := 1) d_X12_slackOf_14 ic_1 ?_
    refine V_less (ls' := [some _, some _]) ⟨rfl, rfl, trivial⟩ ?_
    exact hJj2 true (by rw [if_neg (b2i_nt (b2i_eq0 c7))])
  · refine V_iconst (v := 0) d_X12_slackOf_10 ic_0 ?_
    refine V_goto (tgt := 15) d_X12_slackOf_11 (by decide) ?_
    refine V_less (ls' := [some _, some _]) ⟨rfl, rfl, trivial⟩ ?_
    exact hJj2 false (by rw [if_pos (b2i_ne0 c7)])
theorem s_X12_slackOf {G : Gl} (hG : G.1.stackTraces = false) {μ : Mem} {p1 : Int32} {r : Int32} (hf : f_X12_slackOf μ p1 = some r) : Rt G yX12_slackOf F_X12_slackOf (some .int) [.ref (G.2.1 + 264), .int p1] μ (some (.int r)) μ := fun n => Sd.of hG ⟨by decide +kernel, rfl, rfl⟩ rfl (Nat.le_of_ble_eq_true rfl) rfl (fun C hK => s_X12_slackOf_e hG hf hK)
theorem d_X12_heldBy_0 : decode cX12_heldBy 0 = .ok (.iconst 0, 1) := by decide +kernel
theorem d_X12_heldBy_1 : decode cX12_heldBy 1 = .ok (.istore_n 2, 1) := by decide +kernel
theorem d_X12_heldBy_2 : decode cX12_heldBy 2 = .ok (.iconst 0, 1) := by decide +kernel
theorem d_X12_heldBy_3 : decode cX12_heldBy 3 = .ok (.istore_n 3, 1) := by decide +kernel
theorem d_X12_heldBy_4 : decode cX12_heldBy 4 = .ok (.iload_n 3, 1) := by decide +kernel
theorem d_X12_heldBy_5 : decode cX12_heldBy 5 = .ok (.aload_n 0, 1) := by decide +kernel
theorem d_X12_heldBy_6 : decode cX12_heldBy 6 = .ok (.invokevirtual 77, 3) := by decide +kernel
theorem d_X12_heldBy_9 : decode cX12_heldBy 9 = .ok (.if_icmp .ge 37, 3) := by decide +kernel
theorem d_X12_heldBy_12 : decode cX12_heldBy 12 = .ok (.iload_n 2, 1) := by decide +kernel
theorem d_X12_heldBy_13 : decode cX12_heldBy 13 = .ok (.aload_n 0, 1) := by decide +kernel
theorem d_X12_heldBy_14 : decode cX12_heldBy 14 = .ok (.iload_n 3, 1) := by decide +kernel
theorem d_X12_heldBy_15 : decode cX12_heldBy 15 = .ok (.invokevirtual 138, 3) := by decide +kernel
theorem d_X12_heldBy_18 : decode cX12_heldBy 18 = .ok (.ifCond .ne 19, 3) := by decide +kernel
theorem d_X12_heldBy_21 : decode cX12_heldBy 21 = .ok (.aload_n 0, 1) := by decide +kernel
theorem d_X12_heldBy_22 : decode cX12_heldBy 22 = .ok (.iload_n 3, 1) := by decide +kernel
theorem d_X12_heldBy_23 : decode cX12_heldBy 23 = .ok (.iconst 1, 1) := by decide +kernel
theorem d_X12_heldBy_24 : decode cX12_heldBy 24 = .ok (.invokevirtual 70, 3) := by decide +kernel
theorem d_X12_heldBy_27 : decode cX12_heldBy 27 = .ok (.iload_n 1, 1) := by decide +kernel
theorem d_X12_heldBy_28 : decode cX12_heldBy 28 = .ok (.if_icmp .ne 9, 3) := by decide +kernel
theorem d_X12_heldBy_31 : decode cX12_heldBy 31 = .ok (.iconst 1, 1) := by decide +kernel
theorem d_X12_heldBy_32 : decode cX12_heldBy 32 = .ok (.iload_n 3, 1) := by decide +kernel
theorem d_X12_heldBy_33 : decode cX12_heldBy 33 = .ok (.ishl, 1) := by decide +kernel
theorem d_X12_heldBy_34 : decode cX12_heldBy 34 = .ok (.goto 4, 3) := by decide +kernel
theorem d_X12_heldBy_37 : decode cX12_heldBy 37 = .ok (.iconst 0, 1) := by decide +kernel
theorem d_X12_heldBy_38 : decode cX12_heldBy 38 = .ok (.ior, 1) := by decide +kernel
theorem d_X12_heldBy_39 : decode cX12_heldBy 39 = .ok (.istore_n 2, 1) := by decide +kernel
theorem d_X12_heldBy_40 : decode cX12_heldBy 40 = .ok (.iinc 3 1, 3) := by decide +kernel
theorem d_X12_heldBy_43 : decode cX12_heldBy 43 = .ok (.goto (-39), 3) := by decide +kernel
theorem d_X12_heldBy_46 : decode cX12_heldBy 46 = .ok (.iload_n 2, 1) := by decide +kernel
theorem d_X12_heldBy_47 : decode cX12_heldBy 47 = .ok (.ireturn, 1) := by decide +kernel
theorem s_X12_heldBy_j38_4 {G : Gl} (hG : G.1.stackTraces = false) {C : Cx} {n : Nat} {μ : Mem} {l1 : Int32} {l3 : Int32} {k0 : Int32} {k1 : Int32} {y : ((Int32 × Int32) ⊕ Int32)} (hf : f_X12_heldBy_j38_4 μ l1 l3 k0 k1 = some y) (hK : (∀ z', y = .inl z' → ∀ n, V G C F_X12_heldBy 4 [some (.ref (G.2.1 + 264)), some (.int l1), some (.int z'.1), some (.int z'.2)] [] (pic G μ) n 0 0) ∧ (∀ x', y = .inr x' → ∀ n, V G C F_X12_heldBy 46 [none, none, some (.int x'), none] [] (pic G μ) n 0 0)) : V G C F_X12_heldBy 38 [some (.ref (G.2.1 + 264)), some (.int l1), none, some (.int l3)] [.int k1, .int k0] (pic G μ) n 0 0 := by
  unfold f_X12_heldBy_j38_4 at hf
  refine V_ior d_X12_heldBy_38 ?_
  refine V_istore_n (ls' := [_, _, _, _]) d_X12_heldBy_39 rfl rfl rfl ?_
  refine V_iinc (v := (l3 + 1)) (ls' := [_, _, _, _]) d_X12_heldBy_40 rfl (by rw [ic_1]) rfl ?_
  refine V_goto (tgt := 4) d_X12_heldBy_43 (by decide) ?_
  refine V_less (ls' := [some _, some _, some _, some _]) ⟨rfl, rfl, rfl, rfl, trivial⟩ ?_
  cases hf
  exact hK.1 _ rfl _
theorem s_X12_heldBy_j37_4 {G : Gl} (hG : G.1.stackTraces = false) {C : Cx} {n : Nat} {μ : Mem} {l1 : Int32} {l3 : Int32} {k0 : Int32} {y : ((Int32 × Int32) ⊕ Int32)} (hf : f_X12_heldBy_j37_4 μ l1 l3 k0 = some y) (hK : (∀ z', y = .inl z' → ∀ n, V G C F_X12_heldBy 4 [some (.ref (G.2.1 + 264)), some (.int l1), some (.int z'.1), some (.int z'.2)] [] (pic G μ) n 0 0) ∧ (∀ x', y = .inr x' → ∀ n, V G C F_X12_heldBy 46 [none, none, some (.int x'), none] [] (pic G μ) n 0 0)) : V G C F_X12_heldBy 37 [some (.ref (G.2.1 + 264)), some (.int l1), none, some (.int l3)] [.int k0] (pic G μ) n 0 0 := by
  unfold f_X12_heldBy_j37_4 at hf
  refine V_iconst (v := 0) d_X12_heldBy_37 ic_0 ?_
  refine V_less (ls' := [some _, some _, none, some _]) ⟨rfl, rfl, rfl, trivial⟩ ?_
  exact s_X12_heldBy_j38_4 hG hf hK
theorem s_X12_heldBy_b4 {G : Gl} (hG : G.1.stackTraces = false) {C : Cx} {n : Nat} {μ : Mem} {l1 : Int32} {l2 : Int32} {l3 : Int32} {y : ((Int32 × Int32) ⊕ Int32)} (hf : f_X12_heldBy_b4 μ l1 l2 l3 = some y) (hK : (∀ z', y = .inl z' → ∀ n, V G C F_X12_heldBy 4 [some (.ref (G.2.1 + 264)), some (.int l1), some (.int z'.1), some (.int z'.2)] [] (pic G μ) n 0 0) ∧ (∀ x', y = .inr x' → ∀ n, V G C F_X12_heldBy 46 [none, none, some (.int x'), none] [] (pic G μ) n 0 0)) : V G C F_X12_heldBy 4 [some (.ref (G.2.1 + 264)), some (.int l1), some (.int l2), some (.int l3)] [] (pic G μ) n 0 0 := by
  unfold f_X12_heldBy_b4 at hf
  refine V_iload_n d_X12_heldBy_4 rfl rfl ?_
  refine V_aload_n d_X12_heldBy_5 rfl rfl ?_
  obtain ⟨t1, ht1, hf⟩ := ob hf
  refine B_callV1 (s_X12_laces hG ht1) k_264 clX12 m_X12_laces kv_RX12_77 d_X12_heldBy_6 rfl (Nat.le_of_ble_eq_true rfl) ⟨rfl, rfl, Nat.le_of_ble_eq_true rfl, Nat.le_of_ble_eq_true rfl, Nat.le_of_ble_eq_true rfl⟩ (fun n => ?_)
  refine V_icmp_ge (tgt := 46) d_X12_heldBy_9 (by decide) (fun c9 => ?_) (fun c9 => ?_)
  · replace hf := iteT c9 hf
    refine V_less (ls' := [none, none, some _, none]) ⟨rfl, trivial⟩ ?_
    cases hf
    exact hK.2 _ rfl _
  · replace hf := iteF c9 hf
    refine V_iload_n d_X12_heldBy_12 rfl rfl ?_
    refine V_aload_n d_X12_heldBy_13 rfl rfl ?_
    refine V_iload_n d_X12_heldBy_14 rfl rfl ?_
    obtain ⟨t2, ht2, hf⟩ := ob hf
    refine B_callV1 (s_X12_isIn hG ht2) k_264 clX12 m_X12_isIn kv_RX12_138 d_X12_heldBy_15 rfl (Nat.le_of_ble_eq_true rfl) ⟨rfl, rfl, Nat.le_of_ble_eq_true rfl, Nat.le_of_ble_eq_true rfl, Nat.le_of_ble_eq_true rfl⟩ (fun n => ?_)
    refine V_if_ne (tgt := 37) d_X12_heldBy_18 (by decide) (fun c18 => ?_) (fun c18 => ?_)
    · replace hf := iteT (b2i_ne0 c18) hf
      refine V_less (ls' := [some _, some _, none, some _]) ⟨rfl, rfl, rfl, trivial⟩ ?_
      exact s_X12_heldBy_j37_4 hG hf hK
    · replace hf := iteF (b2i_nt (b2i_eq0 c18)) hf
      refine V_aload_n d_X12_heldBy_21 rfl rfl ?_
      refine V_iload_n d_X12_heldBy_22 rfl rfl ?_
      refine V_iconst (v := 1) d_X12_heldBy_23 ic_1 ?_
      obtain ⟨t3, ht3, hf⟩ := ob hf
      refine B_callV1 (s_X12_ofLace hG ht3) k_264 clX12 m_X12_ofLace kv_RX12_70 d_X12_heldBy_24 rfl (Nat.le_of_ble_eq_true rfl) ⟨rfl, rfl, Nat.le_of_ble_eq_true rfl, Nat.le_of_ble_eq_true rfl, Nat.le_of_ble_eq_true rfl⟩ (fun n => ?_)
      refine V_iload_n d_X12_heldBy_27 rfl rfl ?_
      have hJj4 : ∀ j4 : Int32, j4 = (if t3 = l1 then ((1 <<< (l3 &&& 31)) : Int32) else 0) → V G C F_X12_heldBy 38 [some (.ref (G.2.1 + 264)), some (.int l1), none, some (.int l3)] [.int j4, .int l2] (pic G μ) n 0 0 := by
        intro j4 ej4
        subst ej4
        refine V_ior d_X12_heldBy_38 ?_
        refine V_istore_n (ls' := [_, _, _, _]) d_X12_heldBy_39 rfl rfl rfl ?_
        refine V_iinc (v := (l3 + 1)) (ls' := [_, _, _, _]) d_X12_heldBy_40 rfl (by rw [ic_1]) rfl ?_
        refine V_goto (tgt := 4) d_X12_heldBy_43 (by decide) ?_
        refine V_less (ls' := [some _, some _, some _, some _]) ⟨rfl, rfl, rfl, rfl, trivial⟩ ?_
        cases hf
        exact hK.1 _ rfl _
      refine V_icmp_ne (tgt := 37) d_X12_heldBy_28 (by decide) (fun c28 => ?_) (fun c28 => ?_)
      · refine V_iconst (v := 0) d_X12_heldBy_37 ic_0 ?_
        refine V_less (ls' := [some _, some _, none, some _]) ⟨rfl, rfl, rfl, trivial⟩ ?_
        exact hJj4 0 (by rw [if_neg c28])
      · refine V_iconst (v := 1) d_X12_heldBy_31 ic_1 ?_
        refine V_iload_n d_X12_heldBy_32 rfl rfl ?_
        refine V_ishl d_X12_heldBy_33 ?_
        refine V_goto (tgt := 38) d_X12_heldBy_34 (by decide) ?_
        refine V_less (ls' := [some _, some _, none, some _]) ⟨rfl, rfl, rfl, trivial⟩ ?_
        exact hJj4 (1 <<< (l3 &&& 31)) (by rw [if_pos c28])
theorem s_X12_heldBy_j46 {G : Gl} (hG : G.1.stackTraces = false) {C : Cx} {n : Nat} {μ : Mem} {l2 : Int32} {r : Int32} (hf : f_X12_heldBy_j46 μ l2 = some r) (hK : FinR G C F_X12_heldBy (some .int) (some (.int r)) μ) : V G C F_X12_heldBy 46 [none, none, some (.int l2), none] [] (pic G μ) n 0 0 := by
  unfold f_X12_heldBy_j46 at hf
  refine V_iload_n d_X12_heldBy_46 rfl rfl ?_
  cases hf
  exact R_i hK d_X12_heldBy_47 (Nat.le_of_ble_eq_true rfl) (Nat.le_of_ble_eq_true rfl)
theorem s_X12_heldBy_l4 {G : Gl} (hG : G.1.stackTraces = false) {C : Cx} {n : Nat} {μ : Mem} {l1 : Int32} {l2 : Int32} {l3 : Int32} {r : Int32} (hf : f_X12_heldBy_l4 μ l1 l2 l3 = some r) (hK : FinR G C F_X12_heldBy (some .int) (some (.int r)) μ) : V G C F_X12_heldBy 4 [some (.ref (G.2.1 + 264)), some (.int l1), some (.int l2), some (.int l3)] [] (pic G μ) n 0 0 := by
  unfold f_X12_heldBy_l4 at hf
  obtain ⟨t, hl, hf⟩ := ob hf
  refine loopV (P := fun z => ∀ n, V G C F_X12_heldBy 4 [some (.ref (G.2.1 + 264)), some (.int l1), some (.int z.1), some (.int z.2)] [] (pic G μ) n 0 0) (t := t) ?_ _ _ hl n
  intro z y' hy hI hT n
  refine s_X12_heldBy_b4 hG hy ⟨hI, fun x9 ex => ?_⟩
  have ex2 := hT x9 ex
  subst ex2
  intro n
  exact s_X12_heldBy_j46 hG hf hK
theorem s_X12_heldBy_e {G : Gl} (hG : G.1.stackTraces = false) {C : Cx} {n : Nat} {μ : Mem} {p1 : Int32} {r : Int32} (hf : f_X12_heldBy μ p1 = some r) (hK : FinR G C F_X12_heldBy (some .int) (some (.int r)) μ) : V G C F_X12_heldBy 0 [some (.ref (G.2.1 + 264)), some (.int p1), none, none] [] (pic G μ) n 0 0 := by
  unfold f_X12_heldBy at hf
  refine V_iconst (v := 0) d_X12_heldBy_0 ic_0 ?_
  refine V_istore_n (ls' := [_, _, _, _]) d_X12_heldBy_1 rfl rfl rfl ?_
  refine V_iconst (v := 0) d_X12_heldBy_2 ic_0 ?_
  refine V_istore_n (ls' := [_, _, _, _]) d_X12_heldBy_3 rfl rfl rfl ?_
  refine V_less (ls' := [some _, some _, some _, some _]) ⟨rfl, rfl, rfl, rfl, trivial⟩ ?_
  exact s_X12_heldBy_l4 hG hf hK
theorem s_X12_heldBy {G : Gl} (hG : G.1.stackTraces = false) {μ : Mem} {p1 : Int32} {r : Int32} (hf : f_X12_heldBy μ p1 = some r) : Rt G yX12_heldBy F_X12_heldBy (some .int) [.ref (G.2.1 + 264), .int p1] μ (some (.int r)) μ := fun n => Sd.of hG ⟨by decide +kernel, rfl, rfl⟩ rfl (Nat.le_of_ble_eq_true rfl) rfl (fun C hK => s_X12_heldBy_e hG hf hK)
theorem d_X12_isThere_0 : decode cX12_isThere 0 = .ok (.aload_n 0, 1) := by decide +kernel
theorem d_X12_isThere_1 : decode cX12_isThere 1 = .ok (.iload_n 1, 1) := by decide +kernel
theorem d_X12_isThere_2 : decode cX12_isThere 2 = .ok (.iconst 2, 1) := by decide +kernel
theorem d_X12_isThere_3 : decode cX12_isThere 3 = .ok (.invokevirtual 84, 3) := by decide +kernel
theorem d_X12_isThere_6 : decode cX12_isThere 6 = .ok (.aload_n 0, 1) := by decide +kernel
theorem d_X12_isThere_7 : decode cX12_isThere 7 = .ok (.iload_n 1, 1) := by decide +kernel
theorem d_X12_isThere_8 : decode cX12_isThere 8 = .ok (.iconst 3, 1) := by decide +kernel
theorem d_X12_isThere_9 : decode cX12_isThere 9 = .ok (.invokevirtual 84, 3) := by decide +kernel
theorem d_X12_isThere_12 : decode cX12_isThere 12 = .ok (.if_icmp .ne 7, 3) := by decide +kernel
theorem d_X12_isThere_15 : decode cX12_isThere 15 = .ok (.iconst 1, 1) := by decide +kernel
theorem d_X12_isThere_16 : decode cX12_isThere 16 = .ok (.goto 4, 3) := by decide +kernel
theorem d_X12_isThere_19 : decode cX12_isThere 19 = .ok (.iconst 0, 1) := by decide +kernel
theorem d_X12_isThere_20 : decode cX12_isThere 20 = .ok (.ireturn, 1) := by decide +kernel
theorem s_X12_isThere_e {G : Gl} (hG : G.1.stackTraces = false) {C : Cx} {n : Nat} {μ : Mem} {p1 : Int32} {r : Bool} (hf : f_X12_isThere μ p1 = some r) (hK : FinR G C F_X12_isThere (some .boolean) (some (.int (b2i r))) μ) : V G C F_X12_isThere 0 [some (.ref (G.2.1 + 264)), some (.int p1)] [] (pic G μ) n 0 0 := by
  unfold f_X12_isThere at hf
  refine V_aload_n d_X12_isThere_0 rfl rfl ?_
  refine V_iload_n d_X12_isThere_1 rfl rfl ?_
  refine V_iconst (v := 2) d_X12_isThere_2 ic_2 ?_
  obtain ⟨t1, ht1, hf⟩ := ob hf
  refine B_callV1 (s_X12_of hG ht1) k_264 clX12 m_X12_of kv_RX12_84 d_X12_isThere_3 rfl (Nat.le_of_ble_eq_true rfl) ⟨rfl, rfl, Nat.le_of_ble_eq_true rfl, Nat.le_of_ble_eq_true rfl, Nat.le_of_ble_eq_true rfl⟩ (fun n => ?_)
  refine V_aload_n d_X12_isThere_6 rfl rfl ?_
  refine V_iload_n d_X12_isThere_7 rfl rfl ?_
  refine V_iconst (v := 3) d_X12_isThere_8 ic_3 ?_
  obtain ⟨t2, ht2, hf⟩ := ob hf
  refine B_callV1 (s_X12_of hG ht2) k_264 clX12 m_X12_of kv_RX12_84 d_X12_isThere_9 rfl (Nat.le_of_ble_eq_true rfl) ⟨rfl, rfl, Nat.le_of_ble_eq_true rfl, Nat.le_of_ble_eq_true rfl, Nat.le_of_ble_eq_true rfl⟩ (fun n => ?_)
  have hJj3 : ∀ j3 : Bool, j3 = (if t1 = t2 then (true : Bool) else false) → V G C F_X12_isThere 20 [none, none] [.int (b2i j3)] (pic G μ) n 0 0 := by
    intro j3 ej3
    subst ej3
    cases hf
    exact R_z hK d_X12_isThere_20 (Nat.le_of_ble_eq_true rfl) (Nat.le_of_ble_eq_true rfl)
  refine V_icmp_ne (tgt := 19) d_X12_isThere_12 (by decide) (fun c12 => ?_) (fun c12 => ?_)
  · refine V_iconst (v := 0) d_X12_isThere_19 ic_0 ?_
    refine V_less (ls' := [none, none]) trivial ?_
    exact hJj3 false (by rw [if_neg c12])
  · refine V_iconst (v := 1) d_X12_isThere_15 ic_1 ?_
    refine V_goto (tgt := 20) d_X12_isThere_16 (by decide) ?_
    refine V_less (ls' := [none, none]) trivial ?_
    exact hJj3 true (by rw [if_pos c12])
theorem s_X12_isThere {G : Gl} (hG : G.1.stackTraces = false) {μ : Mem} {p1 : Int32} {r : Bool} (hf : f_X12_isThere μ p1 = some r) : Rt G yX12_isThere F_X12_isThere (some .boolean) [.ref (G.2.1 + 264), .int p1] μ (some (.int (b2i r))) μ := fun n => Sd.of hG ⟨by decide +kernel, rfl, rfl⟩ rfl (Nat.le_of_ble_eq_true rfl) rfl (fun C hK => s_X12_isThere_e hG hf hK)
theorem d_X12_factOf_0 : decode cX12_factOf 0 = .ok (.iload_n 1, 1) := by decide +kernel
theorem d_X12_factOf_1 : decode cX12_factOf 1 = .ok (.tableswitch 133 0 8 #[51, 53, 59, 68, 75, 90, 97, 104, 119], 51) := by decide +kernel
theorem d_X12_factOf_52 : decode cX12_factOf 52 = .ok (.iload_n 3, 1) := by decide +kernel
theorem d_X12_factOf_53 : decode cX12_factOf 53 = .ok (.ireturn, 1) := by decide +kernel
theorem d_X12_factOf_54 : decode cX12_factOf 54 = .ok (.aload_n 0, 1) := by decide +kernel
theorem d_X12_factOf_55 : decode cX12_factOf 55 = .ok (.iload_n 3, 1) := by decide +kernel
theorem d_X12_factOf_56 : decode cX12_factOf 56 = .ok (.invokevirtual 266, 3) := by decide +kernel
theorem d_X12_factOf_59 : decode cX12_factOf 59 = .ok (.ireturn, 1) := by decide +kernel
theorem d_X12_factOf_60 : decode cX12_factOf 60 = .ok (.aload_n 0, 1) := by decide +kernel
theorem d_X12_factOf_61 : decode cX12_factOf 61 = .ok (.iload_n 3, 1) := by decide +kernel
theorem d_X12_factOf_62 : decode cX12_factOf 62 = .ok (.invokevirtual 269, 3) := by decide +kernel
theorem d_X12_factOf_65 : decode cX12_factOf 65 = .ok (.invokestatic 272, 3) := by decide +kernel
theorem d_X12_factOf_68 : decode cX12_factOf 68 = .ok (.ireturn, 1) := by decide +kernel
theorem d_X12_factOf_69 : decode cX12_factOf 69 = .ok (.aload_n 0, 1) := by decide +kernel
theorem d_X12_factOf_70 : decode cX12_factOf 70 = .ok (.iload_n 3, 1) := by decide +kernel
theorem d_X12_factOf_71 : decode cX12_factOf 71 = .ok (.iconst 2, 1) := by decide +kernel
theorem d_X12_factOf_72 : decode cX12_factOf 72 = .ok (.invokevirtual 84, 3) := by decide +kernel
theorem d_X12_factOf_75 : decode cX12_factOf 75 = .ok (.ireturn, 1) := by decide +kernel
theorem d_X12_factOf_76 : decode cX12_factOf 76 = .ok (.aload_n 0, 1) := by decide +kernel
theorem d_X12_factOf_77 : decode cX12_factOf 77 = .ok (.getfield 13, 3) := by decide +kernel
theorem d_X12_factOf_80 : decode cX12_factOf 80 = .ok (.bipush 8, 2) := by decide +kernel
theorem d_X12_factOf_82 : decode cX12_factOf 82 = .ok (.aload_n 0, 1) := by decide +kernel
theorem d_X12_factOf_83 : decode cX12_factOf 83 = .ok (.iload_n 3, 1) := by decide +kernel
theorem d_X12_factOf_84 : decode cX12_factOf 84 = .ok (.iconst 2, 1) := by decide +kernel
theorem d_X12_factOf_85 : decode cX12_factOf 85 = .ok (.invokevirtual 84, 3) := by decide +kernel
theorem d_X12_factOf_88 : decode cX12_factOf 88 = .ok (.iadd, 1) := by decide +kernel
theorem d_X12_factOf_89 : decode cX12_factOf 89 = .ok (.iaload, 1) := by decide +kernel
theorem d_X12_factOf_90 : decode cX12_factOf 90 = .ok (.ireturn, 1) := by decide +kernel
theorem d_X12_factOf_91 : decode cX12_factOf 91 = .ok (.aload_n 0, 1) := by decide +kernel
theorem d_X12_factOf_92 : decode cX12_factOf 92 = .ok (.iload_n 3, 1) := by decide +kernel
theorem d_X12_factOf_93 : decode cX12_factOf 93 = .ok (.iconst 4, 1) := by decide +kernel
theorem d_X12_factOf_94 : decode cX12_factOf 94 = .ok (.invokevirtual 84, 3) := by decide +kernel
theorem d_X12_factOf_97 : decode cX12_factOf 97 = .ok (.ireturn, 1) := by decide +kernel
theorem d_X12_factOf_98 : decode cX12_factOf 98 = .ok (.aload_n 0, 1) := by decide +kernel
theorem d_X12_factOf_99 : decode cX12_factOf 99 = .ok (.getfield 13, 3) := by decide +kernel
theorem d_X12_factOf_102 : decode cX12_factOf 102 = .ok (.iconst 3, 1) := by decide +kernel
theorem d_X12_factOf_103 : decode cX12_factOf 103 = .ok (.iaload, 1) := by decide +kernel
theorem d_X12_factOf_104 : decode cX12_factOf 104 = .ok (.ireturn, 1) := by decide +kernel
theorem d_X12_factOf_105 : decode cX12_factOf 105 = .ok (.aload_n 0, 1) := by decide +kernel
theorem d_X12_factOf_106 : decode cX12_factOf 106 = .ok (.iload_n 3, 1) := by decide +kernel
theorem d_X12_factOf_107 : decode cX12_factOf 107 = .ok (.invokevirtual 266, 3) := by decide +kernel
theorem d_X12_factOf_110 : decode cX12_factOf 110 = .ok (.iconst 1, 1) := by decide +kernel
theorem d_X12_factOf_111 : decode cX12_factOf 111 = .ok (.if_icmp .ne 7, 3) := by decide +kernel
theorem d_X12_factOf_114 : decode cX12_factOf 114 = .ok (.iconst 0, 1) := by decide +kernel
theorem d_X12_factOf_115 : decode cX12_factOf 115 = .ok (.goto 4, 3) := by decide +kernel
theorem d_X12_factOf_118 : decode cX12_factOf 118 = .ok (.iconst 1, 1) := by decide +kernel
theorem d_X12_factOf_119 : decode cX12_factOf 119 = .ok (.ireturn, 1) := by decide +kernel
theorem d_X12_factOf_120 : decode cX12_factOf 120 = .ok (.aload_n 0, 1) := by decide +kernel
theorem d_X12_factOf_121 : decode cX12_factOf 121 = .ok (.iload_n 3, 1) := by decide +kernel
theorem d_X12_factOf_122 : decode cX12_factOf 122 = .ok (.invokevirtual 277, 3) := by decide +kernel
theorem d_X12_factOf_125 : decode cX12_factOf 125 = .ok (.ifCond .eq 7, 3) := by decide +kernel
theorem d_X12_factOf_128 : decode cX12_factOf 128 = .ok (.iconst 1, 1) := by decide +kernel
theorem d_X12_factOf_129 : decode cX12_factOf 129 = .ok (.goto 4, 3) := by decide +kernel
theorem d_X12_factOf_132 : decode cX12_factOf 132 = .ok (.iconst 0, 1) := by decide +kernel
theorem d_X12_factOf_133 : decode cX12_factOf 133 = .ok (.ireturn, 1) := by decide +kernel
theorem d_X12_factOf_134 : decode cX12_factOf 134 = .ok (.iload_n 2, 1) := by decide +kernel
theorem d_X12_factOf_135 : decode cX12_factOf 135 = .ok (.ireturn, 1) := by decide +kernel
theorem s_X12_factOf_e {G : Gl} (hG : G.1.stackTraces = false) {C : Cx} {n : Nat} {μ : Mem} {p1 : Int32} {p2 : Int32} {p3 : Int32} {r : Int32} (hf : f_X12_factOf μ p1 p2 p3 = some r) (hK : FinR G C F_X12_factOf (some .int) (some (.int r)) μ) : V G C F_X12_factOf 0 [some (.ref (G.2.1 + 264)), some (.int p1), some (.int p2), some (.int p3)] [] (pic G μ) n 0 0 := by
  unfold f_X12_factOf at hf
  refine V_iload_n d_X12_factOf_0 rfl rfl ?_
  by_cases c1_0 : p1 = 0
  · replace hf := iteT c1_0 hf
    refine V_tabC (q := 0) (off := 51) (tgt := 52) d_X12_factOf_1 c1_0 (by decide) (by decide) ?_
    refine V_iload_n d_X12_factOf_52 rfl rfl ?_
    cases hf
    exact R_i hK d_X12_factOf_53 (Nat.le_of_ble_eq_true rfl) (Nat.le_of_ble_eq_true rfl)
  replace hf := iteF c1_0 hf
  by_cases c1_1 : p1 = 1
  · replace hf := iteT c1_1 hf
    refine V_tabC (q := 1) (off := 53) (tgt := 54) d_X12_factOf_1 c1_1 (by decide) (by decide) ?_
    refine V_aload_n d_X12_factOf_54 rfl rfl ?_
    refine V_iload_n d_X12_factOf_55 rfl rfl ?_
    obtain ⟨t1, ht1, hf⟩ := ob hf
    refine B_callV1 (s_X12_slackOf hG ht1) k_264 clX12 m_X12_slackOf kv_RX12_266 d_X12_factOf_56 rfl (Nat.le_of_ble_eq_true rfl) ⟨rfl, rfl, Nat.le_of_ble_eq_true rfl, Nat.le_of_ble_eq_true rfl, Nat.le_of_ble_eq_true rfl⟩ (fun n => ?_)
    cases hf
    exact R_i hK d_X12_factOf_59 (Nat.le_of_ble_eq_true rfl) (Nat.le_of_ble_eq_true rfl)
  replace hf := iteF c1_1 hf
  by_cases c1_2 : p1 = 2
  · replace hf := iteT c1_2 hf
    refine V_tabC (q := 2) (off := 59) (tgt := 60) d_X12_factOf_1 c1_2 (by decide) (by decide) ?_
    refine V_aload_n d_X12_factOf_60 rfl rfl ?_
    refine V_iload_n d_X12_factOf_61 rfl rfl ?_
    obtain ⟨t2, ht2, hf⟩ := ob hf
    refine B_callV1 (s_X12_heldBy hG ht2) k_264 clX12 m_X12_heldBy kv_RX12_269 d_X12_factOf_62 rfl (Nat.le_of_ble_eq_true rfl) ⟨rfl, rfl, Nat.le_of_ble_eq_true rfl, Nat.le_of_ble_eq_true rfl, Nat.le_of_ble_eq_true rfl⟩ (fun n => ?_)
    obtain ⟨t3, ht3, hf⟩ := ob hf
    refine B_callS1 (s_J6_bitCount_0f7a4 hG ht3) m_J6_bitCount_0f7a4 ks_RX12_272 d_X12_factOf_65 rfl (Nat.le_of_ble_eq_true rfl) ⟨rfl, rfl, Nat.le_of_ble_eq_true rfl, Nat.le_of_ble_eq_true rfl, Nat.le_of_ble_eq_true rfl⟩ (fun n => ?_)
    cases hf
    exact R_i hK d_X12_factOf_68 (Nat.le_of_ble_eq_true rfl) (Nat.le_of_ble_eq_true rfl)
  replace hf := iteF c1_2 hf
  by_cases c1_3 : p1 = 3
  · replace hf := iteT c1_3 hf
    refine V_tabC (q := 3) (off := 68) (tgt := 69) d_X12_factOf_1 c1_3 (by decide) (by decide) ?_
    refine V_aload_n d_X12_factOf_69 rfl rfl ?_
    refine V_iload_n d_X12_factOf_70 rfl rfl ?_
    refine V_iconst (v := 2) d_X12_factOf_71 ic_2 ?_
    obtain ⟨t4, ht4, hf⟩ := ob hf
    refine B_callV1 (s_X12_of hG ht4) k_264 clX12 m_X12_of kv_RX12_84 d_X12_factOf_72 rfl (Nat.le_of_ble_eq_true rfl) ⟨rfl, rfl, Nat.le_of_ble_eq_true rfl, Nat.le_of_ble_eq_true rfl, Nat.le_of_ble_eq_true rfl⟩ (fun n => ?_)
    cases hf
    exact R_i hK d_X12_factOf_75 (Nat.le_of_ble_eq_true rfl) (Nat.le_of_ble_eq_true rfl)
  replace hf := iteF c1_3 hf
  by_cases c1_4 : p1 = 4
  · replace hf := iteT c1_4 hf
    refine V_tabC (q := 4) (off := 75) (tgt := 76) d_X12_factOf_1 c1_4 (by decide) (by decide) ?_
    refine V_aload_n d_X12_factOf_76 rfl rfl ?_
    refine B_get k_264 fl_RX12_13 d_X12_factOf_77 g_12_1 ?_
    refine V_bipush (v := 8) d_X12_factOf_80 bp_8 ?_
    refine V_aload_n d_X12_factOf_82 rfl rfl ?_
    refine V_iload_n d_X12_factOf_83 rfl rfl ?_
    refine V_iconst (v := 2) d_X12_factOf_84 ic_2 ?_
    obtain ⟨t5, ht5, hf⟩ := ob hf
    refine B_callV1 (s_X12_of hG ht5) k_264 clX12 m_X12_of kv_RX12_84 d_X12_factOf_85 rfl (Nat.le_of_ble_eq_true rfl) ⟨rfl, rfl, Nat.le_of_ble_eq_true rfl, Nat.le_of_ble_eq_true rfl, Nat.le_of_ble_eq_true rfl⟩ (fun n => ?_)
    refine V_iadd d_X12_factOf_88 ?_
    obtain ⟨t6, ht6, hf⟩ := ob hf
    refine B_iald k_265 ht6 d_X12_factOf_89 ?_
    cases hf
    exact R_i hK d_X12_factOf_90 (Nat.le_of_ble_eq_true rfl) (Nat.le_of_ble_eq_true rfl)
  replace hf := iteF c1_4 hf
  by_cases c1_5 : p1 = 5
  · replace hf := iteT c1_5 hf
    refine V_tabC (q := 5) (off := 90) (tgt := 91) d_X12_factOf_1 c1_5 (by decide) (by decide) ?_
    refine V_aload_n d_X12_factOf_91 rfl rfl ?_
    refine V_iload_n d_X12_factOf_92 rfl rfl ?_
    refine V_iconst (v := 4) d_X12_factOf_93 ic_4 ?_
    obtain ⟨t7, ht7, hf⟩ := ob hf
    refine B_callV1 (s_X12_of hG ht7) k_264 clX12 m_X12_of kv_RX12_84 d_X12_factOf_94 rfl (Nat.le_of_ble_eq_true rfl) ⟨rfl, rfl, Nat.le_of_ble_eq_true rfl, Nat.le_of_ble_eq_true rfl, Nat.le_of_ble_eq_true rfl⟩ (fun n => ?_)
    cases hf
    exact R_i hK d_X12_factOf_97 (Nat.le_of_ble_eq_true rfl) (Nat.le_of_ble_eq_true rfl)
  replace hf := iteF c1_5 hf
  by_cases c1_6 : p1 = 6
  · replace hf := iteT c1_6 hf
    refine V_tabC (q := 6) (off := 97) (tgt := 98) d_X12_factOf_1 c1_6 (by decide) (by decide) ?_
    refine V_aload_n d_X12_factOf_98 rfl rfl ?_
    refine B_get k_264 fl_RX12_13 d_X12_factOf_99 g_12_1 ?_
    refine V_iconst (v := 3) d_X12_factOf_102 ic_3 ?_
    obtain ⟨t8, ht8, hf⟩ := ob hf
    refine B_iald k_265 ht8 d_X12_factOf_103 ?_
    cases hf
    exact R_i hK d_X12_factOf_104 (Nat.le_of_ble_eq_true rfl) (Nat.le_of_ble_eq_true rfl)
  replace hf := iteF c1_6 hf
  by_cases c1_7 : p1 = 7
  · replace hf := iteT c1_7 hf
    refine V_tabC (q := 7) (off := 104) (tgt := 105) d_X12_factOf_1 c1_7 (by decide) (by decide) ?_
    refine V_aload_n d_X12_factOf_105 rfl rfl ?_
    refine V_iload_n d_X12_factOf_106 rfl rfl ?_
    obtain ⟨t9, ht9, hf⟩ := ob hf
    refine B_callV1 (s_X12_slackOf hG ht9) k_264 clX12 m_X12_slackOf kv_RX12_266 d_X12_factOf_107 rfl (Nat.le_of_ble_eq_true rfl) ⟨rfl, rfl, Nat.le_of_ble_eq_true rfl, Nat.le_of_ble_eq_true rfl, Nat.le_of_ble_eq_true rfl⟩ (fun n => ?_)
    refine V_iconst (v := 1) d_X12_factOf_110 ic_1 ?_
    have hJj10 : ∀ j10 : Bool, j10 = (if t9 = 1 then (false : Bool) else true) → V G C F_X12_factOf 119 [none, none, none, none] [.int (b2i j10)] (pic G μ) n 0 0 := by
      intro j10 ej10
      subst ej10
      cases hf
      exact R_i hK d_X12_factOf_119 (Nat.le_of_ble_eq_true rfl) (Nat.le_of_ble_eq_true rfl)
    refine V_icmp_ne (tgt := 118) d_X12_factOf_111 (by decide) (fun c111 => ?_) (fun c111 => ?_)
    · refine V_iconst (v := 1) d_X12_factOf_118 ic_1 ?_
      refine V_less (ls' := [none, none, none, none]) trivial ?_
      exact hJj10 true (by rw [if_neg c111])
    · refine V_iconst (v := 0) d_X12_factOf_114 ic_0 ?_
      refine V_goto (tgt := 119) d_X12_factOf_115 (by decide) ?_
      refine V_less (ls' := [none, none, none, none]) trivial ?_
      exact hJj10 false (by rw [if_pos c111])
  replace hf := iteF c1_7 hf
  by_cases c1_8 : p1 = 8
  · replace hf := iteT c1_8 hf
    refine V_tabC (q := 8) (off := 119) (tgt := 120) d_X12_factOf_1 c1_8 (by decide) (by decide) ?_
    refine V_aload_n d_X12_factOf_120 rfl rfl ?_
    refine V_iload_n d_X12_factOf_121 rfl rfl ?_
    obtain ⟨t11, ht11, hf⟩ := ob hf
    refine B_callV1 (s_X12_isThere hG ht11) k_264 clX12 m_X12_isThere kv_RX12_277 d_X12_factOf_122 rfl (Nat.le_of_ble_eq_true rfl) ⟨rfl, rfl, Nat.le_of_ble_eq_true rfl, Nat.le_of_ble_eq_true rfl, Nat.le_of_ble_eq_true rfl⟩ (fun n => ?_)
    have hJj12 : ∀ j12 : Bool, j12 = (if t11 = true then (true : Bool) else false) → V G C F_X12_factOf 133 [none, none, none, none] [.int (b2i j12)] (pic G μ) n 0 0 := by
      intro j12 ej12
      subst ej12
      cases hf
      exact R_i hK d_X12_factOf_133 (Nat.le_of_ble_eq_true rfl) (Nat.le_of_ble_eq_true rfl)
    refine V_if_eq (tgt := 132) d_X12_factOf_125 (by decide) (fun c125 => ?_) (fun c125 => ?_)
    · refine V_iconst (v := 0) d_X12_factOf_132 ic_0 ?_
      refine V_less (ls' := [none, none, none, none]) trivial ?_
      exact hJj12 false (by rw [if_neg (b2i_nt (b2i_eq0 c125))])
    · refine V_iconst (v := 1) d_X12_factOf_128 ic_1 ?_
      refine V_goto (tgt := 133) d_X12_factOf_129 (by decide) ?_
      refine V_less (ls' := [none, none, none, none]) trivial ?_
      exact hJj12 true (by rw [if_pos (b2i_ne0 c125)])
  replace hf := iteF c1_8 hf
  refine V_tabD (ks9 := [0, 1, 2, 3, 4, 5, 6, 7, 8]) (tgt := 134) d_X12_factOf_1 ⟨c1_0, c1_1, c1_2, c1_3, c1_4, c1_5, c1_6, c1_7, c1_8, trivial⟩ (by decide) (by decide) ?_
  refine V_iload_n d_X12_factOf_134 rfl rfl ?_
  cases hf
  exact R_i hK d_X12_factOf_135 (Nat.le_of_ble_eq_true rfl) (Nat.le_of_ble_eq_true rfl)
theorem s_X12_factOf {G : Gl} (hG : G.1.stackTraces = false) {μ : Mem} {p1 : Int32} {p2 : Int32} {p3 : Int32} {r : Int32} (hf : f_X12_factOf μ p1 p2 p3 = some r) : Rt G yX12_factOf F_X12_factOf (some .int) [.ref (G.2.1 + 264), .int p1, .int p2, .int p3] μ (some (.int r)) μ := fun n => Sd.of hG ⟨by decide +kernel, rfl, rfl⟩ rfl (Nat.le_of_ble_eq_true rfl) rfl (fun C hK => s_X12_factOf_e hG hf hK)
theorem d_X12_holdsLine_0 : decode cX12_holdsLine 0 = .ok (.iconst 0, 1) := by decide +kernel
theorem d_X12_holdsLine_1 : decode cX12_holdsLine 1 = .ok (.istore_n 3, 1) := by decide +kernel
theorem d_X12_holdsLine_2 : decode cX12_holdsLine 2 = .ok (.sipush 371, 3) := by decide +kernel
theorem d_X12_holdsLine_5 : decode cX12_holdsLine 5 = .ok (.iconst 4, 1) := by decide +kernel
theorem d_X12_holdsLine_6 : decode cX12_holdsLine 6 = .ok (.iload_n 1, 1) := by decide +kernel
theorem d_X12_holdsLine_7 : decode cX12_holdsLine 7 = .ok (.imul, 1) := by decide +kernel
theorem d_X12_holdsLine_8 : decode cX12_holdsLine 8 = .ok (.iadd, 1) := by decide +kernel
theorem d_X12_holdsLine_9 : decode cX12_holdsLine 9 = .ok (.istore 4, 2) := by decide +kernel
theorem d_X12_holdsLine_11 : decode cX12_holdsLine 11 = .ok (.aload_n 0, 1) := by decide +kernel
theorem d_X12_holdsLine_12 : decode cX12_holdsLine 12 = .ok (.getfield 13, 3) := by decide +kernel
theorem d_X12_holdsLine_15 : decode cX12_holdsLine 15 = .ok (.iload 4, 2) := by decide +kernel
theorem d_X12_holdsLine_17 : decode cX12_holdsLine 17 = .ok (.iconst 2, 1) := by decide +kernel
theorem d_X12_holdsLine_18 : decode cX12_holdsLine 18 = .ok (.iadd, 1) := by decide +kernel
theorem d_X12_holdsLine_19 : decode cX12_holdsLine 19 = .ok (.iaload, 1) := by decide +kernel
theorem d_X12_holdsLine_20 : decode cX12_holdsLine 20 = .ok (.istore 5, 2) := by decide +kernel
theorem d_X12_holdsLine_22 : decode cX12_holdsLine 22 = .ok (.iload 5, 2) := by decide +kernel
theorem d_X12_holdsLine_24 : decode cX12_holdsLine 24 = .ok (.aload_n 0, 1) := by decide +kernel
theorem d_X12_holdsLine_25 : decode cX12_holdsLine 25 = .ok (.getfield 13, 3) := by decide +kernel
theorem d_X12_holdsLine_28 : decode cX12_holdsLine 28 = .ok (.iload 4, 2) := by decide +kernel
theorem d_X12_holdsLine_30 : decode cX12_holdsLine 30 = .ok (.iconst 3, 1) := by decide +kernel
theorem d_X12_holdsLine_31 : decode cX12_holdsLine 31 = .ok (.iadd, 1) := by decide +kernel
theorem d_X12_holdsLine_32 : decode cX12_holdsLine 32 = .ok (.iaload, 1) := by decide +kernel
theorem d_X12_holdsLine_33 : decode cX12_holdsLine 33 = .ok (.if_icmp .ge 230, 3) := by decide +kernel
theorem d_X12_holdsLine_36 : decode cX12_holdsLine 36 = .ok (.aload_n 0, 1) := by decide +kernel
theorem d_X12_holdsLine_37 : decode cX12_holdsLine 37 = .ok (.getfield 13, 3) := by decide +kernel
theorem d_X12_holdsLine_40 : decode cX12_holdsLine 40 = .ok (.sipush 419, 3) := by decide +kernel
theorem d_X12_holdsLine_43 : decode cX12_holdsLine 43 = .ok (.iconst 2, 1) := by decide +kernel
theorem d_X12_holdsLine_44 : decode cX12_holdsLine 44 = .ok (.iload 5, 2) := by decide +kernel
theorem d_X12_holdsLine_46 : decode cX12_holdsLine 46 = .ok (.imul, 1) := by decide +kernel
theorem d_X12_holdsLine_47 : decode cX12_holdsLine 47 = .ok (.iadd, 1) := by decide +kernel
theorem d_X12_holdsLine_48 : decode cX12_holdsLine 48 = .ok (.iaload, 1) := by decide +kernel
theorem d_X12_holdsLine_49 : decode cX12_holdsLine 49 = .ok (.istore 6, 2) := by decide +kernel
theorem d_X12_holdsLine_51 : decode cX12_holdsLine 51 = .ok (.iload 6, 2) := by decide +kernel
theorem d_X12_holdsLine_53 : decode cX12_holdsLine 53 = .ok (.bipush 9, 2) := by decide +kernel
theorem d_X12_holdsLine_55 : decode cX12_holdsLine 55 = .ok (.if_icmp .gt 37, 3) := by decide +kernel
theorem d_X12_holdsLine_58 : decode cX12_holdsLine 58 = .ok (.aload_n 0, 1) := by decide +kernel
theorem d_X12_holdsLine_59 : decode cX12_holdsLine 59 = .ok (.getfield 39, 3) := by decide +kernel
theorem d_X12_holdsLine_62 : decode cX12_holdsLine 62 = .ok (.iload_n 3, 1) := by decide +kernel
theorem d_X12_holdsLine_63 : decode cX12_holdsLine 63 = .ok (.aload_n 0, 1) := by decide +kernel
theorem d_X12_holdsLine_64 : decode cX12_holdsLine 64 = .ok (.iload 6, 2) := by decide +kernel
theorem d_X12_holdsLine_66 : decode cX12_holdsLine 66 = .ok (.aload_n 0, 1) := by decide +kernel
theorem d_X12_holdsLine_67 : decode cX12_holdsLine 67 = .ok (.getfield 13, 3) := by decide +kernel
theorem d_X12_holdsLine_70 : decode cX12_holdsLine 70 = .ok (.sipush 419, 3) := by decide +kernel
theorem d_X12_holdsLine_73 : decode cX12_holdsLine 73 = .ok (.iconst 2, 1) := by decide +kernel
theorem d_X12_holdsLine_74 : decode cX12_holdsLine 74 = .ok (.iload 5, 2) := by decide +kernel
theorem d_X12_holdsLine_76 : decode cX12_holdsLine 76 = .ok (.imul, 1) := by decide +kernel
theorem d_X12_holdsLine_77 : decode cX12_holdsLine 77 = .ok (.iadd, 1) := by decide +kernel
theorem d_X12_holdsLine_78 : decode cX12_holdsLine 78 = .ok (.iconst 1, 1) := by decide +kernel
theorem d_X12_holdsLine_79 : decode cX12_holdsLine 79 = .ok (.iadd, 1) := by decide +kernel
theorem d_X12_holdsLine_80 : decode cX12_holdsLine 80 = .ok (.iaload, 1) := by decide +kernel
theorem d_X12_holdsLine_81 : decode cX12_holdsLine 81 = .ok (.iload_n 2, 1) := by decide +kernel
theorem d_X12_holdsLine_82 : decode cX12_holdsLine 82 = .ok (.invokevirtual 280, 3) := by decide +kernel
theorem d_X12_holdsLine_85 : decode cX12_holdsLine 85 = .ok (.iastore, 1) := by decide +kernel
theorem d_X12_holdsLine_86 : decode cX12_holdsLine 86 = .ok (.iinc 3 1, 3) := by decide +kernel
theorem d_X12_holdsLine_89 : decode cX12_holdsLine 89 = .ok (.goto 168, 3) := by decide +kernel
theorem d_X12_holdsLine_92 : decode cX12_holdsLine 92 = .ok (.iload 6, 2) := by decide +kernel
theorem d_X12_holdsLine_94 : decode cX12_holdsLine 94 = .ok (.bipush 13, 2) := by decide +kernel
theorem d_X12_holdsLine_96 : decode cX12_holdsLine 96 = .ok (.if_icmp .ne 24, 3) := by decide +kernel
theorem d_X12_holdsLine_99 : decode cX12_holdsLine 99 = .ok (.aload_n 0, 1) := by decide +kernel
theorem d_X12_holdsLine_100 : decode cX12_holdsLine 100 = .ok (.getfield 39, 3) := by decide +kernel
theorem d_X12_holdsLine_103 : decode cX12_holdsLine 103 = .ok (.iload_n 3, 1) := by decide +kernel
theorem d_X12_holdsLine_104 : decode cX12_holdsLine 104 = .ok (.iconst 1, 1) := by decide +kernel
theorem d_X12_holdsLine_105 : decode cX12_holdsLine 105 = .ok (.isub, 1) := by decide +kernel
theorem d_X12_holdsLine_106 : decode cX12_holdsLine 106 = .ok (.iconst 1, 1) := by decide +kernel
theorem d_X12_holdsLine_107 : decode cX12_holdsLine 107 = .ok (.aload_n 0, 1) := by decide +kernel
theorem d_X12_holdsLine_108 : decode cX12_holdsLine 108 = .ok (.getfield 39, 3) := by decide +kernel
theorem d_X12_holdsLine_111 : decode cX12_holdsLine 111 = .ok (.iload_n 3, 1) := by decide +kernel
theorem d_X12_holdsLine_112 : decode cX12_holdsLine 112 = .ok (.iconst 1, 1) := by decide +kernel
theorem d_X12_holdsLine_113 : decode cX12_holdsLine 113 = .ok (.isub, 1) := by decide +kernel
theorem d_X12_holdsLine_114 : decode cX12_holdsLine 114 = .ok (.iaload, 1) := by decide +kernel
theorem d_X12_holdsLine_115 : decode cX12_holdsLine 115 = .ok (.isub, 1) := by decide +kernel
theorem d_X12_holdsLine_116 : decode cX12_holdsLine 116 = .ok (.iastore, 1) := by decide +kernel
theorem d_X12_holdsLine_117 : decode cX12_holdsLine 117 = .ok (.goto 140, 3) := by decide +kernel
theorem d_X12_holdsLine_120 : decode cX12_holdsLine 120 = .ok (.iinc 3 (-1), 3) := by decide +kernel
theorem d_X12_holdsLine_123 : decode cX12_holdsLine 123 = .ok (.aload_n 0, 1) := by decide +kernel
theorem d_X12_holdsLine_124 : decode cX12_holdsLine 124 = .ok (.getfield 39, 3) := by decide +kernel
theorem d_X12_holdsLine_127 : decode cX12_holdsLine 127 = .ok (.iload_n 3, 1) := by decide +kernel
theorem d_X12_holdsLine_128 : decode cX12_holdsLine 128 = .ok (.iconst 1, 1) := by decide +kernel
theorem d_X12_holdsLine_129 : decode cX12_holdsLine 129 = .ok (.isub, 1) := by decide +kernel
theorem d_X12_holdsLine_130 : decode cX12_holdsLine 130 = .ok (.iaload, 1) := by decide +kernel
theorem d_X12_holdsLine_131 : decode cX12_holdsLine 131 = .ok (.istore 7, 2) := by decide +kernel
theorem d_X12_holdsLine_133 : decode cX12_holdsLine 133 = .ok (.aload_n 0, 1) := by decide +kernel
theorem d_X12_holdsLine_134 : decode cX12_holdsLine 134 = .ok (.getfield 39, 3) := by decide +kernel
theorem d_X12_holdsLine_137 : decode cX12_holdsLine 137 = .ok (.iload_n 3, 1) := by decide +kernel
theorem d_X12_holdsLine_138 : decode cX12_holdsLine 138 = .ok (.iaload, 1) := by decide +kernel
theorem d_X12_holdsLine_139 : decode cX12_holdsLine 139 = .ok (.istore 8, 2) := by decide +kernel
theorem d_X12_holdsLine_141 : decode cX12_holdsLine 141 = .ok (.iload 6, 2) := by decide +kernel
theorem d_X12_holdsLine_143 : decode cX12_holdsLine 143 = .ok (.bipush 11, 2) := by decide +kernel
theorem d_X12_holdsLine_145 : decode cX12_holdsLine 145 = .ok (.if_icmp .ne 18, 3) := by decide +kernel
theorem d_X12_holdsLine_148 : decode cX12_holdsLine 148 = .ok (.iload 7, 2) := by decide +kernel
theorem d_X12_holdsLine_150 : decode cX12_holdsLine 150 = .ok (.iload 8, 2) := by decide +kernel
theorem d_X12_holdsLine_152 : decode cX12_holdsLine 152 = .ok (.if_icmp .ge 7, 3) := by decide +kernel
theorem d_X12_holdsLine_155 : decode cX12_holdsLine 155 = .ok (.iconst 1, 1) := by decide +kernel
theorem d_X12_holdsLine_156 : decode cX12_holdsLine 156 = .ok (.goto 66, 3) := by decide +kernel
theorem d_X12_holdsLine_159 : decode cX12_holdsLine 159 = .ok (.iconst 0, 1) := by decide +kernel
theorem d_X12_holdsLine_160 : decode cX12_holdsLine 160 = .ok (.goto 62, 3) := by decide +kernel
theorem d_X12_holdsLine_163 : decode cX12_holdsLine 163 = .ok (.iload 6, 2) := by decide +kernel
theorem d_X12_holdsLine_165 : decode cX12_holdsLine 165 = .ok (.bipush 12, 2) := by decide +kernel
theorem d_X12_holdsLine_167 : decode cX12_holdsLine 167 = .ok (.if_icmp .ne 18, 3) := by decide +kernel
theorem d_X12_holdsLine_170 : decode cX12_holdsLine 170 = .ok (.iload 7, 2) := by decide +kernel
theorem d_X12_holdsLine_172 : decode cX12_holdsLine 172 = .ok (.iload 8, 2) := by decide +kernel
theorem d_X12_holdsLine_174 : decode cX12_holdsLine 174 = .ok (.if_icmp .le 7, 3) := by decide +kernel
theorem d_X12_holdsLine_177 : decode cX12_holdsLine 177 = .ok (.iconst 1, 1) := by decide +kernel
theorem d_X12_holdsLine_178 : decode cX12_holdsLine 178 = .ok (.goto 44, 3) := by decide +kernel
theorem d_X12_holdsLine_181 : decode cX12_holdsLine 181 = .ok (.iconst 0, 1) := by decide +kernel
theorem d_X12_holdsLine_182 : decode cX12_holdsLine 182 = .ok (.goto 40, 3) := by decide +kernel
theorem d_X12_holdsLine_185 : decode cX12_holdsLine 185 = .ok (.iload 6, 2) := by decide +kernel
theorem d_X12_holdsLine_187 : decode cX12_holdsLine 187 = .ok (.bipush 14, 2) := by decide +kernel
theorem d_X12_holdsLine_189 : decode cX12_holdsLine 189 = .ok (.if_icmp .ne 20, 3) := by decide +kernel
theorem d_X12_holdsLine_192 : decode cX12_holdsLine 192 = .ok (.iload 7, 2) := by decide +kernel
theorem d_X12_holdsLine_194 : decode cX12_holdsLine 194 = .ok (.iload 8, 2) := by decide +kernel
theorem d_X12_holdsLine_196 : decode cX12_holdsLine 196 = .ok (.iadd, 1) := by decide +kernel
theorem d_X12_holdsLine_197 : decode cX12_holdsLine 197 = .ok (.iconst 2, 1) := by decide +kernel
theorem d_X12_holdsLine_198 : decode cX12_holdsLine 198 = .ok (.if_icmp .ne 7, 3) := by decide +kernel
theorem d_X12_holdsLine_201 : decode cX12_holdsLine 201 = .ok (.iconst 1, 1) := by decide +kernel
theorem d_X12_holdsLine_202 : decode cX12_holdsLine 202 = .ok (.goto 20, 3) := by decide +kernel
theorem d_X12_holdsLine_205 : decode cX12_holdsLine 205 = .ok (.iconst 0, 1) := by decide +kernel
theorem d_X12_holdsLine_206 : decode cX12_holdsLine 206 = .ok (.goto 16, 3) := by decide +kernel
theorem d_X12_holdsLine_209 : decode cX12_holdsLine 209 = .ok (.iload 7, 2) := by decide +kernel
theorem d_X12_holdsLine_211 : decode cX12_holdsLine 211 = .ok (.iload 8, 2) := by decide +kernel
theorem d_X12_holdsLine_213 : decode cX12_holdsLine 213 = .ok (.iadd, 1) := by decide +kernel
theorem d_X12_holdsLine_214 : decode cX12_holdsLine 214 = .ok (.ifCond .le 7, 3) := by decide +kernel
theorem d_X12_holdsLine_217 : decode cX12_holdsLine 217 = .ok (.iconst 1, 1) := by decide +kernel
theorem d_X12_holdsLine_218 : decode cX12_holdsLine 218 = .ok (.goto 4, 3) := by decide +kernel
theorem d_X12_holdsLine_221 : decode cX12_holdsLine 221 = .ok (.iconst 0, 1) := by decide +kernel
theorem d_X12_holdsLine_222 : decode cX12_holdsLine 222 = .ok (.istore 9, 2) := by decide +kernel
theorem d_X12_holdsLine_224 : decode cX12_holdsLine 224 = .ok (.aload_n 0, 1) := by decide +kernel
theorem d_X12_holdsLine_225 : decode cX12_holdsLine 225 = .ok (.getfield 39, 3) := by decide +kernel
theorem d_X12_holdsLine_228 : decode cX12_holdsLine 228 = .ok (.iload_n 3, 1) := by decide +kernel
theorem d_X12_holdsLine_229 : decode cX12_holdsLine 229 = .ok (.iconst 1, 1) := by decide +kernel
theorem d_X12_holdsLine_230 : decode cX12_holdsLine 230 = .ok (.isub, 1) := by decide +kernel
theorem d_X12_holdsLine_231 : decode cX12_holdsLine 231 = .ok (.iload 6, 2) := by decide +kernel
theorem d_X12_holdsLine_233 : decode cX12_holdsLine 233 = .ok (.bipush 10, 2) := by decide +kernel
theorem d_X12_holdsLine_235 : decode cX12_holdsLine 235 = .ok (.if_icmp .ne 11, 3) := by decide +kernel
theorem d_X12_holdsLine_238 : decode cX12_holdsLine 238 = .ok (.iload 7, 2) := by decide +kernel
theorem d_X12_holdsLine_240 : decode cX12_holdsLine 240 = .ok (.iload 8, 2) := by decide +kernel
theorem d_X12_holdsLine_242 : decode cX12_holdsLine 242 = .ok (.iadd, 1) := by decide +kernel
theorem d_X12_holdsLine_243 : decode cX12_holdsLine 243 = .ok (.goto 13, 3) := by decide +kernel
theorem d_X12_holdsLine_246 : decode cX12_holdsLine 246 = .ok (.iload 9, 2) := by decide +kernel
theorem d_X12_holdsLine_248 : decode cX12_holdsLine 248 = .ok (.ifCond .eq 7, 3) := by decide +kernel
theorem d_X12_holdsLine_251 : decode cX12_holdsLine 251 = .ok (.iconst 1, 1) := by decide +kernel
theorem d_X12_holdsLine_252 : decode cX12_holdsLine 252 = .ok (.goto 4, 3) := by decide +kernel
theorem d_X12_holdsLine_255 : decode cX12_holdsLine 255 = .ok (.iconst 0, 1) := by decide +kernel
theorem d_X12_holdsLine_256 : decode cX12_holdsLine 256 = .ok (.iastore, 1) := by decide +kernel
theorem d_X12_holdsLine_257 : decode cX12_holdsLine 257 = .ok (.iinc 5 1, 3) := by decide +kernel
theorem d_X12_holdsLine_260 : decode cX12_holdsLine 260 = .ok (.goto (-238), 3) := by decide +kernel
theorem d_X12_holdsLine_263 : decode cX12_holdsLine 263 = .ok (.iload_n 3, 1) := by decide +kernel
theorem d_X12_holdsLine_264 : decode cX12_holdsLine 264 = .ok (.ifCond .eq 13, 3) := by decide +kernel
theorem d_X12_holdsLine_267 : decode cX12_holdsLine 267 = .ok (.aload_n 0, 1) := by decide +kernel
theorem d_X12_holdsLine_268 : decode cX12_holdsLine 268 = .ok (.getfield 39, 3) := by decide +kernel
theorem d_X12_holdsLine_271 : decode cX12_holdsLine 271 = .ok (.iconst 0, 1) := by decide +kernel
theorem d_X12_holdsLine_272 : decode cX12_holdsLine 272 = .ok (.iaload, 1) := by decide +kernel
theorem d_X12_holdsLine_273 : decode cX12_holdsLine 273 = .ok (.iconst 1, 1) := by decide +kernel
theorem d_X12_holdsLine_274 : decode cX12_holdsLine 274 = .ok (.if_icmp .ne 7, 3) := by decide +kernel
theorem d_X12_holdsLine_277 : decode cX12_holdsLine 277 = .ok (.iconst 1, 1) := by decide +kernel
theorem d_X12_holdsLine_278 : decode cX12_holdsLine 278 = .ok (.goto 4, 3) := by decide +kernel
theorem d_X12_holdsLine_281 : decode cX12_holdsLine 281 = .ok (.iconst 0, 1) := by decide +kernel
theorem d_X12_holdsLine_282 : decode cX12_holdsLine 282 = .ok (.ireturn, 1) := by decide +kernel
theorem s_X12_holdsLine_j257_22 {G : Gl} (hG : G.1.stackTraces = false) {C : Cx} {n : Nat} {μ : Mem} {l2 : Int32} {l3 : Int32} {l4 : Int32} {l5 : Int32} {y : ((Int32 × Int32 × Mem) ⊕ (Int32 × Mem))} (hf : f_X12_holdsLine_j257_22 μ l2 l3 l4 l5 = some y) (hK : (∀ z', y = .inl z' → ∀ n, V G C F_X12_holdsLine 22 [some (.ref (G.2.1 + 264)), none, some (.int l2), some (.int z'.1), some (.int l4), some (.int z'.2.1), none, none, none, none] [] (pic G z'.2.2) n 0 0) ∧ (∀ x', y = .inr x' → ∀ n, V G C F_X12_holdsLine 263 [some (.ref (G.2.1 + 264)), none, none, some (.int x'.1), none, none, none, none, none, none] [] (pic G x'.2) n 0 0)) : V G C F_X12_holdsLine 257 [some (.ref (G.2.1 + 264)), none, some (.int l2), some (.int l3), some (.int l4), some (.int l5), none, none, none, none] [] (pic G μ) n 0 0 := by
  unfold f_X12_holdsLine_j257_22 at hf
  refine V_iinc (v := (l5 + 1)) (ls' := [_, _, _, _, _, _, _, _, _, _]) d_X12_holdsLine_257 rfl (by rw [ic_1]) rfl ?_
  refine V_goto (tgt := 22) d_X12_holdsLine_260 (by decide) ?_
  refine V_less (ls' := [some _, none, some _, some _, some _, some _, none, none, none, none]) ⟨rfl, rfl, rfl, rfl, rfl, trivial⟩ ?_
  cases hf
  exact hK.1 _ rfl _
theorem s_X12_holdsLine_b22 {G : Gl} (hG : G.1.stackTraces = false) {C : Cx} {n : Nat} {μ : Mem} {l2 : Int32} {l3 : Int32} {l4 : Int32} {l5 : Int32} {y : ((Int32 × Int32 × Mem) ⊕ (Int32 × Mem))} (hf : f_X12_holdsLine_b22 μ l2 l3 l4 l5 = some y) (hK : (∀ z', y = .inl z' → ∀ n, V G C F_X12_holdsLine 22 [some (.ref (G.2.1 + 264)), none, some (.int l2), some (.int z'.1), some (.int l4), some (.int z'.2.1), none, none, none, none] [] (pic G z'.2.2) n 0 0) ∧ (∀ x', y = .inr x' → ∀ n, V G C F_X12_holdsLine 263 [some (.ref (G.2.1 + 264)), none, none, some (.int x'.1), none, none, none, none, none, none] [] (pic G x'.2) n 0 0)) : V G C F_X12_holdsLine 22 [some (.ref (G.2.1 + 264)), none, some (.int l2), some (.int l3), some (.int l4), some (.int l5), none, none, none, none] [] (pic G μ) n 0 0 := by
  unfold f_X12_holdsLine_b22 at hf
  refine V_iload d_X12_holdsLine_22 rfl ?_
  refine V_aload_n d_X12_holdsLine_24 rfl rfl ?_
  refine B_get k_264 fl_RX12_13 d_X12_holdsLine_25 g_12_1 ?_
  refine V_iload d_X12_holdsLine_28 rfl ?_
  refine V_iconst (v := 3) d_X12_holdsLine_30 ic_3 ?_
  refine V_iadd d_X12_holdsLine_31 ?_
  obtain ⟨t1, ht1, hf⟩ := ob hf
  refine B_iald k_265 ht1 d_X12_holdsLine_32 ?_
  refine V_icmp_ge (tgt := 263) d_X12_holdsLine_33 (by decide) (fun c33 => ?_) (fun c33 => ?_)
  · replace hf := iteT c33 hf
    refine V_less (ls' := [some _, none, none, some _, none, none, none, none, none, none]) ⟨rfl, rfl, trivial⟩ ?_
    cases hf
    exact hK.2 _ rfl _
  · replace hf := iteF c33 hf
    refine V_aload_n d_X12_holdsLine_36 rfl rfl ?_
    refine B_get k_264 fl_RX12_13 d_X12_holdsLine_37 g_12_1 ?_
    refine V_sipush (v := 419) d_X12_holdsLine_40 sp_419 ?_
    refine V_iconst (v := 2) d_X12_holdsLine_43 ic_2 ?_
    refine V_iload d_X12_holdsLine_44 rfl ?_
    refine V_imul d_X12_holdsLine_46 ?_
    refine V_iadd d_X12_holdsLine_47 ?_
    obtain ⟨t2, ht2, hf⟩ := ob hf
    refine B_iald k_265 ht2 d_X12_holdsLine_48 ?_
    refine V_istore (ls' := [_, _, _, _, _, _, _, _, _, _]) d_X12_holdsLine_49 rfl rfl ?_
    refine V_iload d_X12_holdsLine_51 rfl ?_
    refine V_bipush (v := 9) d_X12_holdsLine_53 bp_9 ?_
    refine V_icmp_gt (tgt := 92) d_X12_holdsLine_55 (by decide) (fun c55 => ?_) (fun c55 => ?_)
    · replace hf := iteT c55 hf
      refine V_iload d_X12_holdsLine_92 rfl ?_
      refine V_bipush (v := 13) d_X12_holdsLine_94 bp_13 ?_
      refine V_icmp_ne (tgt := 120) d_X12_holdsLine_96 (by decide) (fun c96 => ?_) (fun c96 => ?_)
      · replace hf := iteF c96 hf
        refine V_iinc (v := (l3 + (-1))) (ls' := [_, _, _, _, _, _, _, _, _, _]) d_X12_holdsLine_120 rfl (by rw [ic_m1]) rfl ?_
        refine V_aload_n d_X12_holdsLine_123 rfl rfl ?_
        refine B_get k_264 fl_RX12_39 d_X12_holdsLine_124 g_12_17 ?_
        refine V_iload_n d_X12_holdsLine_127 rfl rfl ?_
        refine V_iconst (v := 1) d_X12_holdsLine_128 ic_1 ?_
        refine V_isub d_X12_holdsLine_129 ?_
        obtain ⟨t3, ht3, hf⟩ := ob hf
        refine B_iald k_272 ht3 d_X12_holdsLine_130 ?_
        refine V_istore (ls' := [_, _, _, _, _, _, _, _, _, _]) d_X12_holdsLine_131 rfl rfl ?_
        refine V_aload_n d_X12_holdsLine_133 rfl rfl ?_
        refine B_get k_264 fl_RX12_39 d_X12_holdsLine_134 g_12_17 ?_
        refine V_iload_n d_X12_holdsLine_137 rfl rfl ?_
        obtain ⟨t4, ht4, hf⟩ := ob hf
        refine B_iald k_272 ht4 d_X12_holdsLine_138 ?_
        refine V_istore (ls' := [_, _, _, _, _, _, _, _, _, _]) d_X12_holdsLine_139 rfl rfl ?_
        refine V_iload d_X12_holdsLine_141 rfl ?_
        refine V_bipush (v := 11) d_X12_holdsLine_143 bp_11 ?_
        refine V_icmp_ne (tgt := 163) d_X12_holdsLine_145 (by decide) (fun c145 => ?_) (fun c145 => ?_)
        · replace hf := iteF c145 hf
          refine V_iload d_X12_holdsLine_163 rfl ?_
          refine V_bipush (v := 12) d_X12_holdsLine_165 bp_12 ?_
          have hJj5 : ∀ j5 : Bool, j5 = (if t2 = 12 then ((if t3 ≤ t4 then (false : Bool) else true) : Bool) else (if t2 = 14 then ((if (t3 + t4) = 2 then (true : Bool) else false) : Bool) else (if (t3 + t4) ≤ 0 then (false : Bool) else true))) → V G C F_X12_holdsLine 222 [some (.ref (G.2.1 + 264)), none, some (.int l2), some (.int (l3 + (-1))), some (.int l4), some (.int l5), some (.int t2), some (.int t3), some (.int t4), none] [.int (b2i j5)] (pic G μ) n 0 0 := by
            intro j5 ej5
            subst ej5
            refine V_istore (ls' := [_, _, _, _, _, _, _, _, _, _]) d_X12_holdsLine_222 rfl rfl ?_
            refine V_aload_n d_X12_holdsLine_224 rfl rfl ?_
            refine B_get k_264 fl_RX12_39 d_X12_holdsLine_225 g_12_17 ?_
            refine V_iload_n d_X12_holdsLine_228 rfl rfl ?_
            refine V_iconst (v := 1) d_X12_holdsLine_229 ic_1 ?_
            refine V_isub d_X12_holdsLine_230 ?_
            refine V_iload d_X12_holdsLine_231 rfl ?_
            refine V_bipush (v := 10) d_X12_holdsLine_233 bp_10 ?_
            have hJj6 : ∀ j6 : Int32, j6 = (if t2 = 10 then ((t3 + t4) : Int32) else (if (if t2 = 12 then ((if t3 ≤ t4 then (false : Bool) else true) : Bool) else (if t2 = 14 then ((if (t3 + t4) = 2 then (true : Bool) else false) : Bool) else (if (t3 + t4) ≤ 0 then (false : Bool) else true))) = true then (1 : Int32) else 0)) → V G C F_X12_holdsLine 256 [some (.ref (G.2.1 + 264)), none, some (.int l2), some (.int (l3 + (-1))), some (.int l4), some (.int l5), none, none, none, none] [.int j6, .int ((l3 + (-1)) - 1), .ref (G.2.1 + 272)] (pic G μ) n 0 0 := by
              intro j6 ej6
              subst ej6
              obtain ⟨μ7, hμ7, hf⟩ := ob hf
              refine B_iast k_272 hμ7 d_X12_holdsLine_256 ?_
              refine V_less (ls' := [some _, none, some _, some _, some _, some _, none, none, none, none]) ⟨rfl, rfl, rfl, rfl, rfl, trivial⟩ ?_
              exact s_X12_holdsLine_j257_22 hG hf hK
            refine V_icmp_ne (tgt := 246) d_X12_holdsLine_235 (by decide) (fun c235 => ?_) (fun c235 => ?_)
            · refine V_iload d_X12_holdsLine_246 rfl ?_
              refine V_if_eq (tgt := 255) d_X12_holdsLine_248 (by decide) (fun c248 => ?_) (fun c248 => ?_)
              · refine V_iconst (v := 0) d_X12_holdsLine_255 ic_0 ?_
                refine V_less (ls' := [some _, none, some _, some _, some _, some _, none, none, none, none]) ⟨rfl, rfl, rfl, rfl, rfl, trivial⟩ ?_
                exact hJj6 0 (by rw [if_neg c235, if_neg (b2i_nt (b2i_eq0 c248))])
              · refine V_iconst (v := 1) d_X12_holdsLine_251 ic_1 ?_
                refine V_goto (tgt := 256) d_X12_holdsLine_252 (by decide) ?_
                refine V_less (ls' := [some _, none, some _, some _, some _, some _, none, none, none, none]) ⟨rfl, rfl, rfl, rfl, rfl, trivial⟩ ?_
                exact hJj6 1 (by rw [if_neg c235, if_pos (b2i_ne0 c248)])
            · refine V_iload d_X12_holdsLine_238 rfl ?_
              refine V_iload d_X12_holdsLine_240 rfl ?_
              refine V_iadd d_X12_holdsLine_242 ?_
              refine V_goto (tgt := 256) d_X12_holdsLine_243 (by decide) ?_
              refine V_less (ls' := [some _, none, some _, some _, some _, some _, none, none, none, none]) ⟨rfl, rfl, rfl, rfl, rfl, trivial⟩ ?_
              exact hJj6 (t3 + t4) (by rw [if_pos c235])
          refine V_icmp_ne (tgt := 185) d_X12_holdsLine_167 (by decide) (fun c167 => ?_) (fun c167 => ?_)
          · refine V_iload d_X12_holdsLine_185 rfl ?_
            refine V_bipush (v := 14) d_X12_holdsLine_187 bp_14 ?_
            refine V_icmp_ne (tgt := 209) d_X12_holdsLine_189 (by decide) (fun c189 => ?_) (fun c189 => ?_)
            · refine V_iload d_X12_holdsLine_209 rfl ?_
              refine V_iload d_X12_holdsLine_211 rfl ?_
              refine V_iadd d_X12_holdsLine_213 ?_
              refine V_if_le (tgt := 221) d_X12_holdsLine_214 (by decide) (fun c214 => ?_) (fun c214 => ?_)
              · refine V_iconst (v := 0) d_X12_holdsLine_221 ic_0 ?_
                refine V_less (ls' := [some _, none, some _, some _, some _, some _, some _, some _, some _, none]) ⟨rfl, rfl, rfl, rfl, rfl, rfl, rfl, rfl, trivial⟩ ?_
                exact hJj5 false (by rw [if_neg c167, if_neg c189, if_pos c214])
              · refine V_iconst (v := 1) d_X12_holdsLine_217 ic_1 ?_
                refine V_goto (tgt := 222) d_X12_holdsLine_218 (by decide) ?_
                refine V_less (ls' := [some _, none, some _, some _, some _, some _, some _, some _, some _, none]) ⟨rfl, rfl, rfl, rfl, rfl, rfl, rfl, rfl, trivial⟩ ?_
                exact hJj5 true (by rw [if_neg c167, if_neg c189, if_neg c214])
            · refine V_iload d_X12_holdsLine_192 rfl ?_
              refine V_iload d_X12_holdsLine_194 rfl ?_
              refine V_iadd d_X12_holdsLine_196 ?_
              refine V_iconst (v := 2) d_X12_holdsLine_197 ic_2 ?_
              refine V_icmp_ne (tgt := 205) d_X12_holdsLine_198 (by decide) (fun c198 => ?_) (fun c198 => ?_)
              · refine V_iconst (v := 0) d_X12_holdsLine_205 ic_0 ?_
                refine V_goto (tgt := 222) d_X12_holdsLine_206 (by decide) ?_
                refine V_less (ls' := [some _, none, some _, some _, some _, some _, some _, some _, some _, none]) ⟨rfl, rfl, rfl, rfl, rfl, rfl, rfl, rfl, trivial⟩ ?_
                exact hJj5 false (by rw [if_neg c167, if_pos c189, if_neg c198])
              · refine V_iconst (v := 1) d_X12_holdsLine_201 ic_1 ?_
                refine V_goto (tgt := 222) d_X12_holdsLine_202 (by decide) ?_
                refine V_less (ls' := [some _, none, some _, some _, some _, some _, some _, some _, some _, none]) ⟨rfl, rfl, rfl, rfl, rfl, rfl, rfl, rfl, trivial⟩ ?_
                exact hJj5 true (by rw [if_neg c167, if_pos c189, if_pos c198])
          · refine V_iload d_X12_holdsLine_170 rfl ?_
            refine V_iload d_X12_holdsLine_172 rfl ?_
            refine V_icmp_le (tgt := 181) d_X12_holdsLine_174 (by decide) (fun c174 => ?_) (fun c174 => ?_)
            · refine V_iconst (v := 0) d_X12_holdsLine_181 ic_0 ?_
              refine V_goto (tgt := 222) d_X12_holdsLine_182 (by decide) ?_
              refine V_less (ls' := [some _, none, some _, some _, some _, some _, some _, some _, some _, none]) ⟨rfl, rfl, rfl, rfl, rfl, rfl, rfl, rfl, trivial⟩ ?_
              exact hJj5 false (by rw [if_pos c167, if_pos c174])
            · refine V_iconst (v := 1) d_X12_holdsLine_177 ic_1 ?_
              refine V_goto (tgt := 222) d_X12_holdsLine_178 (by decide) ?_
              refine V_less (ls' := [some _, none, some _, some _, some _, some _, some _, some _, some _, none]) ⟨rfl, rfl, rfl, rfl, rfl, rfl, rfl, rfl, trivial⟩ ?_
              exact hJj5 true (by rw [if_pos c167, if_neg c174])
        · replace hf := iteT c145 hf
          refine V_iload d_X12_holdsLine_148 rfl ?_
          refine V_iload d_X12_holdsLine_150 rfl ?_
          have hJj8 : ∀ j8 : Bool, j8 = (if t4 ≤ t3 then (false : Bool) else true) → V G C F_X12_holdsLine 222 [some (.ref (G.2.1 + 264)), none, some (.int l2), some (.int (l3 + (-1))), some (.int l4), some (.int l5), some (.int t2), some (.int t3), some (.int t4), none] [.int (b2i j8)] (pic G μ) n 0 0 := by
            intro j8 ej8
            subst ej8
            refine V_istore (ls' := [_, _, _, _, _, _, _, _, _, _]) d_X12_holdsLine_222 rfl rfl ?_
            refine V_aload_n d_X12_holdsLine_224 rfl rfl ?_
            refine B_get k_264 fl_RX12_39 d_X12_holdsLine_225 g_12_17 ?_
            refine V_iload_n d_X12_holdsLine_228 rfl rfl ?_
            refine V_iconst (v := 1) d_X12_holdsLine_229 ic_1 ?_
            refine V_isub d_X12_holdsLine_230 ?_
            refine V_iload d_X12_holdsLine_231 rfl ?_
            refine V_bipush (v := 10) d_X12_holdsLine_233 bp_10 ?_
            have hJj9 : ∀ j9 : Int32, j9 = (if t2 = 10 then ((t3 + t4) : Int32) else (if (if t4 ≤ t3 then (false : Bool) else true) = true then (1 : Int32) else 0)) → V G C F_X12_holdsLine 256 [some (.ref (G.2.1 + 264)), none, some (.int l2), some (.int (l3 + (-1))), some (.int l4), some (.int l5), none, none, none, none] [.int j9, .int ((l3 + (-1)) - 1), .ref (G.2.1 + 272)] (pic G μ) n 0 0 := by
              intro j9 ej9
              subst ej9
              obtain ⟨μ10, hμ10, hf⟩ := ob hf
              refine B_iast k_272 hμ10 d_X12_holdsLine_256 ?_
              refine V_less (ls' := [some _, none, some _, some _, some _, some _, none, none, none, none]) ⟨rfl, rfl, rfl, rfl, rfl, trivial⟩ ?_
              exact s_X12_holdsLine_j257_22 hG hf hK
            refine V_icmp_ne (tgt := 246) d_X12_holdsLine_235 (by decide) (fun c235 => ?_) (fun c235 => ?_)
            · refine V_iload d_X12_holdsLine_246 rfl ?_
              refine V_if_eq (tgt := 255) d_X12_holdsLine_248 (by decide) (fun c248 => ?_) (fun c248 => ?_)
              · refine V_iconst (v := 0) d_X12_holdsLine_255 ic_0 ?_
                refine V_less (ls' := [some _, none, some _, some _, some _, some _, none, none, none, none]) ⟨rfl, rfl, rfl, rfl, rfl, trivial⟩ ?_
                exact hJj9 0 (by rw [if_neg c235, if_neg (b2i_nt (b2i_eq0 c248))])
              · refine V_iconst (v := 1) d_X12_holdsLine_251 ic_1 ?_
                refine V_goto (tgt := 256) d_X12_holdsLine_252 (by decide) ?_
                refine V_less (ls' := [some _, none, some _, some _, some _, some _, none, none, none, none]) ⟨rfl, rfl, rfl, rfl, rfl, trivial⟩ ?_
                exact hJj9 1 (by rw [if_neg c235, if_pos (b2i_ne0 c248)])
            · refine V_iload d_X12_holdsLine_238 rfl ?_
              refine V_iload d_X12_holdsLine_240 rfl ?_
              refine V_iadd d_X12_holdsLine_242 ?_
              refine V_goto (tgt := 256) d_X12_holdsLine_243 (by decide) ?_
              refine V_less (ls' := [some _, none, some _, some _, some _, some _, none, none, none, none]) ⟨rfl, rfl, rfl, rfl, rfl, trivial⟩ ?_
              exact hJj9 (t3 + t4) (by rw [if_pos c235])
          refine V_icmp_ge (tgt := 159) d_X12_holdsLine_152 (by decide) (fun c152 => ?_) (fun c152 => ?_)
          · refine V_iconst (v := 0) d_X12_holdsLine_159 ic_0 ?_
            refine V_goto (tgt := 222) d_X12_holdsLine_160 (by decide) ?_
            refine V_less (ls' := [some _, none, some _, some _, some _, some _, some _, some _, some _, none]) ⟨rfl, rfl, rfl, rfl, rfl, rfl, rfl, rfl, trivial⟩ ?_
            exact hJj8 false (by rw [if_pos c152])
          · refine V_iconst (v := 1) d_X12_holdsLine_155 ic_1 ?_
            refine V_goto (tgt := 222) d_X12_holdsLine_156 (by decide) ?_
            refine V_less (ls' := [some _, none, some _, some _, some _, some _, some _, some _, some _, none]) ⟨rfl, rfl, rfl, rfl, rfl, rfl, rfl, rfl, trivial⟩ ?_
            exact hJj8 true (by rw [if_neg c152])
      · replace hf := iteT c96 hf
        refine V_aload_n d_X12_holdsLine_99 rfl rfl ?_
        refine B_get k_264 fl_RX12_39 d_X12_holdsLine_100 g_12_17 ?_
        refine V_iload_n d_X12_holdsLine_103 rfl rfl ?_
        refine V_iconst (v := 1) d_X12_holdsLine_104 ic_1 ?_
        refine V_isub d_X12_holdsLine_105 ?_
        refine V_iconst (v := 1) d_X12_holdsLine_106 ic_1 ?_
        refine V_aload_n d_X12_holdsLine_107 rfl rfl ?_
        refine B_get k_264 fl_RX12_39 d_X12_holdsLine_108 g_12_17 ?_
        refine V_iload_n d_X12_holdsLine_111 rfl rfl ?_
        refine V_iconst (v := 1) d_X12_holdsLine_112 ic_1 ?_
        refine V_isub d_X12_holdsLine_113 ?_
        obtain ⟨t11, ht11, hf⟩ := ob hf
        refine B_iald k_272 ht11 d_X12_holdsLine_114 ?_
        refine V_isub d_X12_holdsLine_115 ?_
        obtain ⟨μ12, hμ12, hf⟩ := ob hf
        refine B_iast k_272 hμ12 d_X12_holdsLine_116 ?_
        refine V_goto (tgt := 257) d_X12_holdsLine_117 (by decide) ?_
        refine V_less (ls' := [some _, none, some _, some _, some _, some _, none, none, none, none]) ⟨rfl, rfl, rfl, rfl, rfl, trivial⟩ ?_
        exact s_X12_holdsLine_j257_22 hG hf hK
    · replace hf := iteF c55 hf
      refine V_aload_n d_X12_holdsLine_58 rfl rfl ?_
      refine B_get k_264 fl_RX12_39 d_X12_holdsLine_59 g_12_17 ?_
      refine V_iload_n d_X12_holdsLine_62 rfl rfl ?_
      refine V_aload_n d_X12_holdsLine_63 rfl rfl ?_
      refine V_iload d_X12_holdsLine_64 rfl ?_
      refine V_aload_n d_X12_holdsLine_66 rfl rfl ?_
      refine B_get k_264 fl_RX12_13 d_X12_holdsLine_67 g_12_1 ?_
      refine V_sipush (v := 419) d_X12_holdsLine_70 sp_419 ?_
      refine V_iconst (v := 2) d_X12_holdsLine_73 ic_2 ?_
      refine V_iload d_X12_holdsLine_74 rfl ?_
      refine V_imul d_X12_holdsLine_76 ?_
      refine V_iadd d_X12_holdsLine_77 ?_
      refine V_iconst (v := 1) d_X12_holdsLine_78 ic_1 ?_
      refine V_iadd d_X12_holdsLine_79 ?_
      obtain ⟨t13, ht13, hf⟩ := ob hf
      refine B_iald k_265 ht13 d_X12_holdsLine_80 ?_
      refine V_iload_n d_X12_holdsLine_81 rfl rfl ?_
      obtain ⟨t14, ht14, hf⟩ := ob hf
      refine B_callV1 (s_X12_factOf hG ht14) k_264 clX12 m_X12_factOf kv_RX12_280 d_X12_holdsLine_82 rfl (Nat.le_of_ble_eq_true rfl) ⟨rfl, rfl, Nat.le_of_ble_eq_true rfl, Nat.le_of_ble_eq_true rfl, Nat.le_of_ble_eq_true rfl⟩ (fun n => ?_)
      obtain ⟨μ15, hμ15, hf⟩ := ob hf
      refine B_iast k_272 hμ15 d_X12_holdsLine_85 ?_
      refine V_iinc (v := (l3 + 1)) (ls' := [_, _, _, _, _, _, _, _, _, _]) d_X12_holdsLine_86 rfl (by rw [ic_1]) rfl ?_
      refine V_goto (tgt := 257) d_X12_holdsLine_89 (by decide) ?_
      refine V_less (ls' := [some _, none, some _, some _, some _, some _, none, none, none, none]) ⟨rfl, rfl, rfl, rfl, rfl, trivial⟩ ?_
      exact s_X12_holdsLine_j257_22 hG hf hK
theorem s_X12_holdsLine_j282 {G : Gl} (hG : G.1.stackTraces = false) {C : Cx} {n : Nat} {μ : Mem} {k0 : Bool} {r : (Bool × Mem)} (hf : f_X12_holdsLine_j282 μ k0 = some r) (hK : FinR G C F_X12_holdsLine (some .boolean) (some (.int (b2i r.1))) r.2) : V G C F_X12_holdsLine 282 [none, none, none, none, none, none, none, none, none, none] [.int (b2i k0)] (pic G μ) n 0 0 := by
  unfold f_X12_holdsLine_j282 at hf
  cases hf
  exact R_z hK d_X12_holdsLine_282 (Nat.le_of_ble_eq_true rfl) (Nat.le_of_ble_eq_true rfl)
theorem s_X12_holdsLine_j277 {G : Gl} (hG : G.1.stackTraces = false) {C : Cx} {n : Nat} {μ : Mem}  {r : (Bool × Mem)} (hf : f_X12_holdsLine_j277 μ = some r) (hK : FinR G C F_X12_holdsLine (some .boolean) (some (.int (b2i r.1))) r.2) : V G C F_X12_holdsLine 277 [none, none, none, none, none, none, none, none, none, none] [] (pic G μ) n 0 0 := by
  unfold f_X12_holdsLine_j277 at hf
  refine V_iconst (v := 1) d_X12_holdsLine_277 ic_1 ?_
  refine V_goto (tgt := 282) d_X12_holdsLine_278 (by decide) ?_
  refine V_less (ls' := [none, none, none, none, none, none, none, none, none, none]) trivial ?_
  exact s_X12_holdsLine_j282 hG hf hK
theorem s_X12_holdsLine_j263 {G : Gl} (hG : G.1.stackTraces = false) {C : Cx} {n : Nat} {μ : Mem} {l3 : Int32} {r : (Bool × Mem)} (hf : f_X12_holdsLine_j263 μ l3 = some r) (hK : FinR G C F_X12_holdsLine (some .boolean) (some (.int (b2i r.1))) r.2) : V G C F_X12_holdsLine 263 [some (.ref (G.2.1 + 264)), none, none, some (.int l3), none, none, none, none, none, none] [] (pic G μ) n 0 0 := by
  unfold f_X12_holdsLine_j263 at hf
  refine V_iload_n d_X12_holdsLine_263 rfl rfl ?_
  refine V_if_eq (tgt := 277) d_X12_holdsLine_264 (by decide) (fun c264 => ?_) (fun c264 => ?_)
  · replace hf := iteT c264 hf
    refine V_less (ls' := [none, none, none, none, none, none, none, none, none, none]) trivial ?_
    exact s_X12_holdsLine_j277 hG hf hK
  · replace hf := iteF c264 hf
    refine V_aload_n d_X12_holdsLine_267 rfl rfl ?_
    refine B_get k_264 fl_RX12_39 d_X12_holdsLine_268 g_12_17 ?_
    refine V_iconst (v := 0) d_X12_holdsLine_271 ic_0 ?_
    obtain ⟨t1, ht1, hf⟩ := ob hf
    refine B_iald k_272 ht1 d_X12_holdsLine_272 ?_
    refine V_iconst (v := 1) d_X12_holdsLine_273 ic_1 ?_
    have hJj2 : ∀ j2 : Bool, j2 = (if t1 = 1 then (true : Bool) else false) → V G C F_X12_holdsLine 282 [none, none, none, none, none, none, none, none, none, none] [.int (b2i j2)] (pic G μ) n 0 0 := by
      intro j2 ej2
      subst ej2
      cases hf
      exact R_z hK d_X12_holdsLine_282 (Nat.le_of_ble_eq_true rfl) (Nat.le_of_ble_eq_true rfl)
    refine V_icmp_ne (tgt := 281) d_X12_holdsLine_274 (by decide) (fun c274 => ?_) (fun c274 => ?_)
    · refine V_iconst (v := 0) d_X12_holdsLine_281 ic_0 ?_
      refine V_less (ls' := [none, none, none, none, none, none, none, none, none, none]) trivial ?_
      exact hJj2 false (by rw [if_neg c274])
    · refine V_iconst (v := 1) d_X12_holdsLine_277 ic_1 ?_
      refine V_goto (tgt := 282) d_X12_holdsLine_278 (by decide) ?_
      refine V_less (ls' := [none, none, none, none, none, none, none, none, none, none]) trivial ?_
      exact hJj2 true (by rw [if_pos c274])
theorem s_X12_holdsLine_l22 {G : Gl} (hG : G.1.stackTraces = false) {C : Cx} {n : Nat} {μ : Mem} {l2 : Int32} {l3 : Int32} {l4 : Int32} {l5 : Int32} {r : (Bool × Mem)} (hf : f_X12_holdsLine_l22 μ l2 l3 l4 l5 = some r) (hK : FinR G C F_X12_holdsLine (some .boolean) (some (.int (b2i r.1))) r.2) : V G C F_X12_holdsLine 22 [some (.ref (G.2.1 + 264)), none, some (.int l2), some (.int l3), some (.int l4), some (.int l5), none, none, none, none] [] (pic G μ) n 0 0 := by
  unfold f_X12_holdsLine_l22 at hf
  obtain ⟨t, hl, hf⟩ := ob hf
  refine loopV (P := fun z => ∀ n, V G C F_X12_holdsLine 22 [some (.ref (G.2.1 + 264)), none, some (.int l2), some (.int z.1), some (.int l4), some (.int z.2.1), none, none, none, none] [] (pic G z.2.2) n 0 0) (t := t) ?_ _ _ hl n
  intro z y' hy hI hT n
  refine s_X12_holdsLine_b22 hG hy ⟨hI, fun x9 ex => ?_⟩
  have ex2 := hT x9 ex
  subst ex2
  intro n
  exact s_X12_holdsLine_j263 hG hf hK
theorem s_X12_holdsLine_e {G : Gl} (hG : G.1.stackTraces = false) {C : Cx} {n : Nat} {μ : Mem} {p1 : Int32} {p2 : Int32} {r : (Bool × Mem)} (hf : f_X12_holdsLine μ p1 p2 = some r) (hK : FinR G C F_X12_holdsLine (some .boolean) (some (.int (b2i r.1))) r.2) : V G C F_X12_holdsLine 0 [some (.ref (G.2.1 + 264)), some (.int p1), some (.int p2), none, none, none, none, none, none, none] [] (pic G μ) n 0 0 := by
  unfold f_X12_holdsLine at hf
  refine V_iconst (v := 0) d_X12_holdsLine_0 ic_0 ?_
  refine V_istore_n (ls' := [_, _, _, _, _, _, _, _, _, _]) d_X12_holdsLine_1 rfl rfl rfl ?_
  refine V_sipush (v := 371) d_X12_holdsLine_2 sp_371 ?_
  refine V_iconst (v := 4) d_X12_holdsLine_5 ic_4 ?_
  refine V_iload_n d_X12_holdsLine_6 rfl rfl ?_
  refine V_imul d_X12_holdsLine_7 ?_
  refine V_iadd d_X12_holdsLine_8 ?_
  refine V_istore (ls' := [_, _, _, _, _, _, _, _, _, _]) d_X12_holdsLine_9 rfl rfl ?_
  refine V_aload_n d_X12_holdsLine_11 rfl rfl ?_
  refine B_get k_264 fl_RX12_13 d_X12_holdsLine_12 g_12_1 ?_
  refine V_iload d_X12_holdsLine_15 rfl ?_
  refine V_iconst (v := 2) d_X12_holdsLine_17 ic_2 ?_
  refine V_iadd d_X12_holdsLine_18 ?_
  obtain ⟨t1, ht1, hf⟩ := ob hf
  refine B_iald k_265 ht1 d_X12_holdsLine_19 ?_
  refine V_istore (ls' := [_, _, _, _, _, _, _, _, _, _]) d_X12_holdsLine_20 rfl rfl ?_
  refine V_less (ls' := [some _, none, some _, some _, some _, some _, none, none, none, none]) ⟨rfl, rfl, rfl, rfl, rfl, trivial⟩ ?_
  exact s_X12_holdsLine_l22 hG hf hK
theorem s_X12_holdsLine {G : Gl} (hG : G.1.stackTraces = false) {μ : Mem} {p1 : Int32} {p2 : Int32} {r : (Bool × Mem)} (hf : f_X12_holdsLine μ p1 p2 = some r) : Rt G yX12_holdsLine F_X12_holdsLine (some .boolean) [.ref (G.2.1 + 264), .int p1, .int p2] μ (some (.int (b2i r.1))) r.2 := fun n => Sd.of hG ⟨by decide +kernel, rfl, rfl⟩ rfl (Nat.le_of_ble_eq_true rfl) rfl (fun C hK => s_X12_holdsLine_e hG hf hK)
theorem d_X12_hasLaw_0 : decode cX12_hasLaw 0 = .ok (.aload_n 0, 1) := by decide +kernel
theorem d_X12_hasLaw_1 : decode cX12_hasLaw 1 = .ok (.getfield 13, 3) := by decide +kernel
theorem d_X12_hasLaw_4 : decode cX12_hasLaw 4 = .ok (.iconst 2, 1) := by decide +kernel
theorem d_X12_hasLaw_5 : decode cX12_hasLaw 5 = .ok (.iaload, 1) := by decide +kernel
theorem d_X12_hasLaw_6 : decode cX12_hasLaw 6 = .ok (.iconst 1, 1) := by decide +kernel
theorem d_X12_hasLaw_7 : decode cX12_hasLaw 7 = .ok (.if_icmp .ne 7, 3) := by decide +kernel
theorem d_X12_hasLaw_10 : decode cX12_hasLaw 10 = .ok (.iconst 1, 1) := by decide +kernel
theorem d_X12_hasLaw_11 : decode cX12_hasLaw 11 = .ok (.goto 4, 3) := by decide +kernel
theorem d_X12_hasLaw_14 : decode cX12_hasLaw 14 = .ok (.iconst 0, 1) := by decide +kernel
theorem d_X12_hasLaw_15 : decode cX12_hasLaw 15 = .ok (.ireturn, 1) := by decide +kernel
theorem s_X12_hasLaw_e {G : Gl} (hG : G.1.stackTraces = false) {C : Cx} {n : Nat} {μ : Mem}  {r : Bool} (hf : f_X12_hasLaw μ = some r) (hK : FinR G C F_X12_hasLaw (some .boolean) (some (.int (b2i r))) μ) : V G C F_X12_hasLaw 0 [some (.ref (G.2.1 + 264))] [] (pic G μ) n 0 0 := by
  unfold f_X12_hasLaw at hf
  refine V_aload_n d_X12_hasLaw_0 rfl rfl ?_
  refine B_get k_264 fl_RX12_13 d_X12_hasLaw_1 g_12_1 ?_
  refine V_iconst (v := 2) d_X12_hasLaw_4 ic_2 ?_
  obtain ⟨t1, ht1, hf⟩ := ob hf
  refine B_iald k_265 ht1 d_X12_hasLaw_5 ?_
  refine V_iconst (v := 1) d_X12_hasLaw_6 ic_1 ?_
  have hJj2 : ∀ j2 : Bool, j2 = (if t1 = 1 then (true : Bool) else false) → V G C F_X12_hasLaw 15 [none] [.int (b2i j2)] (pic G μ) n 0 0 := by
    intro j2 ej2
    subst ej2
    cases hf
    exact R_z hK d_X12_hasLaw_15 (Nat.le_of_ble_eq_true rfl) (Nat.le_of_ble_eq_true rfl)
  refine V_icmp_ne (tgt := 14) d_X12_hasLaw_7 (by decide) (fun c7 => ?_) (fun c7 => ?_)
  · refine V_iconst (v := 0) d_X12_hasLaw_14 ic_0 ?_
    refine V_less (ls' := [none]) trivial ?_
    exact hJj2 false (by rw [if_neg c7])
  · refine V_iconst (v := 1) d_X12_hasLaw_10 ic_1 ?_
    refine V_goto (tgt := 15) d_X12_hasLaw_11 (by decide) ?_
    refine V_less (ls' := [none]) trivial ?_
    exact hJj2 true (by rw [if_pos c7])
theorem s_X12_hasLaw {G : Gl} (hG : G.1.stackTraces = false) {μ : Mem} {r : Bool} (hf : f_X12_hasLaw μ = some r) : Rt G yX12_hasLaw F_X12_hasLaw (some .boolean) [.ref (G.2.1 + 264)] μ (some (.int (b2i r))) μ := fun n => Sd.of hG ⟨by decide +kernel, rfl, rfl⟩ rfl (Nat.le_of_ble_eq_true rfl) rfl (fun C hK => s_X12_hasLaw_e hG hf hK)
theorem d_X12_sumOf_0 : decode cX12_sumOf 0 = .ok (.iconst 0, 1) := by decide +kernel
theorem d_X12_sumOf_1 : decode cX12_sumOf 1 = .ok (.istore_n 3, 1) := by decide +kernel
theorem d_X12_sumOf_2 : decode cX12_sumOf 2 = .ok (.iconst 0, 1) := by decide +kernel
theorem d_X12_sumOf_3 : decode cX12_sumOf 3 = .ok (.istore 4, 2) := by decide +kernel
theorem d_X12_sumOf_5 : decode cX12_sumOf 5 = .ok (.iload 4, 2) := by decide +kernel
theorem d_X12_sumOf_7 : decode cX12_sumOf 7 = .ok (.aload_n 0, 1) := by decide +kernel
theorem d_X12_sumOf_8 : decode cX12_sumOf 8 = .ok (.getfield 13, 3) := by decide +kernel
theorem d_X12_sumOf_11 : decode cX12_sumOf 11 = .ok (.sipush 370, 3) := by decide +kernel
theorem d_X12_sumOf_14 : decode cX12_sumOf 14 = .ok (.iaload, 1) := by decide +kernel
theorem d_X12_sumOf_15 : decode cX12_sumOf 15 = .ok (.if_icmp .ge 54, 3) := by decide +kernel
theorem d_X12_sumOf_18 : decode cX12_sumOf 18 = .ok (.aload_n 0, 1) := by decide +kernel
theorem d_X12_sumOf_19 : decode cX12_sumOf 19 = .ok (.getfield 13, 3) := by decide +kernel
theorem d_X12_sumOf_22 : decode cX12_sumOf 22 = .ok (.sipush 371, 3) := by decide +kernel
theorem d_X12_sumOf_25 : decode cX12_sumOf 25 = .ok (.iconst 4, 1) := by decide +kernel
theorem d_X12_sumOf_26 : decode cX12_sumOf 26 = .ok (.iload 4, 2) := by decide +kernel
theorem d_X12_sumOf_28 : decode cX12_sumOf 28 = .ok (.imul, 1) := by decide +kernel
theorem d_X12_sumOf_29 : decode cX12_sumOf 29 = .ok (.iadd, 1) := by decide +kernel
theorem d_X12_sumOf_30 : decode cX12_sumOf 30 = .ok (.iaload, 1) := by decide +kernel
theorem d_X12_sumOf_31 : decode cX12_sumOf 31 = .ok (.iload_n 1, 1) := by decide +kernel
theorem d_X12_sumOf_32 : decode cX12_sumOf 32 = .ok (.if_icmp .ne 31, 3) := by decide +kernel
theorem d_X12_sumOf_35 : decode cX12_sumOf 35 = .ok (.aload_n 0, 1) := by decide +kernel
theorem d_X12_sumOf_36 : decode cX12_sumOf 36 = .ok (.iload 4, 2) := by decide +kernel
theorem d_X12_sumOf_38 : decode cX12_sumOf 38 = .ok (.iload_n 2, 1) := by decide +kernel
theorem d_X12_sumOf_39 : decode cX12_sumOf 39 = .ok (.invokevirtual 284, 3) := by decide +kernel
theorem d_X12_sumOf_42 : decode cX12_sumOf 42 = .ok (.ifCond .eq 21, 3) := by decide +kernel
theorem d_X12_sumOf_45 : decode cX12_sumOf 45 = .ok (.iload_n 3, 1) := by decide +kernel
theorem d_X12_sumOf_46 : decode cX12_sumOf 46 = .ok (.aload_n 0, 1) := by decide +kernel
theorem d_X12_sumOf_47 : decode cX12_sumOf 47 = .ok (.getfield 13, 3) := by decide +kernel
theorem d_X12_sumOf_50 : decode cX12_sumOf 50 = .ok (.sipush 371, 3) := by decide +kernel
theorem d_X12_sumOf_53 : decode cX12_sumOf 53 = .ok (.iconst 4, 1) := by decide +kernel
theorem d_X12_sumOf_54 : decode cX12_sumOf 54 = .ok (.iload 4, 2) := by decide +kernel
theorem d_X12_sumOf_56 : decode cX12_sumOf 56 = .ok (.imul, 1) := by decide +kernel
theorem d_X12_sumOf_57 : decode cX12_sumOf 57 = .ok (.iadd, 1) := by decide +kernel
theorem d_X12_sumOf_58 : decode cX12_sumOf 58 = .ok (.iconst 1, 1) := by decide +kernel
theorem d_X12_sumOf_59 : decode cX12_sumOf 59 = .ok (.iadd, 1) := by decide +kernel
theorem d_X12_sumOf_60 : decode cX12_sumOf 60 = .ok (.iaload, 1) := by decide +kernel
theorem d_X12_sumOf_61 : decode cX12_sumOf 61 = .ok (.iadd, 1) := by decide +kernel
theorem d_X12_sumOf_62 : decode cX12_sumOf 62 = .ok (.istore_n 3, 1) := by decide +kernel
theorem d_X12_sumOf_63 : decode cX12_sumOf 63 = .ok (.iinc 4 1, 3) := by decide +kernel
theorem d_X12_sumOf_66 : decode cX12_sumOf 66 = .ok (.goto (-61), 3) := by decide +kernel
theorem d_X12_sumOf_69 : decode cX12_sumOf 69 = .ok (.iload_n 3, 1) := by decide +kernel
theorem d_X12_sumOf_70 : decode cX12_sumOf 70 = .ok (.ireturn, 1) := by decide +kernel
theorem s_X12_sumOf_j63_5 {G : Gl} (hG : G.1.stackTraces = false) {C : Cx} {n : Nat} {μ : Mem} {l1 : Int32} {l2 : Int32} {l3 : Int32} {l4 : Int32} {y : ((Int32 × Int32 × Mem) ⊕ (Int32 × Mem))} (hf : f_X12_sumOf_j63_5 μ l1 l2 l3 l4 = some y) (hK : (∀ z', y = .inl z' → ∀ n, V G C F_X12_sumOf 5 [some (.ref (G.2.1 + 264)), some (.int l1), some (.int l2), some (.int z'.1), some (.int z'.2.1)] [] (pic G z'.2.2) n 0 0) ∧ (∀ x', y = .inr x' → ∀ n, V G C F_X12_sumOf 69 [none, none, none, some (.int x'.1), none] [] (pic G x'.2) n 0 0)) : V G C F_X12_sumOf 63 [some (.ref (G.2.1 + 264)), some (.int l1), some (.int l2), some (.int l3), some (.int l4)] [] (pic G μ) n 0 0 := by
  unfold f_X12_sumOf_j63_5 at hf
  refine V_iinc (v := (l4 + 1)) (ls' := [_, _, _, _, _]) d_X12_sumOf_63 rfl (by rw [ic_1]) rfl ?_
  refine V_goto (tgt := 5) d_X12_sumOf_66 (by decide) ?_
  refine V_less (ls' := [some _, some _, some _, some _, some _]) ⟨rfl, rfl, rfl, rfl, rfl, trivial⟩ ?_
  cases hf
  exact hK.1 _ rfl _
theorem s_X12_sumOf_b5 {G : Gl} (hG : G.1.stackTraces = false) {C : Cx} {n : Nat} {μ : Mem} {l1 : Int32} {l2 : Int32} {l3 : Int32} {l4 : Int32} {y : ((Int32 × Int32 × Mem) ⊕ (Int32 × Mem))} (hf : f_X12_sumOf_b5 μ l1 l2 l3 l4 = some y) (hK : (∀ z', y = .inl z' → ∀ n, V G C F_X12_sumOf 5 [some (.ref (G.2.1 + 264)), some (.int l1), some (.int l2), some (.int z'.1), some (.int z'.2.1)] [] (pic G z'.2.2) n 0 0) ∧ (∀ x', y = .inr x' → ∀ n, V G C F_X12_sumOf 69 [none, none, none, some (.int x'.1), none] [] (pic G x'.2) n 0 0)) : V G C F_X12_sumOf 5 [some (.ref (G.2.1 + 264)), some (.int l1), some (.int l2), some (.int l3), some (.int l4)] [] (pic G μ) n 0 0 := by
  unfold f_X12_sumOf_b5 at hf
  refine V_iload d_X12_sumOf_5 rfl ?_
  refine V_aload_n d_X12_sumOf_7 rfl rfl ?_
  refine B_get k_264 fl_RX12_13 d_X12_sumOf_8 g_12_1 ?_
  refine V_sipush (v := 370) d_X12_sumOf_11 sp_370 ?_
  obtain ⟨t1, ht1, hf⟩ := ob hf
  refine B_iald k_265 ht1 d_X12_sumOf_14 ?_
  refine V_icmp_ge (tgt := 69) d_X12_sumOf_15 (by decide) (fun c15 => ?_) (fun c15 => ?_)
  · replace hf := iteT c15 hf
    refine V_less (ls' := [none, none, none, some _, none]) ⟨rfl, trivial⟩ ?_
    cases hf
    exact hK.2 _ rfl _
  · replace hf := iteF c15 hf
    refine V_aload_n d_X12_sumOf_18 rfl rfl ?_
    refine B_get k_264 fl_RX12_13 d_X12_sumOf_19 g_12_1 ?_
    refine V_sipush (v := 371) d_X12_sumOf_22 sp_371 ?_
    refine V_iconst (v := 4) d_X12_sumOf_25 ic_4 ?_
    refine V_iload d_X12_sumOf_26 rfl ?_
    refine V_imul d_X12_sumOf_28 ?_
    refine V_iadd d_X12_sumOf_29 ?_
    obtain ⟨t2, ht2, hf⟩ := ob hf
    refine B_iald k_265 ht2 d_X12_sumOf_30 ?_
    refine V_iload_n d_X12_sumOf_31 rfl rfl ?_
    refine V_icmp_ne (tgt := 63) d_X12_sumOf_32 (by decide) (fun c32 => ?_) (fun c32 => ?_)
    · replace hf := iteF c32 hf
      refine V_less (ls' := [some _, some _, some _, some _, some _]) ⟨rfl, rfl, rfl, rfl, rfl, trivial⟩ ?_
      exact s_X12_sumOf_j63_5 hG hf hK
    · replace hf := iteT c32 hf
      refine V_aload_n d_X12_sumOf_35 rfl rfl ?_
      refine V_iload d_X12_sumOf_36 rfl ?_
      refine V_iload_n d_X12_sumOf_38 rfl rfl ?_
      obtain ⟨q3, hq3, hf⟩ := ob hf
      refine B_callV1 (s_X12_holdsLine hG hq3) k_264 clX12 m_X12_holdsLine kv_RX12_284 d_X12_sumOf_39 rfl (Nat.le_of_ble_eq_true rfl) ⟨rfl, rfl, Nat.le_of_ble_eq_true rfl, Nat.le_of_ble_eq_true rfl, Nat.le_of_ble_eq_true rfl⟩ (fun n => ?_)
      refine V_if_eq (tgt := 63) d_X12_sumOf_42 (by decide) (fun c42 => ?_) (fun c42 => ?_)
      · replace hf := iteF (b2i_nt (b2i_eq0 c42)) hf
        refine V_less (ls' := [some _, some _, some _, some _, some _]) ⟨rfl, rfl, rfl, rfl, rfl, trivial⟩ ?_
        exact s_X12_sumOf_j63_5 hG hf hK
      · replace hf := iteT (b2i_ne0 c42) hf
        refine V_iload_n d_X12_sumOf_45 rfl rfl ?_
        refine V_aload_n d_X12_sumOf_46 rfl rfl ?_
        refine B_get k_264 fl_RX12_13 d_X12_sumOf_47 g_12_1 ?_
        refine V_sipush (v := 371) d_X12_sumOf_50 sp_371 ?_
        refine V_iconst (v := 4) d_X12_sumOf_53 ic_4 ?_
        refine V_iload d_X12_sumOf_54 rfl ?_
        refine V_imul d_X12_sumOf_56 ?_
        refine V_iadd d_X12_sumOf_57 ?_
        refine V_iconst (v := 1) d_X12_sumOf_58 ic_1 ?_
        refine V_iadd d_X12_sumOf_59 ?_
        obtain ⟨t4, ht4, hf⟩ := ob hf
        refine B_iald k_265 ht4 d_X12_sumOf_60 ?_
        refine V_iadd d_X12_sumOf_61 ?_
        refine V_istore_n (ls' := [_, _, _, _, _]) d_X12_sumOf_62 rfl rfl rfl ?_
        refine V_less (ls' := [some _, some _, some _, some _, some _]) ⟨rfl, rfl, rfl, rfl, rfl, trivial⟩ ?_
        exact s_X12_sumOf_j63_5 hG hf hK
theorem s_X12_sumOf_j69 {G : Gl} (hG : G.1.stackTraces = false) {C : Cx} {n : Nat} {μ : Mem} {l3 : Int32} {r : (Int32 × Mem)} (hf : f_X12_sumOf_j69 μ l3 = some r) (hK : FinR G C F_X12_sumOf (some .int) (some (.int r.1)) r.2) : V G C F_X12_sumOf 69 [none, none, none, some (.int l3), none] [] (pic G μ) n 0 0 := by
  unfold f_X12_sumOf_j69 at hf
  refine V_iload_n d_X12_sumOf_69 rfl rfl ?_
  cases hf
  exact R_i hK d_X12_sumOf_70 (Nat.le_of_ble_eq_true rfl) (Nat.le_of_ble_eq_true rfl)
theorem s_X12_sumOf_l5 {G : Gl} (hG : G.1.stackTraces = false) {C : Cx} {n : Nat} {μ : Mem} {l1 : Int32} {l2 : Int32} {l3 : Int32} {l4 : Int32} {r : (Int32 × Mem)} (hf : f_X12_sumOf_l5 μ l1 l2 l3 l4 = some r) (hK : FinR G C F_X12_sumOf (some .int) (some (.int r.1)) r.2) : V G C F_X12_sumOf 5 [some (.ref (G.2.1 + 264)), some (.int l1), some (.int l2), some (.int l3), some (.int l4)] [] (pic G μ) n 0 0 := by
  unfold f_X12_sumOf_l5 at hf
  obtain ⟨t, hl, hf⟩ := ob hf
  refine loopV (P := fun z => ∀ n, V G C F_X12_sumOf 5 [some (.ref (G.2.1 + 264)), some (.int l1), some (.int l2), some (.int z.1), some (.int z.2.1)] [] (pic G z.2.2) n 0 0) (t := t) ?_ _ _ hl n
  intro z y' hy hI hT n
  refine s_X12_sumOf_b5 hG hy ⟨hI, fun x9 ex => ?_⟩
  have ex2 := hT x9 ex
  subst ex2
  intro n
  exact s_X12_sumOf_j69 hG hf hK
theorem s_X12_sumOf_e {G : Gl} (hG : G.1.stackTraces = false) {C : Cx} {n : Nat} {μ : Mem} {p1 : Int32} {p2 : Int32} {r : (Int32 × Mem)} (hf : f_X12_sumOf μ p1 p2 = some r) (hK : FinR G C F_X12_sumOf (some .int) (some (.int r.1)) r.2) : V G C F_X12_sumOf 0 [some (.ref (G.2.1 + 264)), some (.int p1), some (.int p2), none, none] [] (pic G μ) n 0 0 := by
  unfold f_X12_sumOf at hf
  refine V_iconst (v := 0) d_X12_sumOf_0 ic_0 ?_
  refine V_istore_n (ls' := [_, _, _, _, _]) d_X12_sumOf_1 rfl rfl rfl ?_
  refine V_iconst (v := 0) d_X12_sumOf_2 ic_0 ?_
  refine V_istore (ls' := [_, _, _, _, _]) d_X12_sumOf_3 rfl rfl ?_
  refine V_less (ls' := [some _, some _, some _, some _, some _]) ⟨rfl, rfl, rfl, rfl, rfl, trivial⟩ ?_
  exact s_X12_sumOf_l5 hG hf hK
theorem s_X12_sumOf {G : Gl} (hG : G.1.stackTraces = false) {μ : Mem} {p1 : Int32} {p2 : Int32} {r : (Int32 × Mem)} (hf : f_X12_sumOf μ p1 p2 = some r) : Rt G yX12_sumOf F_X12_sumOf (some .int) [.ref (G.2.1 + 264), .int p1, .int p2] μ (some (.int r.1)) r.2 := fun n => Sd.of hG ⟨by decide +kernel, rfl, rfl⟩ rfl (Nat.le_of_ble_eq_true rfl) rfl (fun C hK => s_X12_sumOf_e hG hf hK)
theorem d_X12_walksBy_0 : decode cX12_walksBy 0 = .ok (.iconst 0, 1) := by decide +kernel
theorem d_X12_walksBy_1 : decode cX12_walksBy 1 = .ok (.aload_n 0, 1) := by decide +kernel
theorem d_X12_walksBy_2 : decode cX12_walksBy 2 = .ok (.iload_n 1, 1) := by decide +kernel
theorem d_X12_walksBy_3 : decode cX12_walksBy 3 = .ok (.iconst 1, 1) := by decide +kernel
theorem d_X12_walksBy_4 : decode cX12_walksBy 4 = .ok (.invokevirtual 84, 3) := by decide +kernel
theorem d_X12_walksBy_7 : decode cX12_walksBy 7 = .ok (.aload_n 0, 1) := by decide +kernel
theorem d_X12_walksBy_8 : decode cX12_walksBy 8 = .ok (.invokevirtual 287, 3) := by decide +kernel
theorem d_X12_walksBy_11 : decode cX12_walksBy 11 = .ok (.ifCond .eq 12, 3) := by decide +kernel
theorem d_X12_walksBy_14 : decode cX12_walksBy 14 = .ok (.aload_n 0, 1) := by decide +kernel
theorem d_X12_walksBy_15 : decode cX12_walksBy 15 = .ok (.iconst 0, 1) := by decide +kernel
theorem d_X12_walksBy_16 : decode cX12_walksBy 16 = .ok (.iload_n 1, 1) := by decide +kernel
theorem d_X12_walksBy_17 : decode cX12_walksBy 17 = .ok (.invokevirtual 290, 3) := by decide +kernel
theorem d_X12_walksBy_20 : decode cX12_walksBy 20 = .ok (.goto 10, 3) := by decide +kernel
theorem d_X12_walksBy_23 : decode cX12_walksBy 23 = .ok (.iconst 2, 1) := by decide +kernel
theorem d_X12_walksBy_24 : decode cX12_walksBy 24 = .ok (.aload_n 0, 1) := by decide +kernel
theorem d_X12_walksBy_25 : decode cX12_walksBy 25 = .ok (.iload_n 1, 1) := by decide +kernel
theorem d_X12_walksBy_26 : decode cX12_walksBy 26 = .ok (.invokevirtual 266, 3) := by decide +kernel
theorem d_X12_walksBy_29 : decode cX12_walksBy 29 = .ok (.imul, 1) := by decide +kernel
theorem d_X12_walksBy_30 : decode cX12_walksBy 30 = .ok (.isub, 1) := by decide +kernel
theorem d_X12_walksBy_31 : decode cX12_walksBy 31 = .ok (.invokestatic 293, 3) := by decide +kernel
theorem d_X12_walksBy_34 : decode cX12_walksBy 34 = .ok (.ireturn, 1) := by decide +kernel
theorem s_X12_walksBy_j30 {G : Gl} (hG : G.1.stackTraces = false) {C : Cx} {n : Nat} {μ : Mem} {k0 : Int32} {k1 : Int32} {k2 : Int32} {r : (Int32 × Mem)} (hf : f_X12_walksBy_j30 μ k0 k1 k2 = some r) (hK : FinR G C F_X12_walksBy (some .int) (some (.int r.1)) r.2) : V G C F_X12_walksBy 30 [none, none] [.int k2, .int k1, .int k0] (pic G μ) n 0 0 := by
  unfold f_X12_walksBy_j30 at hf
  refine V_isub d_X12_walksBy_30 ?_
  obtain ⟨t1, ht1, hf⟩ := ob hf
  refine B_callS1 (s_J9_max_7cf53 hG ht1) m_J9_max_7cf53 ks_RX12_293 d_X12_walksBy_31 rfl (Nat.le_of_ble_eq_true rfl) ⟨rfl, rfl, Nat.le_of_ble_eq_true rfl, Nat.le_of_ble_eq_true rfl, Nat.le_of_ble_eq_true rfl⟩ (fun n => ?_)
  cases hf
  exact R_i hK d_X12_walksBy_34 (Nat.le_of_ble_eq_true rfl) (Nat.le_of_ble_eq_true rfl)
theorem s_X12_walksBy_e {G : Gl} (hG : G.1.stackTraces = false) {C : Cx} {n : Nat} {μ : Mem} {p1 : Int32} {r : (Int32 × Mem)} (hf : f_X12_walksBy μ p1 = some r) (hK : FinR G C F_X12_walksBy (some .int) (some (.int r.1)) r.2) : V G C F_X12_walksBy 0 [some (.ref (G.2.1 + 264)), some (.int p1)] [] (pic G μ) n 0 0 := by
  unfold f_X12_walksBy at hf
  refine V_iconst (v := 0) d_X12_walksBy_0 ic_0 ?_
  refine V_aload_n d_X12_walksBy_1 rfl rfl ?_
  refine V_iload_n d_X12_walksBy_2 rfl rfl ?_
  refine V_iconst (v := 1) d_X12_walksBy_3 ic_1 ?_
  obtain ⟨t1, ht1, hf⟩ := ob hf
  refine B_callV1 (s_X12_of hG ht1) k_264 clX12 m_X12_of kv_RX12_84 d_X12_walksBy_4 rfl (Nat.le_of_ble_eq_true rfl) ⟨rfl, rfl, Nat.le_of_ble_eq_true rfl, Nat.le_of_ble_eq_true rfl, Nat.le_of_ble_eq_true rfl⟩ (fun n => ?_)
  refine V_aload_n d_X12_walksBy_7 rfl rfl ?_
  obtain ⟨t2, ht2, hf⟩ := ob hf
  refine B_callV1 (s_X12_hasLaw hG ht2) k_264 clX12 m_X12_hasLaw kv_RX12_287 d_X12_walksBy_8 rfl (Nat.le_of_ble_eq_true rfl) ⟨rfl, rfl, Nat.le_of_ble_eq_true rfl, Nat.le_of_ble_eq_true rfl, Nat.le_of_ble_eq_true rfl⟩ (fun n => ?_)
  refine V_if_eq (tgt := 23) d_X12_walksBy_11 (by decide) (fun c11 => ?_) (fun c11 => ?_)
  · replace hf := iteF (b2i_nt (b2i_eq0 c11)) hf
    refine V_iconst (v := 2) d_X12_walksBy_23 ic_2 ?_
    refine V_aload_n d_X12_walksBy_24 rfl rfl ?_
    refine V_iload_n d_X12_walksBy_25 rfl rfl ?_
    obtain ⟨t3, ht3, hf⟩ := ob hf
    refine B_callV1 (s_X12_slackOf hG ht3) k_264 clX12 m_X12_slackOf kv_RX12_266 d_X12_walksBy_26 rfl (Nat.le_of_ble_eq_true rfl) ⟨rfl, rfl, Nat.le_of_ble_eq_true rfl, Nat.le_of_ble_eq_true rfl, Nat.le_of_ble_eq_true rfl⟩ (fun n => ?_)
    refine V_imul d_X12_walksBy_29 ?_
    refine V_less (ls' := [none, none]) trivial ?_
    exact s_X12_walksBy_j30 hG hf hK
  · replace hf := iteT (b2i_ne0 c11) hf
    refine V_aload_n d_X12_walksBy_14 rfl rfl ?_
    refine V_iconst (v := 0) d_X12_walksBy_15 ic_0 ?_
    refine V_iload_n d_X12_walksBy_16 rfl rfl ?_
    obtain ⟨q4, hq4, hf⟩ := ob hf
    refine B_callV1 (s_X12_sumOf hG hq4) k_264 clX12 m_X12_sumOf kv_RX12_290 d_X12_walksBy_17 rfl (Nat.le_of_ble_eq_true rfl) ⟨rfl, rfl, Nat.le_of_ble_eq_true rfl, Nat.le_of_ble_eq_true rfl, Nat.le_of_ble_eq_true rfl⟩ (fun n => ?_)
    refine V_goto (tgt := 30) d_X12_walksBy_20 (by decide) ?_
    refine V_less (ls' := [none, none]) trivial ?_
    exact s_X12_walksBy_j30 hG hf hK
theorem s_X12_walksBy {G : Gl} (hG : G.1.stackTraces = false) {μ : Mem} {p1 : Int32} {r : (Int32 × Mem)} (hf : f_X12_walksBy μ p1 = some r) : Rt G yX12_walksBy F_X12_walksBy (some .int) [.ref (G.2.1 + 264), .int p1] μ (some (.int r.1)) r.2 := fun n => Sd.of hG ⟨by decide +kernel, rfl, rfl⟩ rfl (Nat.le_of_ble_eq_true rfl) rfl (fun C hK => s_X12_walksBy_e hG hf hK)
theorem d_X12_fallsBy_0 : decode cX12_fallsBy 0 = .ok (.bipush 100, 2) := by decide +kernel
theorem d_X12_fallsBy_2 : decode cX12_fallsBy 2 = .ok (.aload_n 0, 1) := by decide +kernel
theorem d_X12_fallsBy_3 : decode cX12_fallsBy 3 = .ok (.invokevirtual 287, 3) := by decide +kernel
theorem d_X12_fallsBy_6 : decode cX12_fallsBy 6 = .ok (.ifCond .eq 12, 3) := by decide +kernel
theorem d_X12_fallsBy_9 : decode cX12_fallsBy 9 = .ok (.aload_n 0, 1) := by decide +kernel
theorem d_X12_fallsBy_10 : decode cX12_fallsBy 10 = .ok (.iconst 2, 1) := by decide +kernel
theorem d_X12_fallsBy_11 : decode cX12_fallsBy 11 = .ok (.iload_n 1, 1) := by decide +kernel
theorem d_X12_fallsBy_12 : decode cX12_fallsBy 12 = .ok (.invokevirtual 290, 3) := by decide +kernel
theorem d_X12_fallsBy_15 : decode cX12_fallsBy 15 = .ok (.goto 11, 3) := by decide +kernel
theorem d_X12_fallsBy_18 : decode cX12_fallsBy 18 = .ok (.bipush 10, 2) := by decide +kernel
theorem d_X12_fallsBy_20 : decode cX12_fallsBy 20 = .ok (.aload_n 0, 1) := by decide +kernel
theorem d_X12_fallsBy_21 : decode cX12_fallsBy 21 = .ok (.iload_n 1, 1) := by decide +kernel
theorem d_X12_fallsBy_22 : decode cX12_fallsBy 22 = .ok (.invokevirtual 266, 3) := by decide +kernel
theorem d_X12_fallsBy_25 : decode cX12_fallsBy 25 = .ok (.imul, 1) := by decide +kernel
theorem d_X12_fallsBy_26 : decode cX12_fallsBy 26 = .ok (.invokestatic 87, 3) := by decide +kernel
theorem d_X12_fallsBy_29 : decode cX12_fallsBy 29 = .ok (.ireturn, 1) := by decide +kernel
theorem s_X12_fallsBy_j26 {G : Gl} (hG : G.1.stackTraces = false) {C : Cx} {n : Nat} {μ : Mem} {k0 : Int32} {k1 : Int32} {r : (Int32 × Mem)} (hf : f_X12_fallsBy_j26 μ k0 k1 = some r) (hK : FinR G C F_X12_fallsBy (some .int) (some (.int r.1)) r.2) : V G C F_X12_fallsBy 26 [none, none] [.int k1, .int k0] (pic G μ) n 0 0 := by
  unfold f_X12_fallsBy_j26 at hf
  obtain ⟨t1, ht1, hf⟩ := ob hf
  refine B_callS1 (s_J9_min_7cf53 hG ht1) m_J9_min_7cf53 ks_RX12_87 d_X12_fallsBy_26 rfl (Nat.le_of_ble_eq_true rfl) ⟨rfl, rfl, Nat.le_of_ble_eq_true rfl, Nat.le_of_ble_eq_true rfl, Nat.le_of_ble_eq_true rfl⟩ (fun n => ?_)
  cases hf
  exact R_i hK d_X12_fallsBy_29 (Nat.le_of_ble_eq_true rfl) (Nat.le_of_ble_eq_true rfl)
theorem s_X12_fallsBy_e {G : Gl} (hG : G.1.stackTraces = false) {C : Cx} {n : Nat} {μ : Mem} {p1 : Int32} {r : (Int32 × Mem)} (hf : f_X12_fallsBy μ p1 = some r) (hK : FinR G C F_X12_fallsBy (some .int) (some (.int r.1)) r.2) : V G C F_X12_fallsBy 0 [some (.ref (G.2.1 + 264)), some (.int p1)] [] (pic G μ) n 0 0 := by
  unfold f_X12_fallsBy at hf
  refine V_bipush (v := 100) d_X12_fallsBy_0 bp_100 ?_
  refine V_aload_n d_X12_fallsBy_2 rfl rfl ?_
  obtain ⟨t1, ht1, hf⟩ := ob hf
  refine B_callV1 (s_X12_hasLaw hG ht1) k_264 clX12 m_X12_hasLaw kv_RX12_287 d_X12_fallsBy_3 rfl (Nat.le_of_ble_eq_true rfl) ⟨rfl, rfl, Nat.le_of_ble_eq_true rfl, Nat.le_of_ble_eq_true rfl, Nat.le_of_ble_eq_true rfl⟩ (fun n => ?_)
  refine V_if_eq (tgt := 18) d_X12_fallsBy_6 (by decide) (fun c6 => ?_) (fun c6 => ?_)
  · replace hf := iteF (b2i_nt (b2i_eq0 c6)) hf
    refine V_bipush (v := 10) d_X12_fallsBy_18 bp_10 ?_
    refine V_aload_n d_X12_fallsBy_20 rfl rfl ?_
    refine V_iload_n d_X12_fallsBy_21 rfl rfl ?_
    obtain ⟨t2, ht2, hf⟩ := ob hf
    refine B_callV1 (s_X12_slackOf hG ht2) k_264 clX12 m_X12_slackOf kv_RX12_266 d_X12_fallsBy_22 rfl (Nat.le_of_ble_eq_true rfl) ⟨rfl, rfl, Nat.le_of_ble_eq_true rfl, Nat.le_of_ble_eq_true rfl, Nat.le_of_ble_eq_true rfl⟩ (fun n => ?_)
    refine V_imul d_X12_fallsBy_25 ?_
    refine V_less (ls' := [none, none]) trivial ?_
    exact s_X12_fallsBy_j26 hG hf hK
  · replace hf := iteT (b2i_ne0 c6) hf
    refine V_aload_n d_X12_fallsBy_9 rfl rfl ?_
    refine V_iconst (v := 2) d_X12_fallsBy_10 ic_2 ?_
    refine V_iload_n d_X12_fallsBy_11 rfl rfl ?_
    obtain ⟨q3, hq3, hf⟩ := ob hf
    refine B_callV1 (s_X12_sumOf hG hq3) k_264 clX12 m_X12_sumOf kv_RX12_290 d_X12_fallsBy_12 rfl (Nat.le_of_ble_eq_true rfl) ⟨rfl, rfl, Nat.le_of_ble_eq_true rfl, Nat.le_of_ble_eq_true rfl, Nat.le_of_ble_eq_true rfl⟩ (fun n => ?_)
    refine V_goto (tgt := 26) d_X12_fallsBy_15 (by decide) ?_
    refine V_less (ls' := [none, none]) trivial ?_
    exact s_X12_fallsBy_j26 hG hf hK
theorem s_X12_fallsBy {G : Gl} (hG : G.1.stackTraces = false) {μ : Mem} {p1 : Int32} {r : (Int32 × Mem)} (hf : f_X12_fallsBy μ p1 = some r) : Rt G yX12_fallsBy F_X12_fallsBy (some .int) [.ref (G.2.1 + 264), .int p1] μ (some (.int r.1)) r.2 := fun n => Sd.of hG ⟨by decide +kernel, rfl, rfl⟩ rfl (Nat.le_of_ble_eq_true rfl) rfl (fun C hK => s_X12_fallsBy_e hG hf hK)
theorem d_X12_growsBy_0 : decode cX12_growsBy 0 = .ok (.aload_n 0, 1) := by decide +kernel
theorem d_X12_growsBy_1 : decode cX12_growsBy 1 = .ok (.iload_n 1, 1) := by decide +kernel
theorem d_X12_growsBy_2 : decode cX12_growsBy 2 = .ok (.iconst 3, 1) := by decide +kernel
theorem d_X12_growsBy_3 : decode cX12_growsBy 3 = .ok (.invokevirtual 70, 3) := by decide +kernel
theorem d_X12_growsBy_6 : decode cX12_growsBy 6 = .ok (.aload_n 0, 1) := by decide +kernel
theorem d_X12_growsBy_7 : decode cX12_growsBy 7 = .ok (.invokevirtual 287, 3) := by decide +kernel
theorem d_X12_growsBy_10 : decode cX12_growsBy 10 = .ok (.ifCond .eq 15, 3) := by decide +kernel
theorem d_X12_growsBy_13 : decode cX12_growsBy 13 = .ok (.aload_n 0, 1) := by decide +kernel
theorem d_X12_growsBy_14 : decode cX12_growsBy 14 = .ok (.iconst 1, 1) := by decide +kernel
theorem d_X12_growsBy_15 : decode cX12_growsBy 15 = .ok (.iload_n 1, 1) := by decide +kernel
theorem d_X12_growsBy_16 : decode cX12_growsBy 16 = .ok (.invokestatic 144, 3) := by decide +kernel
theorem d_X12_growsBy_19 : decode cX12_growsBy 19 = .ok (.invokevirtual 290, 3) := by decide +kernel
theorem d_X12_growsBy_22 : decode cX12_growsBy 22 = .ok (.goto 4, 3) := by decide +kernel
theorem d_X12_growsBy_25 : decode cX12_growsBy 25 = .ok (.iconst 0, 1) := by decide +kernel
theorem d_X12_growsBy_26 : decode cX12_growsBy 26 = .ok (.iadd, 1) := by decide +kernel
theorem d_X12_growsBy_27 : decode cX12_growsBy 27 = .ok (.ireturn, 1) := by decide +kernel
theorem s_X12_growsBy_j26 {G : Gl} (hG : G.1.stackTraces = false) {C : Cx} {n : Nat} {μ : Mem} {k0 : Int32} {k1 : Int32} {r : (Int32 × Mem)} (hf : f_X12_growsBy_j26 μ k0 k1 = some r) (hK : FinR G C F_X12_growsBy (some .int) (some (.int r.1)) r.2) : V G C F_X12_growsBy 26 [none, none] [.int k1, .int k0] (pic G μ) n 0 0 := by
  unfold f_X12_growsBy_j26 at hf
  refine V_iadd d_X12_growsBy_26 ?_
  cases hf
  exact R_i hK d_X12_growsBy_27 (Nat.le_of_ble_eq_true rfl) (Nat.le_of_ble_eq_true rfl)
theorem s_X12_growsBy_e {G : Gl} (hG : G.1.stackTraces = false) {C : Cx} {n : Nat} {μ : Mem} {p1 : Int32} {r : (Int32 × Mem)} (hf : f_X12_growsBy μ p1 = some r) (hK : FinR G C F_X12_growsBy (some .int) (some (.int r.1)) r.2) : V G C F_X12_growsBy 0 [some (.ref (G.2.1 + 264)), some (.int p1)] [] (pic G μ) n 0 0 := by
  unfold f_X12_growsBy at hf
  refine V_aload_n d_X12_growsBy_0 rfl rfl ?_
  refine V_iload_n d_X12_growsBy_1 rfl rfl ?_
  refine V_iconst (v := 3) d_X12_growsBy_2 ic_3 ?_
  obtain ⟨t1, ht1, hf⟩ := ob hf
  refine B_callV1 (s_X12_ofLace hG ht1) k_264 clX12 m_X12_ofLace kv_RX12_70 d_X12_growsBy_3 rfl (Nat.le_of_ble_eq_true rfl) ⟨rfl, rfl, Nat.le_of_ble_eq_true rfl, Nat.le_of_ble_eq_true rfl, Nat.le_of_ble_eq_true rfl⟩ (fun n => ?_)
  refine V_aload_n d_X12_growsBy_6 rfl rfl ?_
  obtain ⟨t2, ht2, hf⟩ := ob hf
  refine B_callV1 (s_X12_hasLaw hG ht2) k_264 clX12 m_X12_hasLaw kv_RX12_287 d_X12_growsBy_7 rfl (Nat.le_of_ble_eq_true rfl) ⟨rfl, rfl, Nat.le_of_ble_eq_true rfl, Nat.le_of_ble_eq_true rfl, Nat.le_of_ble_eq_true rfl⟩ (fun n => ?_)
  refine V_if_eq (tgt := 25) d_X12_growsBy_10 (by decide) (fun c10 => ?_) (fun c10 => ?_)
  · replace hf := iteF (b2i_nt (b2i_eq0 c10)) hf
    refine V_iconst (v := 0) d_X12_growsBy_25 ic_0 ?_
    refine V_less (ls' := [none, none]) trivial ?_
    exact s_X12_growsBy_j26 hG hf hK
  · replace hf := iteT (b2i_ne0 c10) hf
    refine V_aload_n d_X12_growsBy_13 rfl rfl ?_
    refine V_iconst (v := 1) d_X12_growsBy_14 ic_1 ?_
    refine V_iload_n d_X12_growsBy_15 rfl rfl ?_
    obtain ⟨t3, ht3, hf⟩ := ob hf
    refine B_callS1 (s_X12_ownerOf hG ht3) m_X12_ownerOf ks_RX12_144 d_X12_growsBy_16 rfl (Nat.le_of_ble_eq_true rfl) ⟨rfl, rfl, Nat.le_of_ble_eq_true rfl, Nat.le_of_ble_eq_true rfl, Nat.le_of_ble_eq_true rfl⟩ (fun n => ?_)
    obtain ⟨q4, hq4, hf⟩ := ob hf
    refine B_callV1 (s_X12_sumOf hG hq4) k_264 clX12 m_X12_sumOf kv_RX12_290 d_X12_growsBy_19 rfl (Nat.le_of_ble_eq_true rfl) ⟨rfl, rfl, Nat.le_of_ble_eq_true rfl, Nat.le_of_ble_eq_true rfl, Nat.le_of_ble_eq_true rfl⟩ (fun n => ?_)
    refine V_goto (tgt := 26) d_X12_growsBy_22 (by decide) ?_
    refine V_less (ls' := [none, none]) trivial ?_
    exact s_X12_growsBy_j26 hG hf hK
theorem s_X12_growsBy {G : Gl} (hG : G.1.stackTraces = false) {μ : Mem} {p1 : Int32} {r : (Int32 × Mem)} (hf : f_X12_growsBy μ p1 = some r) : Rt G yX12_growsBy F_X12_growsBy (some .int) [.ref (G.2.1 + 264), .int p1] μ (some (.int r.1)) r.2 := fun n => Sd.of hG ⟨by decide +kernel, rfl, rfl⟩ rfl (Nat.le_of_ble_eq_true rfl) rfl (fun C hK => s_X12_growsBy_e hG hf hK)
theorem d_X12_owesOf_0 : decode cX12_owesOf 0 = .ok (.iconst 0, 1) := by decide +kernel
theorem d_X12_owesOf_1 : decode cX12_owesOf 1 = .ok (.istore_n 2, 1) := by decide +kernel
theorem d_X12_owesOf_2 : decode cX12_owesOf 2 = .ok (.iconst 2, 1) := by decide +kernel
theorem d_X12_owesOf_3 : decode cX12_owesOf 3 = .ok (.iload_n 1, 1) := by decide +kernel
theorem d_X12_owesOf_4 : decode cX12_owesOf 4 = .ok (.imul, 1) := by decide +kernel
theorem d_X12_owesOf_5 : decode cX12_owesOf 5 = .ok (.istore_n 3, 1) := by decide +kernel
theorem d_X12_owesOf_6 : decode cX12_owesOf 6 = .ok (.iload_n 3, 1) := by decide +kernel
theorem d_X12_owesOf_7 : decode cX12_owesOf 7 = .ok (.iconst 2, 1) := by decide +kernel
theorem d_X12_owesOf_8 : decode cX12_owesOf 8 = .ok (.iload_n 1, 1) := by decide +kernel
theorem d_X12_owesOf_9 : decode cX12_owesOf 9 = .ok (.imul, 1) := by decide +kernel
theorem d_X12_owesOf_10 : decode cX12_owesOf 10 = .ok (.iconst 1, 1) := by decide +kernel
theorem d_X12_owesOf_11 : decode cX12_owesOf 11 = .ok (.iadd, 1) := by decide +kernel
theorem d_X12_owesOf_12 : decode cX12_owesOf 12 = .ok (.if_icmp .gt 30, 3) := by decide +kernel
theorem d_X12_owesOf_15 : decode cX12_owesOf 15 = .ok (.iload_n 2, 1) := by decide +kernel
theorem d_X12_owesOf_16 : decode cX12_owesOf 16 = .ok (.aload_n 0, 1) := by decide +kernel
theorem d_X12_owesOf_17 : decode cX12_owesOf 17 = .ok (.iload_n 3, 1) := by decide +kernel
theorem d_X12_owesOf_18 : decode cX12_owesOf 18 = .ok (.invokevirtual 296, 3) := by decide +kernel
theorem d_X12_owesOf_21 : decode cX12_owesOf 21 = .ok (.ifCond .eq 12, 3) := by decide +kernel
theorem d_X12_owesOf_24 : decode cX12_owesOf 24 = .ok (.aload_n 0, 1) := by decide +kernel
theorem d_X12_owesOf_25 : decode cX12_owesOf 25 = .ok (.iload_n 3, 1) := by decide +kernel
theorem d_X12_owesOf_26 : decode cX12_owesOf 26 = .ok (.iconst 2, 1) := by decide +kernel
theorem d_X12_owesOf_27 : decode cX12_owesOf 27 = .ok (.invokevirtual 70, 3) := by decide +kernel
theorem d_X12_owesOf_30 : decode cX12_owesOf 30 = .ok (.goto 4, 3) := by decide +kernel
theorem d_X12_owesOf_33 : decode cX12_owesOf 33 = .ok (.iconst 0, 1) := by decide +kernel
theorem d_X12_owesOf_34 : decode cX12_owesOf 34 = .ok (.iadd, 1) := by decide +kernel
theorem d_X12_owesOf_35 : decode cX12_owesOf 35 = .ok (.istore_n 2, 1) := by decide +kernel
theorem d_X12_owesOf_36 : decode cX12_owesOf 36 = .ok (.iinc 3 1, 3) := by decide +kernel
theorem d_X12_owesOf_39 : decode cX12_owesOf 39 = .ok (.goto (-33), 3) := by decide +kernel
theorem d_X12_owesOf_42 : decode cX12_owesOf 42 = .ok (.iload_n 2, 1) := by decide +kernel
theorem d_X12_owesOf_43 : decode cX12_owesOf 43 = .ok (.ireturn, 1) := by decide +kernel
theorem s_X12_owesOf_j34_6 {G : Gl} (hG : G.1.stackTraces = false) {C : Cx} {n : Nat} {μ : Mem} {l1 : Int32} {l3 : Int32} {k0 : Int32} {k1 : Int32} {y : ((Int32 × Int32) ⊕ Int32)} (hf : f_X12_owesOf_j34_6 μ l1 l3 k0 k1 = some y) (hK : (∀ z', y = .inl z' → ∀ n, V G C F_X12_owesOf 6 [some (.ref (G.2.1 + 264)), some (.int l1), some (.int z'.1), some (.int z'.2)] [] (pic G μ) n 0 0) ∧ (∀ x', y = .inr x' → ∀ n, V G C F_X12_owesOf 42 [none, none, some (.int x'), none] [] (pic G μ) n 0 0)) : V G C F_X12_owesOf 34 [some (.ref (G.2.1 + 264)), some (.int l1), none, some (.int l3)] [.int k1, .int k0] (pic G μ) n 0 0 := by
  unfold f_X12_owesOf_j34_6 at hf
  refine V_iadd d_X12_owesOf_34 ?_
  refine V_istore_n (ls' := [_, _, _, _]) d_X12_owesOf_35 rfl rfl rfl ?_
  refine V_iinc (v := (l3 + 1)) (ls' := [_, _, _, _]) d_X12_owesOf_36 rfl (by rw [ic_1]) rfl ?_
  refine V_goto (tgt := 6) d_X12_owesOf_39 (by decide) ?_
  refine V_less (ls' := [some _, some _, some _, some _]) ⟨rfl, rfl, rfl, rfl, trivial⟩ ?_
  cases hf
  exact hK.1 _ rfl _
theorem s_X12_owesOf_b6 {G : Gl} (hG : G.1.stackTraces = false) {C : Cx} {n : Nat} {μ : Mem} {l1 : Int32} {l2 : Int32} {l3 : Int32} {y : ((Int32 × Int32) ⊕ Int32)} (hf : f_X12_owesOf_b6 μ l1 l2 l3 = some y) (hK : (∀ z', y = .inl z' → ∀ n, V G C F_X12_owesOf 6 [some (.ref (G.2.1 + 264)), some (.int l1), some (.int z'.1), some (.int z'.2)] [] (pic G μ) n 0 0) ∧ (∀ x', y = .inr x' → ∀ n, V G C F_X12_owesOf 42 [none, none, some (.int x'), none] [] (pic G μ) n 0 0)) : V G C F_X12_owesOf 6 [some (.ref (G.2.1 + 264)), some (.int l1), some (.int l2), some (.int l3)] [] (pic G μ) n 0 0 := by
  unfold f_X12_owesOf_b6 at hf
  refine V_iload_n d_X12_owesOf_6 rfl rfl ?_
  refine V_iconst (v := 2) d_X12_owesOf_7 ic_2 ?_
  refine V_iload_n d_X12_owesOf_8 rfl rfl ?_
  refine V_imul d_X12_owesOf_9 ?_
  refine V_iconst (v := 1) d_X12_owesOf_10 ic_1 ?_
  refine V_iadd d_X12_owesOf_11 ?_
  refine V_icmp_gt (tgt := 42) d_X12_owesOf_12 (by decide) (fun c12 => ?_) (fun c12 => ?_)
  · replace hf := iteT c12 hf
    refine V_less (ls' := [none, none, some _, none]) ⟨rfl, trivial⟩ ?_
    cases hf
    exact hK.2 _ rfl _
  · replace hf := iteF c12 hf
    refine V_iload_n d_X12_owesOf_15 rfl rfl ?_
    refine V_aload_n d_X12_owesOf_16 rfl rfl ?_
    refine V_iload_n d_X12_owesOf_17 rfl rfl ?_
    obtain ⟨t1, ht1, hf⟩ := ob hf
    refine B_callV1 (s_X12_isPledged hG ht1) k_264 clX12 m_X12_isPledged kv_RX12_296 d_X12_owesOf_18 rfl (Nat.le_of_ble_eq_true rfl) ⟨rfl, rfl, Nat.le_of_ble_eq_true rfl, Nat.le_of_ble_eq_true rfl, Nat.le_of_ble_eq_true rfl⟩ (fun n => ?_)
    refine V_if_eq (tgt := 33) d_X12_owesOf_21 (by decide) (fun c21 => ?_) (fun c21 => ?_)
    · replace hf := iteF (b2i_nt (b2i_eq0 c21)) hf
      refine V_iconst (v := 0) d_X12_owesOf_33 ic_0 ?_
      refine V_less (ls' := [some _, some _, none, some _]) ⟨rfl, rfl, rfl, trivial⟩ ?_
      exact s_X12_owesOf_j34_6 hG hf hK
    · replace hf := iteT (b2i_ne0 c21) hf
      refine V_aload_n d_X12_owesOf_24 rfl rfl ?_
      refine V_iload_n d_X12_owesOf_25 rfl rfl ?_
      refine V_iconst (v := 2) d_X12_owesOf_26 ic_2 ?_
      obtain ⟨t2, ht2, hf⟩ := ob hf
      refine B_callV1 (s_X12_ofLace hG ht2) k_264 clX12 m_X12_ofLace kv_RX12_70 d_X12_owesOf_27 rfl (Nat.le_of_ble_eq_true rfl) ⟨rfl, rfl, Nat.le_of_ble_eq_true rfl, Nat.le_of_ble_eq_true rfl, Nat.le_of_ble_eq_true rfl⟩ (fun n => ?_)
      refine V_goto (tgt := 34) d_X12_owesOf_30 (by decide) ?_
      refine V_less (ls' := [some _, some _, none, some _]) ⟨rfl, rfl, rfl, trivial⟩ ?_
      exact s_X12_owesOf_j34_6 hG hf hK
theorem s_X12_owesOf_j42 {G : Gl} (hG : G.1.stackTraces = false) {C : Cx} {n : Nat} {μ : Mem} {l2 : Int32} {r : Int32} (hf : f_X12_owesOf_j42 μ l2 = some r) (hK : FinR G C F_X12_owesOf (some .int) (some (.int r)) μ) : V G C F_X12_owesOf 42 [none, none, some (.int l2), none] [] (pic G μ) n 0 0 := by
  unfold f_X12_owesOf_j42 at hf
  refine V_iload_n d_X12_owesOf_42 rfl rfl ?_
  cases hf
  exact R_i hK d_X12_owesOf_43 (Nat.le_of_ble_eq_true rfl) (Nat.le_of_ble_eq_true rfl)
theorem s_X12_owesOf_l6 {G : Gl} (hG : G.1.stackTraces = false) {C : Cx} {n : Nat} {μ : Mem} {l1 : Int32} {l2 : Int32} {l3 : Int32} {r : Int32} (hf : f_X12_owesOf_l6 μ l1 l2 l3 = some r) (hK : FinR G C F_X12_owesOf (some .int) (some (.int r)) μ) : V G C F_X12_owesOf 6 [some (.ref (G.2.1 + 264)), some (.int l1), some (.int l2), some (.int l3)] [] (pic G μ) n 0 0 := by
  unfold f_X12_owesOf_l6 at hf
  obtain ⟨t, hl, hf⟩ := ob hf
  refine loopV (P := fun z => ∀ n, V G C F_X12_owesOf 6 [some (.ref (G.2.1 + 264)), some (.int l1), some (.int z.1), some (.int z.2)] [] (pic G μ) n 0 0) (t := t) ?_ _ _ hl n
  intro z y' hy hI hT n
  refine s_X12_owesOf_b6 hG hy ⟨hI, fun x9 ex => ?_⟩
  have ex2 := hT x9 ex
  subst ex2
  intro n
  exact s_X12_owesOf_j42 hG hf hK
theorem s_X12_owesOf_e {G : Gl} (hG : G.1.stackTraces = false) {C : Cx} {n : Nat} {μ : Mem} {p1 : Int32} {r : Int32} (hf : f_X12_owesOf μ p1 = some r) (hK : FinR G C F_X12_owesOf (some .int) (some (.int r)) μ) : V G C F_X12_owesOf 0 [some (.ref (G.2.1 + 264)), some (.int p1), none, none] [] (pic G μ) n 0 0 := by
  unfold f_X12_owesOf at hf
  refine V_iconst (v := 0) d_X12_owesOf_0 ic_0 ?_
  refine V_istore_n (ls' := [_, _, _, _]) d_X12_owesOf_1 rfl rfl rfl ?_
  refine V_iconst (v := 2) d_X12_owesOf_2 ic_2 ?_
  refine V_iload_n d_X12_owesOf_3 rfl rfl ?_
  refine V_imul d_X12_owesOf_4 ?_
  refine V_istore_n (ls' := [_, _, _, _]) d_X12_owesOf_5 rfl rfl rfl ?_
  refine V_less (ls' := [some _, some _, some _, some _]) ⟨rfl, rfl, rfl, rfl, trivial⟩ ?_
  exact s_X12_owesOf_l6 hG hf hK
theorem s_X12_owesOf {G : Gl} (hG : G.1.stackTraces = false) {μ : Mem} {p1 : Int32} {r : Int32} (hf : f_X12_owesOf μ p1 = some r) : Rt G yX12_owesOf F_X12_owesOf (some .int) [.ref (G.2.1 + 264), .int p1] μ (some (.int r)) μ := fun n => Sd.of hG ⟨by decide +kernel, rfl, rfl⟩ rfl (Nat.le_of_ble_eq_true rfl) rfl (fun C hK => s_X12_owesOf_e hG hf hK)
theorem d_X12_dueTo_0 : decode cX12_dueTo 0 = .ok (.iconst 0, 1) := by decide +kernel
theorem d_X12_dueTo_1 : decode cX12_dueTo 1 = .ok (.istore_n 2, 1) := by decide +kernel
theorem d_X12_dueTo_2 : decode cX12_dueTo 2 = .ok (.iconst 0, 1) := by decide +kernel
theorem d_X12_dueTo_3 : decode cX12_dueTo 3 = .ok (.istore_n 3, 1) := by decide +kernel
theorem d_X12_dueTo_4 : decode cX12_dueTo 4 = .ok (.iload_n 3, 1) := by decide +kernel
theorem d_X12_dueTo_5 : decode cX12_dueTo 5 = .ok (.aload_n 0, 1) := by decide +kernel
theorem d_X12_dueTo_6 : decode cX12_dueTo 6 = .ok (.invokevirtual 77, 3) := by decide +kernel
theorem d_X12_dueTo_9 : decode cX12_dueTo 9 = .ok (.if_icmp .ge 40, 3) := by decide +kernel
theorem d_X12_dueTo_12 : decode cX12_dueTo 12 = .ok (.iload_n 2, 1) := by decide +kernel
theorem d_X12_dueTo_13 : decode cX12_dueTo 13 = .ok (.aload_n 0, 1) := by decide +kernel
theorem d_X12_dueTo_14 : decode cX12_dueTo 14 = .ok (.iload_n 3, 1) := by decide +kernel
theorem d_X12_dueTo_15 : decode cX12_dueTo 15 = .ok (.invokevirtual 296, 3) := by decide +kernel
theorem d_X12_dueTo_18 : decode cX12_dueTo 18 = .ok (.ifCond .eq 22, 3) := by decide +kernel
theorem d_X12_dueTo_21 : decode cX12_dueTo 21 = .ok (.aload_n 0, 1) := by decide +kernel
theorem d_X12_dueTo_22 : decode cX12_dueTo 22 = .ok (.iload_n 3, 1) := by decide +kernel
theorem d_X12_dueTo_23 : decode cX12_dueTo 23 = .ok (.iconst 1, 1) := by decide +kernel
theorem d_X12_dueTo_24 : decode cX12_dueTo 24 = .ok (.invokevirtual 70, 3) := by decide +kernel
theorem d_X12_dueTo_27 : decode cX12_dueTo 27 = .ok (.iload_n 1, 1) := by decide +kernel
theorem d_X12_dueTo_28 : decode cX12_dueTo 28 = .ok (.if_icmp .ne 12, 3) := by decide +kernel
theorem d_X12_dueTo_31 : decode cX12_dueTo 31 = .ok (.aload_n 0, 1) := by decide +kernel
theorem d_X12_dueTo_32 : decode cX12_dueTo 32 = .ok (.iload_n 3, 1) := by decide +kernel
theorem d_X12_dueTo_33 : decode cX12_dueTo 33 = .ok (.iconst 2, 1) := by decide +kernel
theorem d_X12_dueTo_34 : decode cX12_dueTo 34 = .ok (.invokevirtual 70, 3) := by decide +kernel
theorem d_X12_dueTo_37 : decode cX12_dueTo 37 = .ok (.goto 4, 3) := by decide +kernel
theorem d_X12_dueTo_40 : decode cX12_dueTo 40 = .ok (.iconst 0, 1) := by decide +kernel
theorem d_X12_dueTo_41 : decode cX12_dueTo 41 = .ok (.iadd, 1) := by decide +kernel
theorem d_X12_dueTo_42 : decode cX12_dueTo 42 = .ok (.istore_n 2, 1) := by decide +kernel
theorem d_X12_dueTo_43 : decode cX12_dueTo 43 = .ok (.iinc 3 1, 3) := by decide +kernel
theorem d_X12_dueTo_46 : decode cX12_dueTo 46 = .ok (.goto (-42), 3) := by decide +kernel
theorem d_X12_dueTo_49 : decode cX12_dueTo 49 = .ok (.iload_n 2, 1) := by decide +kernel
theorem d_X12_dueTo_50 : decode cX12_dueTo 50 = .ok (.ireturn, 1) := by decide +kernel
theorem s_X12_dueTo_j41_4 {G : Gl} (hG : G.1.stackTraces = false) {C : Cx} {n : Nat} {μ : Mem} {l1 : Int32} {l3 : Int32} {k0 : Int32} {k1 : Int32} {y : ((Int32 × Int32) ⊕ Int32)} (hf : f_X12_dueTo_j41_4 μ l1 l3 k0 k1 = some y) (hK : (∀ z', y = .inl z' → ∀ n, V G C F_X12_dueTo 4 [some (.ref (G.2.1 + 264)), some (.int l1), some (.int z'.1), some (.int z'.2)] [] (pic G μ) n 0 0) ∧ (∀ x', y = .inr x' → ∀ n, V G C F_X12_dueTo 49 [none, none, some (.int x'), none] [] (pic G μ) n 0 0)) : V G C F_X12_dueTo 41 [some (.ref (G.2.1 + 264)), some (.int l1), none, some (.int l3)] [.int k1, .int k0] (pic G μ) n 0 0 := by
  unfold f_X12_dueTo_j41_4 at hf
  refine V_iadd d_X12_dueTo_41 ?_
  refine V_istore_n (ls' := [_, _, _, _]) d_X12_dueTo_42 rfl rfl rfl ?_
  refine V_iinc (v := (l3 + 1)) (ls' := [_, _, _, _]) d_X12_dueTo_43 rfl (by rw [ic_1]) rfl ?_
  refine V_goto (tgt := 4) d_X12_dueTo_46 (by decide) ?_
  refine V_less (ls' := [some _, some _, some _, some _]) ⟨rfl, rfl, rfl, rfl, trivial⟩ ?_
  cases hf
  exact hK.1 _ rfl _
theorem s_X12_dueTo_j40_4 {G : Gl} (hG : G.1.stackTraces = false) {C : Cx} {n : Nat} {μ : Mem} {l1 : Int32} {l3 : Int32} {k0 : Int32} {y : ((Int32 × Int32) ⊕ Int32)} (hf : f_X12_dueTo_j40_4 μ l1 l3 k0 = some y) (hK : (∀ z', y = .inl z' → ∀ n, V G C F_X12_dueTo 4 [some (.ref (G.2.1 + 264)), some (.int l1), some (.int z'.1), some (.int z'.2)] [] (pic G μ) n 0 0) ∧ (∀ x', y = .inr x' → ∀ n, V G C F_X12_dueTo 49 [none, none, some (.int x'), none] [] (pic G μ) n 0 0)) : V G C F_X12_dueTo 40 [some (.ref (G.2.1 + 264)), some (.int l1), none, some (.int l3)] [.int k0] (pic G μ) n 0 0 := by
  unfold f_X12_dueTo_j40_4 at hf
  refine V_iconst (v := 0) d_X12_dueTo_40 ic_0 ?_
  refine V_less (ls' := [some _, some _, none, some _]) ⟨rfl, rfl, rfl, trivial⟩ ?_
  exact s_X12_dueTo_j41_4 hG hf hK
theorem s_X12_dueTo_b4 {G : Gl} (hG : G.1.stackTraces = false) {C : Cx} {n : Nat} {μ : Mem} {l1 : Int32} {l2 : Int32} {l3 : Int32} {y : ((Int32 × Int32) ⊕ Int32)} (hf : f_X12_dueTo_b4 μ l1 l2 l3 = some y) (hK : (∀ z', y = .inl z' → ∀ n, V G C F_X12_dueTo 4 [some (.ref (G.2.1 + 264)), some (.int l1), some (.int z'.1), some (.int z'.2)] [] (pic G μ) n 0 0) ∧ (∀ x', y = .inr x' → ∀ n, V G C F_X12_dueTo 49 [none, none, some (.int x'), none] [] (pic G μ) n 0 0)) : V G C F_X12_dueTo 4 [some (.ref (G.2.1 + 264)), some (.int l1), some (.int l2), some (.int l3)] [] (pic G μ) n 0 0 := by
  unfold f_X12_dueTo_b4 at hf
  refine V_iload_n d_X12_dueTo_4 rfl rfl ?_
  refine V_aload_n d_X12_dueTo_5 rfl rfl ?_
  obtain ⟨t1, ht1, hf⟩ := ob hf
  refine B_callV1 (s_X12_laces hG ht1) k_264 clX12 m_X12_laces kv_RX12_77 d_X12_dueTo_6 rfl (Nat.le_of_ble_eq_true rfl) ⟨rfl, rfl, Nat.le_of_ble_eq_true rfl, Nat.le_of_ble_eq_true rfl, Nat.le_of_ble_eq_true rfl⟩ (fun n => ?_)
  refine V_icmp_ge (tgt := 49) d_X12_dueTo_9 (by decide) (fun c9 => ?_) (fun c9 => ?_)
  · replace hf := iteT c9 hf
    refine V_less (ls' := [none, none, some _, none]) ⟨rfl, trivial⟩ ?_
    cases hf
    exact hK.2 _ rfl _
  · replace hf := iteF c9 hf
    refine V_iload_n d_X12_dueTo_12 rfl rfl ?_
    refine V_aload_n d_X12_dueTo_13 rfl rfl ?_
    refine V_iload_n d_X12_dueTo_14 rfl rfl ?_
    obtain ⟨t2, ht2, hf⟩ := ob hf
    refine B_callV1 (s_X12_isPledged hG ht2) k_264 clX12 m_X12_isPledged kv_RX12_296 d_X12_dueTo_15 rfl (Nat.le_of_ble_eq_true rfl) ⟨rfl, rfl, Nat.le_of_ble_eq_true rfl, Nat.le_of_ble_eq_true rfl, Nat.le_of_ble_eq_true rfl⟩ (fun n => ?_)
    refine V_if_eq (tgt := 40) d_X12_dueTo_18 (by decide) (fun c18 => ?_) (fun c18 => ?_)
    · replace hf := iteF (b2i_nt (b2i_eq0 c18)) hf
      refine V_less (ls' := [some _, some _, none, some _]) ⟨rfl, rfl, rfl, trivial⟩ ?_
      exact s_X12_dueTo_j40_4 hG hf hK
    · replace hf := iteT (b2i_ne0 c18) hf
      refine V_aload_n d_X12_dueTo_21 rfl rfl ?_
      refine V_iload_n d_X12_dueTo_22 rfl rfl ?_
      refine V_iconst (v := 1) d_X12_dueTo_23 ic_1 ?_
      obtain ⟨t3, ht3, hf⟩ := ob hf
      refine B_callV1 (s_X12_ofLace hG ht3) k_264 clX12 m_X12_ofLace kv_RX12_70 d_X12_dueTo_24 rfl (Nat.le_of_ble_eq_true rfl) ⟨rfl, rfl, Nat.le_of_ble_eq_true rfl, Nat.le_of_ble_eq_true rfl, Nat.le_of_ble_eq_true rfl⟩ (fun n => ?_)
      refine V_iload_n d_X12_dueTo_27 rfl rfl ?_
      refine V_icmp_ne (tgt := 40) d_X12_dueTo_28 (by decide) (fun c28 => ?_) (fun c28 => ?_)
      · replace hf := iteF c28 hf
        refine V_less (ls' := [some _, some _, none, some _]) ⟨rfl, rfl, rfl, trivial⟩ ?_
        exact s_X12_dueTo_j40_4 hG hf hK
      · replace hf := iteT c28 hf
        refine V_aload_n d_X12_dueTo_31 rfl rfl ?_
        refine V_iload_n d_X12_dueTo_32 rfl rfl ?_
        refine V_iconst (v := 2) d_X12_dueTo_33 ic_2 ?_
        obtain ⟨t4, ht4, hf⟩ := ob hf
        refine B_callV1 (s_X12_ofLace hG ht4) k_264 clX12 m_X12_ofLace kv_RX12_70 d_X12_dueTo_34 rfl (Nat.le_of_ble_eq_true rfl) ⟨rfl, rfl, Nat.le_of_ble_eq_true rfl, Nat.le_of_ble_eq_true rfl, Nat.le_of_ble_eq_true rfl⟩ (fun n => ?_)
        refine V_goto (tgt := 41) d_X12_dueTo_37 (by decide) ?_
        refine V_less (ls' := [some _, some _, none, some _]) ⟨rfl, rfl, rfl, trivial⟩ ?_
        exact s_X12_dueTo_j41_4 hG hf hK
theorem s_X12_dueTo_j49 {G : Gl} (hG : G.1.stackTraces = false) {C : Cx} {n : Nat} {μ : Mem} {l2 : Int32} {r : Int32} (hf : f_X12_dueTo_j49 μ l2 = some r) (hK : FinR G C F_X12_dueTo (some .int) (some (.int r)) μ) : V G C F_X12_dueTo 49 [none, none, some (.int l2), none] [] (pic G μ) n 0 0 := by
  unfold f_X12_dueTo_j49 at hf
  refine V_iload_n d_X12_dueTo_49 rfl rfl ?_
  cases hf
  exact R_i hK d_X12_dueTo_50 (Nat.le_of_ble_eq_true rfl) (Nat.le_of_ble_eq_true rfl)
theorem s_X12_dueTo_l4 {G : Gl} (hG : G.1.stackTraces = false) {C : Cx} {n : Nat} {μ : Mem} {l1 : Int32} {l2 : Int32} {l3 : Int32} {r : Int32} (hf : f_X12_dueTo_l4 μ l1 l2 l3 = some r) (hK : FinR G C F_X12_dueTo (some .int) (some (.int r)) μ) : V G C F_X12_dueTo 4 [some (.ref (G.2.1 + 264)), some (.int l1), some (.int l2), some (.int l3)] [] (pic G μ) n 0 0 := by
  unfold f_X12_dueTo_l4 at hf
  obtain ⟨t, hl, hf⟩ := ob hf
  refine loopV (P := fun z => ∀ n, V G C F_X12_dueTo 4 [some (.ref (G.2.1 + 264)), some (.int l1), some (.int z.1), some (.int z.2)] [] (pic G μ) n 0 0) (t := t) ?_ _ _ hl n
  intro z y' hy hI hT n
  refine s_X12_dueTo_b4 hG hy ⟨hI, fun x9 ex => ?_⟩
  have ex2 := hT x9 ex
  subst ex2
  intro n
  exact s_X12_dueTo_j49 hG hf hK
theorem s_X12_dueTo_e {G : Gl} (hG : G.1.stackTraces = false) {C : Cx} {n : Nat} {μ : Mem} {p1 : Int32} {r : Int32} (hf : f_X12_dueTo μ p1 = some r) (hK : FinR G C F_X12_dueTo (some .int) (some (.int r)) μ) : V G C F_X12_dueTo 0 [some (.ref (G.2.1 + 264)), some (.int p1), none, none] [] (pic G μ) n 0 0 := by
  unfold f_X12_dueTo at hf
  refine V_iconst (v := 0) d_X12_dueTo_0 ic_0 ?_
  refine V_istore_n (ls' := [_, _, _, _]) d_X12_dueTo_1 rfl rfl rfl ?_
  refine V_iconst (v := 0) d_X12_dueTo_2 ic_0 ?_
  refine V_istore_n (ls' := [_, _, _, _]) d_X12_dueTo_3 rfl rfl rfl ?_
  refine V_less (ls' := [some _, some _, some _, some _]) ⟨rfl, rfl, rfl, rfl, trivial⟩ ?_
  exact s_X12_dueTo_l4 hG hf hK
theorem s_X12_dueTo {G : Gl} (hG : G.1.stackTraces = false) {μ : Mem} {p1 : Int32} {r : Int32} (hf : f_X12_dueTo μ p1 = some r) : Rt G yX12_dueTo F_X12_dueTo (some .int) [.ref (G.2.1 + 264), .int p1] μ (some (.int r)) μ := fun n => Sd.of hG ⟨by decide +kernel, rfl, rfl⟩ rfl (Nat.le_of_ble_eq_true rfl) rfl (fun C hK => s_X12_dueTo_e hG hf hK)
theorem d_X12_lostOnes_0 : decode cX12_lostOnes 0 = .ok (.iconst 0, 1) := by decide +kernel
theorem d_X12_lostOnes_1 : decode cX12_lostOnes 1 = .ok (.istore_n 1, 1) := by decide +kernel
theorem d_X12_lostOnes_2 : decode cX12_lostOnes 2 = .ok (.iconst 0, 1) := by decide +kernel
theorem d_X12_lostOnes_3 : decode cX12_lostOnes 3 = .ok (.istore_n 2, 1) := by decide +kernel
theorem d_X12_lostOnes_4 : decode cX12_lostOnes 4 = .ok (.iload_n 2, 1) := by decide +kernel
theorem d_X12_lostOnes_5 : decode cX12_lostOnes 5 = .ok (.aload_n 0, 1) := by decide +kernel
theorem d_X12_lostOnes_6 : decode cX12_lostOnes 6 = .ok (.invokevirtual 77, 3) := by decide +kernel
theorem d_X12_lostOnes_9 : decode cX12_lostOnes 9 = .ok (.if_icmp .ge 27, 3) := by decide +kernel
theorem d_X12_lostOnes_12 : decode cX12_lostOnes 12 = .ok (.iload_n 1, 1) := by decide +kernel
theorem d_X12_lostOnes_13 : decode cX12_lostOnes 13 = .ok (.aload_n 0, 1) := by decide +kernel
theorem d_X12_lostOnes_14 : decode cX12_lostOnes 14 = .ok (.iload_n 2, 1) := by decide +kernel
theorem d_X12_lostOnes_15 : decode cX12_lostOnes 15 = .ok (.invokevirtual 299, 3) := by decide +kernel
theorem d_X12_lostOnes_18 : decode cX12_lostOnes 18 = .ok (.ifCond .eq 9, 3) := by decide +kernel
theorem d_X12_lostOnes_21 : decode cX12_lostOnes 21 = .ok (.iconst 1, 1) := by decide +kernel
theorem d_X12_lostOnes_22 : decode cX12_lostOnes 22 = .ok (.iload_n 2, 1) := by decide +kernel
theorem d_X12_lostOnes_23 : decode cX12_lostOnes 23 = .ok (.ishl, 1) := by decide +kernel
theorem d_X12_lostOnes_24 : decode cX12_lostOnes 24 = .ok (.goto 4, 3) := by decide +kernel
theorem d_X12_lostOnes_27 : decode cX12_lostOnes 27 = .ok (.iconst 0, 1) := by decide +kernel
theorem d_X12_lostOnes_28 : decode cX12_lostOnes 28 = .ok (.ior, 1) := by decide +kernel
theorem d_X12_lostOnes_29 : decode cX12_lostOnes 29 = .ok (.istore_n 1, 1) := by decide +kernel
theorem d_X12_lostOnes_30 : decode cX12_lostOnes 30 = .ok (.iinc 2 1, 3) := by decide +kernel
theorem d_X12_lostOnes_33 : decode cX12_lostOnes 33 = .ok (.goto (-29), 3) := by decide +kernel
theorem d_X12_lostOnes_36 : decode cX12_lostOnes 36 = .ok (.iload_n 1, 1) := by decide +kernel
theorem d_X12_lostOnes_37 : decode cX12_lostOnes 37 = .ok (.ireturn, 1) := by decide +kernel
theorem s_X12_lostOnes_b4 {G : Gl} (hG : G.1.stackTraces = false) {C : Cx} {n : Nat} {μ : Mem} {l1 : Int32} {l2 : Int32} {y : ((Int32 × Int32) ⊕ Int32)} (hf : f_X12_lostOnes_b4 μ l1 l2 = some y) (hK : (∀ z', y = .inl z' → ∀ n, V G C F_X12_lostOnes 4 [some (.ref (G.2.1 + 264)), some (.int z'.1), some (.int z'.2)] [] (pic G μ) n 0 0) ∧ (∀ x', y = .inr x' → ∀ n, V G C F_X12_lostOnes 36 [none, some (.int x'), none] [] (pic G μ) n 0 0)) : V G C F_X12_lostOnes 4 [some (.ref (G.2.1 + 264)), some (.int l1), some (.int l2)] [] (pic G μ) n 0 0 := by
  unfold f_X12_lostOnes_b4 at hf
  refine V_iload_n d_X12_lostOnes_4 rfl rfl ?_
  refine V_aload_n d_X12_lostOnes_5 rfl rfl ?_
  obtain ⟨t1, ht1, hf⟩ := ob hf
  refine B_callV1 (s_X12_laces hG ht1) k_264 clX12 m_X12_laces kv_RX12_77 d_X12_lostOnes_6 rfl (Nat.le_of_ble_eq_true rfl) ⟨rfl, rfl, Nat.le_of_ble_eq_true rfl, Nat.le_of_ble_eq_true rfl, Nat.le_of_ble_eq_true rfl⟩ (fun n => ?_)
  refine V_icmp_ge (tgt := 36) d_X12_lostOnes_9 (by decide) (fun c9 => ?_) (fun c9 => ?_)
  · replace hf := iteT c9 hf
    refine V_less (ls' := [none, some _, none]) ⟨rfl, trivial⟩ ?_
    cases hf
    exact hK.2 _ rfl _
  · replace hf := iteF c9 hf
    refine V_iload_n d_X12_lostOnes_12 rfl rfl ?_
    refine V_aload_n d_X12_lostOnes_13 rfl rfl ?_
    refine V_iload_n d_X12_lostOnes_14 rfl rfl ?_
    obtain ⟨t2, ht2, hf⟩ := ob hf
    refine B_callV1 (s_X12_isLost hG ht2) k_264 clX12 m_X12_isLost kv_RX12_299 d_X12_lostOnes_15 rfl (Nat.le_of_ble_eq_true rfl) ⟨rfl, rfl, Nat.le_of_ble_eq_true rfl, Nat.le_of_ble_eq_true rfl, Nat.le_of_ble_eq_true rfl⟩ (fun n => ?_)
    have hJj3 : ∀ j3 : Int32, j3 = (if t2 = true then ((1 <<< (l2 &&& 31)) : Int32) else 0) → V G C F_X12_lostOnes 28 [some (.ref (G.2.1 + 264)), none, some (.int l2)] [.int j3, .int l1] (pic G μ) n 0 0 := by
      intro j3 ej3
      subst ej3
      refine V_ior d_X12_lostOnes_28 ?_
      refine V_istore_n (ls' := [_, _, _]) d_X12_lostOnes_29 rfl rfl rfl ?_
      refine V_iinc (v := (l2 + 1)) (ls' := [_, _, _]) d_X12_lostOnes_30 rfl (by rw [ic_1]) rfl ?_
      refine V_goto (tgt := 4) d_X12_lostOnes_33 (by decide) ?_
      refine V_less (ls' := [some _, some _, some _]) ⟨rfl, rfl, rfl, trivial⟩ ?_
      cases hf
      exact hK.1 _ rfl _
    refine V_if_eq (tgt := 27) d_X12_lostOnes_18 (by decide) (fun c18 => ?_) (fun c18 => ?_)
    · refine V_iconst (v := 0) d_X12_lostOnes_27 ic_0 ?_
      refine V_less (ls' := [some _, none, some _]) ⟨rfl, rfl, trivial⟩ ?_
      exact hJj3 0 (by rw [if_neg (b2i_nt (b2i_eq0 c18))])
    · refine V_iconst (v := 1) d_X12_lostOnes_21 ic_1 ?_
      refine V_iload_n d_X12_lostOnes_22 rfl rfl ?_
      refine V_ishl d_X12_lostOnes_23 ?_
      refine V_goto (tgt := 28) d_X12_lostOnes_24 (by decide) ?_
      refine V_less (ls' := [some _, none, some _]) ⟨rfl, rfl, trivial⟩ ?_
      exact hJj3 (1 <<< (l2 &&& 31)) (by rw [if_pos (b2i_ne0 c18)])
theorem s_X12_lostOnes_j36 {G : Gl} (hG : G.1.stackTraces = false) {C : Cx} {n : Nat} {μ : Mem} {l1 : Int32} {r : Int32} (hf : f_X12_lostOnes_j36 μ l1 = some r) (hK : FinR G C F_X12_lostOnes (some .int) (some (.int r)) μ) : V G C F_X12_lostOnes 36 [none, some (.int l1), none] [] (pic G μ) n 0 0 := by
  unfold f_X12_lostOnes_j36 at hf
  refine V_iload_n d_X12_lostOnes_36 rfl rfl ?_
  cases hf
  exact R_i hK d_X12_lostOnes_37 (Nat.le_of_ble_eq_true rfl) (Nat.le_of_ble_eq_true rfl)
theorem s_X12_lostOnes_l4 {G : Gl} (hG : G.1.stackTraces = false) {C : Cx} {n : Nat} {μ : Mem} {l1 : Int32} {l2 : Int32} {r : Int32} (hf : f_X12_lostOnes_l4 μ l1 l2 = some r) (hK : FinR G C F_X12_lostOnes (some .int) (some (.int r)) μ) : V G C F_X12_lostOnes 4 [some (.ref (G.2.1 + 264)), some (.int l1), some (.int l2)] [] (pic G μ) n 0 0 := by
  unfold f_X12_lostOnes_l4 at hf
  obtain ⟨t, hl, hf⟩ := ob hf
  refine loopV (P := fun z => ∀ n, V G C F_X12_lostOnes 4 [some (.ref (G.2.1 + 264)), some (.int z.1), some (.int z.2)] [] (pic G μ) n 0 0) (t := t) ?_ _ _ hl n
  intro z y' hy hI hT n
  refine s_X12_lostOnes_b4 hG hy ⟨hI, fun x9 ex => ?_⟩
  have ex2 := hT x9 ex
  subst ex2
  intro n
  exact s_X12_lostOnes_j36 hG hf hK
theorem s_X12_lostOnes_e {G : Gl} (hG : G.1.stackTraces = false) {C : Cx} {n : Nat} {μ : Mem}  {r : Int32} (hf : f_X12_lostOnes μ = some r) (hK : FinR G C F_X12_lostOnes (some .int) (some (.int r)) μ) : V G C F_X12_lostOnes 0 [some (.ref (G.2.1 + 264)), none, none] [] (pic G μ) n 0 0 := by
  unfold f_X12_lostOnes at hf
  refine V_iconst (v := 0) d_X12_lostOnes_0 ic_0 ?_
  refine V_istore_n (ls' := [_, _, _]) d_X12_lostOnes_1 rfl rfl rfl ?_
  refine V_iconst (v := 0) d_X12_lostOnes_2 ic_0 ?_
  refine V_istore_n (ls' := [_, _, _]) d_X12_lostOnes_3 rfl rfl rfl ?_
  refine V_less (ls' := [some _, some _, some _]) ⟨rfl, rfl, rfl, trivial⟩ ?_
  exact s_X12_lostOnes_l4 hG hf hK
theorem s_X12_lostOnes {G : Gl} (hG : G.1.stackTraces = false) {μ : Mem} {r : Int32} (hf : f_X12_lostOnes μ = some r) : Rt G yX12_lostOnes F_X12_lostOnes (some .int) [.ref (G.2.1 + 264)] μ (some (.int r)) μ := fun n => Sd.of hG ⟨by decide +kernel, rfl, rfl⟩ rfl (Nat.le_of_ble_eq_true rfl) rfl (fun C hK => s_X12_lostOnes_e hG hf hK)
theorem d_X12_pledgedOnes_0 : decode cX12_pledgedOnes 0 = .ok (.iconst 0, 1) := by decide +kernel
theorem d_X12_pledgedOnes_1 : decode cX12_pledgedOnes 1 = .ok (.istore_n 1, 1) := by decide +kernel
theorem d_X12_pledgedOnes_2 : decode cX12_pledgedOnes 2 = .ok (.iconst 0, 1) := by decide +kernel
theorem d_X12_pledgedOnes_3 : decode cX12_pledgedOnes 3 = .ok (.istore_n 2, 1) := by decide +kernel
theorem d_X12_pledgedOnes_4 : decode cX12_pledgedOnes 4 = .ok (.iload_n 2, 1) := by decide +kernel
theorem d_X12_pledgedOnes_5 : decode cX12_pledgedOnes 5 = .ok (.aload_n 0, 1) := by decide +kernel
theorem d_X12_pledgedOnes_6 : decode cX12_pledgedOnes 6 = .ok (.invokevirtual 77, 3) := by decide +kernel
theorem d_X12_pledgedOnes_9 : decode cX12_pledgedOnes 9 = .ok (.if_icmp .ge 27, 3) := by decide +kernel
theorem d_X12_pledgedOnes_12 : decode cX12_pledgedOnes 12 = .ok (.iload_n 1, 1) := by decide +kernel
theorem d_X12_pledgedOnes_13 : decode cX12_pledgedOnes 13 = .ok (.aload_n 0, 1) := by decide +kernel
theorem d_X12_pledgedOnes_14 : decode cX12_pledgedOnes 14 = .ok (.iload_n 2, 1) := by decide +kernel
theorem d_X12_pledgedOnes_15 : decode cX12_pledgedOnes 15 = .ok (.invokevirtual 296, 3) := by decide +kernel
theorem d_X12_pledgedOnes_18 : decode cX12_pledgedOnes 18 = .ok (.ifCond .eq 9, 3) := by decide +kernel
theorem d_X12_pledgedOnes_21 : decode cX12_pledgedOnes 21 = .ok (.iconst 1, 1) := by decide +kernel
theorem d_X12_pledgedOnes_22 : decode cX12_pledgedOnes 22 = .ok (.iload_n 2, 1) := by decide +kernel
theorem d_X12_pledgedOnes_23 : decode cX12_pledgedOnes 23 = .ok (.ishl, 1) := by decide +kernel
theorem d_X12_pledgedOnes_24 : decode cX12_pledgedOnes 24 = .ok (.goto 4, 3) := by decide +kernel
theorem d_X12_pledgedOnes_27 : decode cX12_pledgedOnes 27 = .ok (.iconst 0, 1) := by decide +kernel
theorem d_X12_pledgedOnes_28 : decode cX12_pledgedOnes 28 = .ok (.ior, 1) := by decide +kernel
theorem d_X12_pledgedOnes_29 : decode cX12_pledgedOnes 29 = .ok (.istore_n 1, 1) := by decide +kernel
theorem d_X12_pledgedOnes_30 : decode cX12_pledgedOnes 30 = .ok (.iinc 2 1, 3) := by decide +kernel
theorem d_X12_pledgedOnes_33 : decode cX12_pledgedOnes 33 = .ok (.goto (-29), 3) := by decide +kernel
theorem d_X12_pledgedOnes_36 : decode cX12_pledgedOnes 36 = .ok (.iload_n 1, 1) := by decide +kernel
theorem d_X12_pledgedOnes_37 : decode cX12_pledgedOnes 37 = .ok (.ireturn, 1) := by decide +kernel
theorem s_X12_pledgedOnes_b4 {G : Gl} (hG : G.1.stackTraces = false) {C : Cx} {n : Nat} {μ : Mem} {l1 : Int32} {l2 : Int32} {y : ((Int32 × Int32) ⊕ Int32)} (hf : f_X12_pledgedOnes_b4 μ l1 l2 = some y) (hK : (∀ z', y = .inl z' → ∀ n, V G C F_X12_pledgedOnes 4 [some (.ref (G.2.1 + 264)), some (.int z'.1), some (.int z'.2)] [] (pic G μ) n 0 0) ∧ (∀ x', y = .inr x' → ∀ n, V G C F_X12_pledgedOnes 36 [none, some (.int x'), none] [] (pic G μ) n 0 0)) : V G C F_X12_pledgedOnes 4 [some (.ref (G.2.1 + 264)), some (.int l1), some (.int l2)] [] (pic G μ) n 0 0 := by
  unfold f_X12_pledgedOnes_b4 at hf
  refine V_iload_n d_X12_pledgedOnes_4 rfl rfl ?_
  refine V_aload_n d_X12_pledgedOnes_5 rfl rfl ?_
  obtain ⟨t1, ht1, hf⟩ := ob hf
  refine B_callV1 (s_X12_laces hG ht1) k_264 clX12 m_X12_laces kv_RX12_77 d_X12_pledgedOnes_6 rfl (Nat.le_of_ble_eq_true rfl) ⟨rfl, rfl, Nat.le_of_ble_eq_true rfl, Nat.le_of_ble_eq_true rfl, Nat.le_of_ble_eq_true rfl⟩ (fun n => ?_)
  refine V_icmp_ge (tgt := 36) d_X12_pledgedOnes_9 (by decide) (fun c9 => ?_) (fun c9 => ?_)
  · replace hf := iteT c9 hf
    refine V_less (ls' := [none, some _, none]) ⟨rfl, trivial⟩ ?_
    cases hf
    exact hK.2 _ rfl _
  · replace hf := iteF c9 hf
    refine V_iload_n d_X12_pledgedOnes_12 rfl rfl ?_
    refine V_aload_n d_X12_pledgedOnes_13 rfl rfl ?_
    refine V_iload_n d_X12_pledgedOnes_14 rfl rfl ?_
    obtain ⟨t2, ht2, hf⟩ := ob hf
    refine B_callV1 (s_X12_isPledged hG ht2) k_264 clX12 m_X12_isPledged kv_RX12_296 d_X12_pledgedOnes_15 rfl (Nat.le_of_ble_eq_true rfl) ⟨rfl, rfl, Nat.le_of_ble_eq_true rfl, Nat.le_of_ble_eq_true rfl, Nat.le_of_ble_eq_true rfl⟩ (fun n => ?_)
    have hJj3 : ∀ j3 : Int32, j3 = (if t2 = true then ((1 <<< (l2 &&& 31)) : Int32) else 0) → V G C F_X12_pledgedOnes 28 [some (.ref (G.2.1 + 264)), none, some (.int l2)] [.int j3, .int l1] (pic G μ) n 0 0 := by
      intro j3 ej3
      subst ej3
      refine V_ior d_X12_pledgedOnes_28 ?_
      refine V_istore_n (ls' := [_, _, _]) d_X12_pledgedOnes_29 rfl rfl rfl ?_
      refine V_iinc (v := (l2 + 1)) (ls' := [_, _, _]) d_X12_pledgedOnes_30 rfl (by rw [ic_1]) rfl ?_
      refine V_goto (tgt := 4) d_X12_pledgedOnes_33 (by decide) ?_
      refine V_less (ls' := [some _, some _, some _]) ⟨rfl, rfl, rfl, trivial⟩ ?_
      cases hf
      exact hK.1 _ rfl _
    refine V_if_eq (tgt := 27) d_X12_pledgedOnes_18 (by decide) (fun c18 => ?_) (fun c18 => ?_)
    · refine V_iconst (v := 0) d_X12_pledgedOnes_27 ic_0 ?_
      refine V_less (ls' := [some _, none, some _]) ⟨rfl, rfl, trivial⟩ ?_
      exact hJj3 0 (by rw [if_neg (b2i_nt (b2i_eq0 c18))])
    · refine V_iconst (v := 1) d_X12_pledgedOnes_21 ic_1 ?_
      refine V_iload_n d_X12_pledgedOnes_22 rfl rfl ?_
      refine V_ishl d_X12_pledgedOnes_23 ?_
      refine V_goto (tgt := 28) d_X12_pledgedOnes_24 (by decide) ?_
      refine V_less (ls' := [some _, none, some _]) ⟨rfl, rfl, trivial⟩ ?_
      exact hJj3 (1 <<< (l2 &&& 31)) (by rw [if_pos (b2i_ne0 c18)])
theorem s_X12_pledgedOnes_j36 {G : Gl} (hG : G.1.stackTraces = false) {C : Cx} {n : Nat} {μ : Mem} {l1 : Int32} {r : Int32} (hf : f_X12_pledgedOnes_j36 μ l1 = some r) (hK : FinR G C F_X12_pledgedOnes (some .int) (some (.int r)) μ) : V G C F_X12_pledgedOnes 36 [none, some (.int l1), none] [] (pic G μ) n 0 0 := by
  unfold f_X12_pledgedOnes_j36 at hf
  refine V_iload_n d_X12_pledgedOnes_36 rfl rfl ?_
  cases hf
  exact R_i hK d_X12_pledgedOnes_37 (Nat.le_of_ble_eq_true rfl) (Nat.le_of_ble_eq_true rfl)
theorem s_X12_pledgedOnes_l4 {G : Gl} (hG : G.1.stackTraces = false) {C : Cx} {n : Nat} {μ : Mem} {l1 : Int32} {l2 : Int32} {r : Int32} (hf : f_X12_pledgedOnes_l4 μ l1 l2 = some r) (hK : FinR G C F_X12_pledgedOnes (some .int) (some (.int r)) μ) : V G C F_X12_pledgedOnes 4 [some (.ref (G.2.1 + 264)), some (.int l1), some (.int l2)] [] (pic G μ) n 0 0 := by
  unfold f_X12_pledgedOnes_l4 at hf
  obtain ⟨t, hl, hf⟩ := ob hf
  refine loopV (P := fun z => ∀ n, V G C F_X12_pledgedOnes 4 [some (.ref (G.2.1 + 264)), some (.int z.1), some (.int z.2)] [] (pic G μ) n 0 0) (t := t) ?_ _ _ hl n
  intro z y' hy hI hT n
  refine s_X12_pledgedOnes_b4 hG hy ⟨hI, fun x9 ex => ?_⟩
  have ex2 := hT x9 ex
  subst ex2
  intro n
  exact s_X12_pledgedOnes_j36 hG hf hK
theorem s_X12_pledgedOnes_e {G : Gl} (hG : G.1.stackTraces = false) {C : Cx} {n : Nat} {μ : Mem}  {r : Int32} (hf : f_X12_pledgedOnes μ = some r) (hK : FinR G C F_X12_pledgedOnes (some .int) (some (.int r)) μ) : V G C F_X12_pledgedOnes 0 [some (.ref (G.2.1 + 264)), none, none] [] (pic G μ) n 0 0 := by
  unfold f_X12_pledgedOnes at hf
  refine V_iconst (v := 0) d_X12_pledgedOnes_0 ic_0 ?_
  refine V_istore_n (ls' := [_, _, _]) d_X12_pledgedOnes_1 rfl rfl rfl ?_
  refine V_iconst (v := 0) d_X12_pledgedOnes_2 ic_0 ?_
  refine V_istore_n (ls' := [_, _, _]) d_X12_pledgedOnes_3 rfl rfl rfl ?_
  refine V_less (ls' := [some _, some _, some _]) ⟨rfl, rfl, rfl, trivial⟩ ?_
  exact s_X12_pledgedOnes_l4 hG hf hK
theorem s_X12_pledgedOnes {G : Gl} (hG : G.1.stackTraces = false) {μ : Mem} {r : Int32} (hf : f_X12_pledgedOnes μ = some r) : Rt G yX12_pledgedOnes F_X12_pledgedOnes (some .int) [.ref (G.2.1 + 264)] μ (some (.int r)) μ := fun n => Sd.of hG ⟨by decide +kernel, rfl, rfl⟩ rfl (Nat.le_of_ble_eq_true rfl) rfl (fun C hK => s_X12_pledgedOnes_e hG hf hK)
theorem d_X12_shareOf_0 : decode cX12_shareOf 0 = .ok (.aload_n 0, 1) := by decide +kernel
theorem d_X12_shareOf_1 : decode cX12_shareOf 1 = .ok (.invokevirtual 302, 3) := by decide +kernel
theorem d_X12_shareOf_4 : decode cX12_shareOf 4 = .ok (.istore_n 2, 1) := by decide +kernel
theorem d_X12_shareOf_5 : decode cX12_shareOf 5 = .ok (.iload_n 2, 1) := by decide +kernel
theorem d_X12_shareOf_6 : decode cX12_shareOf 6 = .ok (.ifCond .ne 7, 3) := by decide +kernel
theorem d_X12_shareOf_9 : decode cX12_shareOf 9 = .ok (.iconst 0, 1) := by decide +kernel
theorem d_X12_shareOf_10 : decode cX12_shareOf 10 = .ok (.goto 21, 3) := by decide +kernel
theorem d_X12_shareOf_13 : decode cX12_shareOf 13 = .ok (.bipush 100, 2) := by decide +kernel
theorem d_X12_shareOf_15 : decode cX12_shareOf 15 = .ok (.iload_n 2, 1) := by decide +kernel
theorem d_X12_shareOf_16 : decode cX12_shareOf 16 = .ok (.aload_n 0, 1) := by decide +kernel
theorem d_X12_shareOf_17 : decode cX12_shareOf 17 = .ok (.iload_n 1, 1) := by decide +kernel
theorem d_X12_shareOf_18 : decode cX12_shareOf 18 = .ok (.invokevirtual 269, 3) := by decide +kernel
theorem d_X12_shareOf_21 : decode cX12_shareOf 21 = .ok (.iand, 1) := by decide +kernel
theorem d_X12_shareOf_22 : decode cX12_shareOf 22 = .ok (.invokestatic 272, 3) := by decide +kernel
theorem d_X12_shareOf_25 : decode cX12_shareOf 25 = .ok (.imul, 1) := by decide +kernel
theorem d_X12_shareOf_26 : decode cX12_shareOf 26 = .ok (.iload_n 2, 1) := by decide +kernel
theorem d_X12_shareOf_27 : decode cX12_shareOf 27 = .ok (.invokestatic 272, 3) := by decide +kernel
theorem d_X12_shareOf_30 : decode cX12_shareOf 30 = .ok (.idiv, 1) := by decide +kernel
theorem d_X12_shareOf_31 : decode cX12_shareOf 31 = .ok (.ireturn, 1) := by decide +kernel
theorem s_X12_shareOf_j31 {G : Gl} (hG : G.1.stackTraces = false) {C : Cx} {n : Nat} {μ : Mem} {k0 : Int32} {r : Int32} (hf : f_X12_shareOf_j31 μ k0 = some r) (hK : FinR G C F_X12_shareOf (some .int) (some (.int r)) μ) : V G C F_X12_shareOf 31 [none, none, none] [.int k0] (pic G μ) n 0 0 := by
  unfold f_X12_shareOf_j31 at hf
  cases hf
  exact R_i hK d_X12_shareOf_31 (Nat.le_of_ble_eq_true rfl) (Nat.le_of_ble_eq_true rfl)
theorem s_X12_shareOf_e {G : Gl} (hG : G.1.stackTraces = false) {C : Cx} {n : Nat} {μ : Mem} {p1 : Int32} {r : Int32} (hf : f_X12_shareOf μ p1 = some r) (hK : FinR G C F_X12_shareOf (some .int) (some (.int r)) μ) : V G C F_X12_shareOf 0 [some (.ref (G.2.1 + 264)), some (.int p1), none] [] (pic G μ) n 0 0 := by
  unfold f_X12_shareOf at hf
  refine V_aload_n d_X12_shareOf_0 rfl rfl ?_
  obtain ⟨t1, ht1, hf⟩ := ob hf
  refine B_callV1 (s_X12_lostOnes hG ht1) k_264 clX12 m_X12_lostOnes kv_RX12_302 d_X12_shareOf_1 rfl (Nat.le_of_ble_eq_true rfl) ⟨rfl, rfl, Nat.le_of_ble_eq_true rfl, Nat.le_of_ble_eq_true rfl, Nat.le_of_ble_eq_true rfl⟩ (fun n => ?_)
  refine V_istore_n (ls' := [_, _, _]) d_X12_shareOf_4 rfl rfl rfl ?_
  refine V_iload_n d_X12_shareOf_5 rfl rfl ?_
  refine V_if_ne (tgt := 13) d_X12_shareOf_6 (by decide) (fun c6 => ?_) (fun c6 => ?_)
  · replace hf := iteF c6 hf
    refine V_bipush (v := 100) d_X12_shareOf_13 bp_100 ?_
    refine V_iload_n d_X12_shareOf_15 rfl rfl ?_
    refine V_aload_n d_X12_shareOf_16 rfl rfl ?_
    refine V_iload_n d_X12_shareOf_17 rfl rfl ?_
    obtain ⟨t2, ht2, hf⟩ := ob hf
    refine B_callV1 (s_X12_heldBy hG ht2) k_264 clX12 m_X12_heldBy kv_RX12_269 d_X12_shareOf_18 rfl (Nat.le_of_ble_eq_true rfl) ⟨rfl, rfl, Nat.le_of_ble_eq_true rfl, Nat.le_of_ble_eq_true rfl, Nat.le_of_ble_eq_true rfl⟩ (fun n => ?_)
    refine V_iand d_X12_shareOf_21 ?_
    obtain ⟨t3, ht3, hf⟩ := ob hf
    refine B_callS1 (s_J6_bitCount_0f7a4 hG ht3) m_J6_bitCount_0f7a4 ks_RX12_272 d_X12_shareOf_22 rfl (Nat.le_of_ble_eq_true rfl) ⟨rfl, rfl, Nat.le_of_ble_eq_true rfl, Nat.le_of_ble_eq_true rfl, Nat.le_of_ble_eq_true rfl⟩ (fun n => ?_)
    refine V_imul d_X12_shareOf_25 ?_
    refine V_iload_n d_X12_shareOf_26 rfl rfl ?_
    obtain ⟨t4, ht4, hf⟩ := ob hf
    refine B_callS1 (s_J6_bitCount_0f7a4 hG ht4) m_J6_bitCount_0f7a4 ks_RX12_272 d_X12_shareOf_27 rfl (Nat.le_of_ble_eq_true rfl) ⟨rfl, rfl, Nat.le_of_ble_eq_true rfl, Nat.le_of_ble_eq_true rfl, Nat.le_of_ble_eq_true rfl⟩ (fun n => ?_)
    obtain ⟨t5, ht5, hf⟩ := ob hf
    obtain ⟨gt5, ht5⟩ := dv_some ht5
    refine V_idiv d_X12_shareOf_30 gt5 ?_
    rw [ht5]
    refine V_less (ls' := [none, none, none]) trivial ?_
    exact s_X12_shareOf_j31 hG hf hK
  · replace hf := iteT c6 hf
    refine V_iconst (v := 0) d_X12_shareOf_9 ic_0 ?_
    refine V_goto (tgt := 31) d_X12_shareOf_10 (by decide) ?_
    refine V_less (ls' := [none, none, none]) trivial ?_
    exact s_X12_shareOf_j31 hG hf hK
theorem s_X12_shareOf {G : Gl} (hG : G.1.stackTraces = false) {μ : Mem} {p1 : Int32} {r : Int32} (hf : f_X12_shareOf μ p1 = some r) : Rt G yX12_shareOf F_X12_shareOf (some .int) [.ref (G.2.1 + 264), .int p1] μ (some (.int r)) μ := fun n => Sd.of hG ⟨by decide +kernel, rfl, rfl⟩ rfl (Nat.le_of_ble_eq_true rfl) rfl (fun C hK => s_X12_shareOf_e hG hf hK)
theorem d_X12_person_0 : decode cX12_person 0 = .ok (.aload_n 0, 1) := by decide +kernel
theorem d_X12_person_1 : decode cX12_person 1 = .ok (.iconst 0, 1) := by decide +kernel
theorem d_X12_person_2 : decode cX12_person 2 = .ok (.putfield 3, 3) := by decide +kernel
theorem d_X12_person_5 : decode cX12_person 5 = .ok (.aload_n 0, 1) := by decide +kernel
theorem d_X12_person_6 : decode cX12_person 6 = .ok (.aload_n 0, 1) := by decide +kernel
theorem d_X12_person_7 : decode cX12_person 7 = .ok (.iload_n 1, 1) := by decide +kernel
theorem d_X12_person_8 : decode cX12_person 8 = .ok (.invokevirtual 305, 3) := by decide +kernel
theorem d_X12_person_11 : decode cX12_person 11 = .ok (.iconst 1, 1) := by decide +kernel
theorem d_X12_person_12 : decode cX12_person 12 = .ok (.invokevirtual 263, 3) := by decide +kernel
theorem d_X12_person_15 : decode cX12_person 15 = .ok (.ifCond .ne 26, 3) := by decide +kernel
theorem d_X12_person_18 : decode cX12_person 18 = .ok (.aload_n 0, 1) := by decide +kernel
theorem d_X12_person_19 : decode cX12_person 19 = .ok (.iload_n 2, 1) := by decide +kernel
theorem d_X12_person_20 : decode cX12_person 20 = .ok (.iconst 0, 1) := by decide +kernel
theorem d_X12_person_21 : decode cX12_person 21 = .ok (.bipush 10, 2) := by decide +kernel
theorem d_X12_person_23 : decode cX12_person 23 = .ok (.invokestatic 73, 3) := by decide +kernel
theorem d_X12_person_26 : decode cX12_person 26 = .ok (.ifCond .ne 7, 3) := by decide +kernel
theorem d_X12_person_29 : decode cX12_person 29 = .ok (.iconst 1, 1) := by decide +kernel
theorem d_X12_person_30 : decode cX12_person 30 = .ok (.goto 4, 3) := by decide +kernel
theorem d_X12_person_33 : decode cX12_person 33 = .ok (.iconst 0, 1) := by decide +kernel
theorem d_X12_person_34 : decode cX12_person 34 = .ok (.iconst 2, 1) := by decide +kernel
theorem d_X12_person_35 : decode cX12_person 35 = .ok (.invokevirtual 263, 3) := by decide +kernel
theorem d_X12_person_38 : decode cX12_person 38 = .ok (.ifCond .eq 5, 3) := by decide +kernel
theorem d_X12_person_41 : decode cX12_person 41 = .ok (.iconst 0, 1) := by decide +kernel
theorem d_X12_person_42 : decode cX12_person 42 = .ok (.ireturn, 1) := by decide +kernel
theorem d_X12_person_43 : decode cX12_person 43 = .ok (.iload_n 2, 1) := by decide +kernel
theorem d_X12_person_44 : decode cX12_person 44 = .ok (.tableswitch 117 5 10 #[40, 74, 80, 86, 92, 111], 40) := by decide +kernel
theorem d_X12_person_84 : decode cX12_person 84 = .ok (.aload_n 0, 1) := by decide +kernel
theorem d_X12_person_85 : decode cX12_person 85 = .ok (.iconst 2, 1) := by decide +kernel
theorem d_X12_person_86 : decode cX12_person 86 = .ok (.iload_n 1, 1) := by decide +kernel
theorem d_X12_person_87 : decode cX12_person 87 = .ok (.imul, 1) := by decide +kernel
theorem d_X12_person_88 : decode cX12_person 88 = .ok (.invokevirtual 138, 3) := by decide +kernel
theorem d_X12_person_91 : decode cX12_person 91 = .ok (.ifCond .eq 7, 3) := by decide +kernel
theorem d_X12_person_94 : decode cX12_person 94 = .ok (.iconst 0, 1) := by decide +kernel
theorem d_X12_person_95 : decode cX12_person 95 = .ok (.goto 4, 3) := by decide +kernel
theorem d_X12_person_98 : decode cX12_person 98 = .ok (.iconst 1, 1) := by decide +kernel
theorem d_X12_person_99 : decode cX12_person 99 = .ok (.aload_n 0, 1) := by decide +kernel
theorem d_X12_person_100 : decode cX12_person 100 = .ok (.iconst 2, 1) := by decide +kernel
theorem d_X12_person_101 : decode cX12_person 101 = .ok (.iload_n 1, 1) := by decide +kernel
theorem d_X12_person_102 : decode cX12_person 102 = .ok (.imul, 1) := by decide +kernel
theorem d_X12_person_103 : decode cX12_person 103 = .ok (.iconst 1, 1) := by decide +kernel
theorem d_X12_person_104 : decode cX12_person 104 = .ok (.iadd, 1) := by decide +kernel
theorem d_X12_person_105 : decode cX12_person 105 = .ok (.invokevirtual 138, 3) := by decide +kernel
theorem d_X12_person_108 : decode cX12_person 108 = .ok (.ifCond .eq 7, 3) := by decide +kernel
theorem d_X12_person_111 : decode cX12_person 111 = .ok (.iconst 0, 1) := by decide +kernel
theorem d_X12_person_112 : decode cX12_person 112 = .ok (.goto 4, 3) := by decide +kernel
theorem d_X12_person_115 : decode cX12_person 115 = .ok (.iconst 2, 1) := by decide +kernel
theorem d_X12_person_116 : decode cX12_person 116 = .ok (.iadd, 1) := by decide +kernel
theorem d_X12_person_117 : decode cX12_person 117 = .ok (.ireturn, 1) := by decide +kernel
theorem d_X12_person_118 : decode cX12_person 118 = .ok (.aload_n 0, 1) := by decide +kernel
theorem d_X12_person_119 : decode cX12_person 119 = .ok (.iload_n 1, 1) := by decide +kernel
theorem d_X12_person_120 : decode cX12_person 120 = .ok (.invokevirtual 269, 3) := by decide +kernel
theorem d_X12_person_123 : decode cX12_person 123 = .ok (.ireturn, 1) := by decide +kernel
theorem d_X12_person_124 : decode cX12_person 124 = .ok (.aload_n 0, 1) := by decide +kernel
theorem d_X12_person_125 : decode cX12_person 125 = .ok (.iload_n 1, 1) := by decide +kernel
theorem d_X12_person_126 : decode cX12_person 126 = .ok (.invokevirtual 308, 3) := by decide +kernel
theorem d_X12_person_129 : decode cX12_person 129 = .ok (.ireturn, 1) := by decide +kernel
theorem d_X12_person_130 : decode cX12_person 130 = .ok (.aload_n 0, 1) := by decide +kernel
theorem d_X12_person_131 : decode cX12_person 131 = .ok (.iload_n 1, 1) := by decide +kernel
theorem d_X12_person_132 : decode cX12_person 132 = .ok (.invokevirtual 311, 3) := by decide +kernel
theorem d_X12_person_135 : decode cX12_person 135 = .ok (.ireturn, 1) := by decide +kernel
theorem d_X12_person_136 : decode cX12_person 136 = .ok (.aload_n 0, 1) := by decide +kernel
theorem d_X12_person_137 : decode cX12_person 137 = .ok (.iload_n 1, 1) := by decide +kernel
theorem d_X12_person_138 : decode cX12_person 138 = .ok (.iconst 0, 1) := by decide +kernel
theorem d_X12_person_139 : decode cX12_person 139 = .ok (.invokevirtual 84, 3) := by decide +kernel
theorem d_X12_person_142 : decode cX12_person 142 = .ok (.aload_n 0, 1) := by decide +kernel
theorem d_X12_person_143 : decode cX12_person 143 = .ok (.iload_n 1, 1) := by decide +kernel
theorem d_X12_person_144 : decode cX12_person 144 = .ok (.invokevirtual 311, 3) := by decide +kernel
theorem d_X12_person_147 : decode cX12_person 147 = .ok (.iadd, 1) := by decide +kernel
theorem d_X12_person_148 : decode cX12_person 148 = .ok (.aload_n 0, 1) := by decide +kernel
theorem d_X12_person_149 : decode cX12_person 149 = .ok (.iload_n 1, 1) := by decide +kernel
theorem d_X12_person_150 : decode cX12_person 150 = .ok (.invokevirtual 308, 3) := by decide +kernel
theorem d_X12_person_153 : decode cX12_person 153 = .ok (.isub, 1) := by decide +kernel
theorem d_X12_person_154 : decode cX12_person 154 = .ok (.ireturn, 1) := by decide +kernel
theorem d_X12_person_155 : decode cX12_person 155 = .ok (.aload_n 0, 1) := by decide +kernel
theorem d_X12_person_156 : decode cX12_person 156 = .ok (.iload_n 1, 1) := by decide +kernel
theorem d_X12_person_157 : decode cX12_person 157 = .ok (.invokevirtual 314, 3) := by decide +kernel
theorem d_X12_person_160 : decode cX12_person 160 = .ok (.ireturn, 1) := by decide +kernel
theorem d_X12_person_161 : decode cX12_person 161 = .ok (.aload_n 0, 1) := by decide +kernel
theorem d_X12_person_162 : decode cX12_person 162 = .ok (.iload_n 1, 1) := by decide +kernel
theorem d_X12_person_163 : decode cX12_person 163 = .ok (.iload_n 2, 1) := by decide +kernel
theorem d_X12_person_164 : decode cX12_person 164 = .ok (.invokevirtual 84, 3) := by decide +kernel
theorem d_X12_person_167 : decode cX12_person 167 = .ok (.ireturn, 1) := by decide +kernel
theorem s_X12_person_j41 {G : Gl} (hG : G.1.stackTraces = false) {C : Cx} {n : Nat} {μ : Mem}  {r : (Int32 × Mem)} (hf : f_X12_person_j41 μ = some r) (hK : FinR G C F_X12_person (some .int) (some (.int r.1)) r.2) : V G C F_X12_person 41 [none, none, none] [] (pic G μ) n 0 0 := by
  unfold f_X12_person_j41 at hf
  refine V_iconst (v := 0) d_X12_person_41 ic_0 ?_
  cases hf
  exact R_i hK d_X12_person_42 (Nat.le_of_ble_eq_true rfl) (Nat.le_of_ble_eq_true rfl)
theorem s_X12_person_e {G : Gl} (hG : G.1.stackTraces = false) {C : Cx} {n : Nat} {μ : Mem} {p1 : Int32} {p2 : Int32} {r : (Int32 × Mem)} (hf : f_X12_person μ p1 p2 = some r) (hK : FinR G C F_X12_person (some .int) (some (.int r.1)) r.2) : V G C F_X12_person 0 [some (.ref (G.2.1 + 264)), some (.int p1), some (.int p2)] [] (pic G μ) n 0 0 := by
  unfold f_X12_person at hf
  refine V_aload_n d_X12_person_0 rfl rfl ?_
  refine V_iconst (v := 0) d_X12_person_1 ic_0 ?_
  refine B_putI k_264 fl_RX12_3 pt_12_0 (Nat.le_of_ble_eq_true rfl) p_12_0 d_X12_person_2 ?_
  refine V_aload_n d_X12_person_5 rfl rfl ?_
  refine V_aload_n d_X12_person_6 rfl rfl ?_
  refine V_iload_n d_X12_person_7 rfl rfl ?_
  obtain ⟨t1, ht1, hf⟩ := ob hf
  refine B_callV1 (s_X12_noPerson hG ht1) k_264 clX12 m_X12_noPerson kv_RX12_305 d_X12_person_8 rfl (Nat.le_of_ble_eq_true rfl) ⟨rfl, rfl, Nat.le_of_ble_eq_true rfl, Nat.le_of_ble_eq_true rfl, Nat.le_of_ble_eq_true rfl⟩ (fun n => ?_)
  refine V_iconst (v := 1) d_X12_person_11 ic_1 ?_
  obtain ⟨q2, hq2, hf⟩ := ob hf
  refine B_callV1 (s_X12_throwsIf hG hq2) k_264 clX12 m_X12_throwsIf kv_RX12_263 d_X12_person_12 rfl (Nat.le_of_ble_eq_true rfl) ⟨rfl, rfl, Nat.le_of_ble_eq_true rfl, Nat.le_of_ble_eq_true rfl, Nat.le_of_ble_eq_true rfl⟩ (fun n => ?_)
  refine V_if_ne (tgt := 41) d_X12_person_15 (by decide) (fun c15 => ?_) (fun c15 => ?_)
  · replace hf := iteT (b2i_ne0 c15) hf
    refine V_less (ls' := [none, none, none]) trivial ?_
    exact s_X12_person_j41 hG hf hK
  · replace hf := iteF (b2i_nt (b2i_eq0 c15)) hf
    refine V_aload_n d_X12_person_18 rfl rfl ?_
    refine V_iload_n d_X12_person_19 rfl rfl ?_
    refine V_iconst (v := 0) d_X12_person_20 ic_0 ?_
    refine V_bipush (v := 10) d_X12_person_21 bp_10 ?_
    obtain ⟨t3, ht3, hf⟩ := ob hf
    refine B_callS1 (s_X12_in hG ht3) m_X12_in ks_RX12_73 d_X12_person_23 rfl (Nat.le_of_ble_eq_true rfl) ⟨rfl, rfl, Nat.le_of_ble_eq_true rfl, Nat.le_of_ble_eq_true rfl, Nat.le_of_ble_eq_true rfl⟩ (fun n => ?_)
    have hJj4 : ∀ j4 : Bool, j4 = (if t3 = true then (false : Bool) else true) → V G C F_X12_person 34 [some (.ref (G.2.1 + 264)), some (.int p1), some (.int p2)] [.int (b2i j4), .ref (G.2.1 + 264)] (pic G q2.2) n 0 0 := by
      intro j4 ej4
      subst ej4
      refine V_iconst (v := 2) d_X12_person_34 ic_2 ?_
      obtain ⟨q5, hq5, hf⟩ := ob hf
      refine B_callV1 (s_X12_throwsIf hG hq5) k_264 clX12 m_X12_throwsIf kv_RX12_263 d_X12_person_35 rfl (Nat.le_of_ble_eq_true rfl) ⟨rfl, rfl, Nat.le_of_ble_eq_true rfl, Nat.le_of_ble_eq_true rfl, Nat.le_of_ble_eq_true rfl⟩ (fun n => ?_)
      refine V_if_eq (tgt := 43) d_X12_person_38 (by decide) (fun c38 => ?_) (fun c38 => ?_)
      · replace hf := iteF (b2i_nt (b2i_eq0 c38)) hf
        refine V_iload_n d_X12_person_43 rfl rfl ?_
        by_cases c44_0 : p2 = 5
        · replace hf := iteT c44_0 hf
          refine V_tabC (q := 5) (off := 40) (tgt := 84) d_X12_person_44 c44_0 (by decide) (by decide) ?_
          refine V_aload_n d_X12_person_84 rfl rfl ?_
          refine V_iconst (v := 2) d_X12_person_85 ic_2 ?_
          refine V_iload_n d_X12_person_86 rfl rfl ?_
          refine V_imul d_X12_person_87 ?_
          obtain ⟨t6, ht6, hf⟩ := ob hf
          refine B_callV1 (s_X12_isIn hG ht6) k_264 clX12 m_X12_isIn kv_RX12_138 d_X12_person_88 rfl (Nat.le_of_ble_eq_true rfl) ⟨rfl, rfl, Nat.le_of_ble_eq_true rfl, Nat.le_of_ble_eq_true rfl, Nat.le_of_ble_eq_true rfl⟩ (fun n => ?_)
          have hJj7 : ∀ j7 : Bool, j7 = (if t6 = true then (false : Bool) else true) → V G C F_X12_person 99 [some (.ref (G.2.1 + 264)), some (.int p1), none] [.int (b2i j7)] (pic G q5.2) n 0 0 := by
            intro j7 ej7
            subst ej7
            refine V_aload_n d_X12_person_99 rfl rfl ?_
            refine V_iconst (v := 2) d_X12_person_100 ic_2 ?_
            refine V_iload_n d_X12_person_101 rfl rfl ?_
            refine V_imul d_X12_person_102 ?_
            refine V_iconst (v := 1) d_X12_person_103 ic_1 ?_
            refine V_iadd d_X12_person_104 ?_
            obtain ⟨t8, ht8, hf⟩ := ob hf
            refine B_callV1 (s_X12_isIn hG ht8) k_264 clX12 m_X12_isIn kv_RX12_138 d_X12_person_105 rfl (Nat.le_of_ble_eq_true rfl) ⟨rfl, rfl, Nat.le_of_ble_eq_true rfl, Nat.le_of_ble_eq_true rfl, Nat.le_of_ble_eq_true rfl⟩ (fun n => ?_)
            have hJj9 : ∀ j9 : Int32, j9 = (if t8 = true then (0 : Int32) else 2) → V G C F_X12_person 116 [none, none, none] [.int j9, .int (b2i (if t6 = true then (false : Bool) else true))] (pic G q5.2) n 0 0 := by
              intro j9 ej9
              subst ej9
              refine V_iadd d_X12_person_116 ?_
              cases hf
              exact R_i hK d_X12_person_117 (Nat.le_of_ble_eq_true rfl) (Nat.le_of_ble_eq_true rfl)
            refine V_if_eq (tgt := 115) d_X12_person_108 (by decide) (fun c108 => ?_) (fun c108 => ?_)
            · refine V_iconst (v := 2) d_X12_person_115 ic_2 ?_
              refine V_less (ls' := [none, none, none]) trivial ?_
              exact hJj9 2 (by rw [if_neg (b2i_nt (b2i_eq0 c108))])
            · refine V_iconst (v := 0) d_X12_person_111 ic_0 ?_
              refine V_goto (tgt := 116) d_X12_person_112 (by decide) ?_
              refine V_less (ls' := [none, none, none]) trivial ?_
              exact hJj9 0 (by rw [if_pos (b2i_ne0 c108)])
          refine V_if_eq (tgt := 98) d_X12_person_91 (by decide) (fun c91 => ?_) (fun c91 => ?_)
          · refine V_iconst (v := 1) d_X12_person_98 ic_1 ?_
            refine V_less (ls' := [some _, some _, none]) ⟨rfl, rfl, trivial⟩ ?_
            exact hJj7 true (by rw [if_neg (b2i_nt (b2i_eq0 c91))])
          · refine V_iconst (v := 0) d_X12_person_94 ic_0 ?_
            refine V_goto (tgt := 99) d_X12_person_95 (by decide) ?_
            refine V_less (ls' := [some _, some _, none]) ⟨rfl, rfl, trivial⟩ ?_
            exact hJj7 false (by rw [if_pos (b2i_ne0 c91)])
        replace hf := iteF c44_0 hf
        by_cases c44_1 : p2 = 6
        · replace hf := iteT c44_1 hf
          refine V_tabC (q := 6) (off := 74) (tgt := 118) d_X12_person_44 c44_1 (by decide) (by decide) ?_
          refine V_aload_n d_X12_person_118 rfl rfl ?_
          refine V_iload_n d_X12_person_119 rfl rfl ?_
          obtain ⟨t10, ht10, hf⟩ := ob hf
          refine B_callV1 (s_X12_heldBy hG ht10) k_264 clX12 m_X12_heldBy kv_RX12_269 d_X12_person_120 rfl (Nat.le_of_ble_eq_true rfl) ⟨rfl, rfl, Nat.le_of_ble_eq_true rfl, Nat.le_of_ble_eq_true rfl, Nat.le_of_ble_eq_true rfl⟩ (fun n => ?_)
          cases hf
          exact R_i hK d_X12_person_123 (Nat.le_of_ble_eq_true rfl) (Nat.le_of_ble_eq_true rfl)
        replace hf := iteF c44_1 hf
        by_cases c44_2 : p2 = 7
        · replace hf := iteT c44_2 hf
          refine V_tabC (q := 7) (off := 80) (tgt := 124) d_X12_person_44 c44_2 (by decide) (by decide) ?_
          refine V_aload_n d_X12_person_124 rfl rfl ?_
          refine V_iload_n d_X12_person_125 rfl rfl ?_
          obtain ⟨t11, ht11, hf⟩ := ob hf
          refine B_callV1 (s_X12_owesOf hG ht11) k_264 clX12 m_X12_owesOf kv_RX12_308 d_X12_person_126 rfl (Nat.le_of_ble_eq_true rfl) ⟨rfl, rfl, Nat.le_of_ble_eq_true rfl, Nat.le_of_ble_eq_true rfl, Nat.le_of_ble_eq_true rfl⟩ (fun n => ?_)
          cases hf
          exact R_i hK d_X12_person_129 (Nat.le_of_ble_eq_true rfl) (Nat.le_of_ble_eq_true rfl)
        replace hf := iteF c44_2 hf
        by_cases c44_3 : p2 = 8
        · replace hf := iteT c44_3 hf
          refine V_tabC (q := 8) (off := 86) (tgt := 130) d_X12_person_44 c44_3 (by decide) (by decide) ?_
          refine V_aload_n d_X12_person_130 rfl rfl ?_
          refine V_iload_n d_X12_person_131 rfl rfl ?_
          obtain ⟨t12, ht12, hf⟩ := ob hf
          refine B_callV1 (s_X12_dueTo hG ht12) k_264 clX12 m_X12_dueTo kv_RX12_311 d_X12_person_132 rfl (Nat.le_of_ble_eq_true rfl) ⟨rfl, rfl, Nat.le_of_ble_eq_true rfl, Nat.le_of_ble_eq_true rfl, Nat.le_of_ble_eq_true rfl⟩ (fun n => ?_)
          cases hf
          exact R_i hK d_X12_person_135 (Nat.le_of_ble_eq_true rfl) (Nat.le_of_ble_eq_true rfl)
        replace hf := iteF c44_3 hf
        by_cases c44_4 : p2 = 9
        · replace hf := iteT c44_4 hf
          refine V_tabC (q := 9) (off := 92) (tgt := 136) d_X12_person_44 c44_4 (by decide) (by decide) ?_
          refine V_aload_n d_X12_person_136 rfl rfl ?_
          refine V_iload_n d_X12_person_137 rfl rfl ?_
          refine V_iconst (v := 0) d_X12_person_138 ic_0 ?_
          obtain ⟨t13, ht13, hf⟩ := ob hf
          refine B_callV1 (s_X12_of hG ht13) k_264 clX12 m_X12_of kv_RX12_84 d_X12_person_139 rfl (Nat.le_of_ble_eq_true rfl) ⟨rfl, rfl, Nat.le_of_ble_eq_true rfl, Nat.le_of_ble_eq_true rfl, Nat.le_of_ble_eq_true rfl⟩ (fun n => ?_)
          refine V_aload_n d_X12_person_142 rfl rfl ?_
          refine V_iload_n d_X12_person_143 rfl rfl ?_
          obtain ⟨t14, ht14, hf⟩ := ob hf
          refine B_callV1 (s_X12_dueTo hG ht14) k_264 clX12 m_X12_dueTo kv_RX12_311 d_X12_person_144 rfl (Nat.le_of_ble_eq_true rfl) ⟨rfl, rfl, Nat.le_of_ble_eq_true rfl, Nat.le_of_ble_eq_true rfl, Nat.le_of_ble_eq_true rfl⟩ (fun n => ?_)
          refine V_iadd d_X12_person_147 ?_
          refine V_aload_n d_X12_person_148 rfl rfl ?_
          refine V_iload_n d_X12_person_149 rfl rfl ?_
          obtain ⟨t15, ht15, hf⟩ := ob hf
          refine B_callV1 (s_X12_owesOf hG ht15) k_264 clX12 m_X12_owesOf kv_RX12_308 d_X12_person_150 rfl (Nat.le_of_ble_eq_true rfl) ⟨rfl, rfl, Nat.le_of_ble_eq_true rfl, Nat.le_of_ble_eq_true rfl, Nat.le_of_ble_eq_true rfl⟩ (fun n => ?_)
          refine V_isub d_X12_person_153 ?_
          cases hf
          exact R_i hK d_X12_person_154 (Nat.le_of_ble_eq_true rfl) (Nat.le_of_ble_eq_true rfl)
        replace hf := iteF c44_4 hf
        by_cases c44_5 : p2 = 10
        · replace hf := iteT c44_5 hf
          refine V_tabC (q := 10) (off := 111) (tgt := 155) d_X12_person_44 c44_5 (by decide) (by decide) ?_
          refine V_aload_n d_X12_person_155 rfl rfl ?_
          refine V_iload_n d_X12_person_156 rfl rfl ?_
          obtain ⟨t16, ht16, hf⟩ := ob hf
          refine B_callV1 (s_X12_shareOf hG ht16) k_264 clX12 m_X12_shareOf kv_RX12_314 d_X12_person_157 rfl (Nat.le_of_ble_eq_true rfl) ⟨rfl, rfl, Nat.le_of_ble_eq_true rfl, Nat.le_of_ble_eq_true rfl, Nat.le_of_ble_eq_true rfl⟩ (fun n => ?_)
          cases hf
          exact R_i hK d_X12_person_160 (Nat.le_of_ble_eq_true rfl) (Nat.le_of_ble_eq_true rfl)
        replace hf := iteF c44_5 hf
        refine V_tabD (ks9 := [5, 6, 7, 8, 9, 10]) (tgt := 161) d_X12_person_44 ⟨c44_0, c44_1, c44_2, c44_3, c44_4, c44_5, trivial⟩ (by decide) (by decide) ?_
        refine V_aload_n d_X12_person_161 rfl rfl ?_
        refine V_iload_n d_X12_person_162 rfl rfl ?_
        refine V_iload_n d_X12_person_163 rfl rfl ?_
        obtain ⟨t17, ht17, hf⟩ := ob hf
        refine B_callV1 (s_X12_of hG ht17) k_264 clX12 m_X12_of kv_RX12_84 d_X12_person_164 rfl (Nat.le_of_ble_eq_true rfl) ⟨rfl, rfl, Nat.le_of_ble_eq_true rfl, Nat.le_of_ble_eq_true rfl, Nat.le_of_ble_eq_true rfl⟩ (fun n => ?_)
        cases hf
        exact R_i hK d_X12_person_167 (Nat.le_of_ble_eq_true rfl) (Nat.le_of_ble_eq_true rfl)
      · replace hf := iteT (b2i_ne0 c38) hf
        refine V_less (ls' := [none, none, none]) trivial ?_
        exact s_X12_person_j41 hG hf hK
    refine V_if_ne (tgt := 33) d_X12_person_26 (by decide) (fun c26 => ?_) (fun c26 => ?_)
    · refine V_iconst (v := 0) d_X12_person_33 ic_0 ?_
      refine V_less (ls' := [some _, some _, some _]) ⟨rfl, rfl, rfl, trivial⟩ ?_
      exact hJj4 false (by rw [if_pos (b2i_ne0 c26)])
    · refine V_iconst (v := 1) d_X12_person_29 ic_1 ?_
      refine V_goto (tgt := 34) d_X12_person_30 (by decide) ?_
      refine V_less (ls' := [some _, some _, some _]) ⟨rfl, rfl, rfl, trivial⟩ ?_
      exact hJj4 true (by rw [if_neg (b2i_nt (b2i_eq0 c26))])
theorem s_X12_person {G : Gl} (hG : G.1.stackTraces = false) {μ : Mem} {p1 : Int32} {p2 : Int32} {r : (Int32 × Mem)} (hf : f_X12_person μ p1 p2 = some r) : Rt G yX12_person F_X12_person (some .int) [.ref (G.2.1 + 264), .int p1, .int p2] μ (some (.int r.1)) r.2 := fun n => Sd.of hG ⟨by decide +kernel, rfl, rfl⟩ rfl (Nat.le_of_ble_eq_true rfl) rfl (fun C hK => s_X12_person_e hG hf hK)
