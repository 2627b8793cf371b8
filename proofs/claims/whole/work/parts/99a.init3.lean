/-! THE MODEL'S CONSTRUCTOR, the number of cells kept (printed by wip/whole/gen99a.py) -/
def Rt3 (G : Gl) (y : MethodName) (F : Fi) (ret : Option FieldType) (args : List Value) (μ : Mem) (r : Option Value) (μ' : Mem) : Prop := ∀ n, Sd G y F (.code y F.2.1 F.2.2.1 ret) args (pic2 G μ) n (fun r' h' n' => r' = r ∧ h' = pic2 G μ' ∧ n' = n) (fun _ _ _ => False)
def FinR3 (G : Gl) (C : Cx) (F : Fi) (ret : Option FieldType) (r : Option Value) (μ : Mem) (n : Nat) : Prop := Fin9 G C F ret (fun r' h' n' => r' = r ∧ h' = pic2 G μ ∧ n' = n) (fun _ _ _ => False)
section Rows3p
variable {G : Gl} {C : Cx} {F F' : Fi} {pc : Nat} {ls ls' : List (Option Value)} {st st0 : List Value} {μ μ' : Mem} {n kc ks : Nat}
theorem B3_callV {y : MethodName} {ret : Option FieldType} {As : List Value} {idx a ci N : Nat} {T : u_T} {r : Option Value} (hM : Rt3 G y F' ret (.ref (G.2.1 + a) :: As) μ r μ') (hk : kdL2[a]? = some (0, ci)) (hc : classes[ci]? = some (y.cls, T, N)) (hm : LkM y F' (.code y F'.2.1 F'.2.2.1 ret) As.length) (hl : LkV F.1 idx y) (hd : decode F.2.1 pc = .ok (.invokevirtual idx, 3)) (hst : As.reverse ++ .ref (G.2.1 + a) :: st = st0) (hw : (st.map fun v => v.category).sum ≤ 8) (hz : F'.2.2.2.2.1 = 0 ∧ F'.2.2.2.2.2.1 = 0 ∧ kc ≤ F.2.2.2.2.1 ∧ ks ≤ F.2.2.2.2.2.1 ∧ F'.2.2.2.1 < F.2.2.2.1) (k : V G C F (pc + 3) ls (r.toList ++ st) (pic2 G μ') n kc ks) : V G C F pc ls st0 (pic2 G μ) n kc ks := by
  obtain ⟨z1, z2, z3, z4, z5⟩ := hz
  refine V_callV (hM n) hm hl hc (pic2_at hk) hd hst hw ⟨z5, by rw [z1]; exact z3, by rw [z2]; exact z4⟩ (fun _ _ _ h => h.elim) (fun r' h' n' h9 => ?_)
  obtain ⟨rfl, rfl, rfl⟩ := h9
  rw [z1, z2]
  exact k
theorem B3_callS {y : MethodName} {ret : Option FieldType} {As : List Value} {idx : Nat} {r : Option Value} (hM : Rt3 G y F' ret As μ r μ') (hm : LkM y F' (.code y F'.2.1 F'.2.2.1 ret) As.length) (hl : LkS F.1 idx y) (hd : decode F.2.1 pc = .ok (.invokestatic idx, 3)) (hst : As.reverse ++ st = st0) (hw : (st.map fun v => v.category).sum ≤ 8) (hz : F'.2.2.2.2.1 = 0 ∧ F'.2.2.2.2.2.1 = 0 ∧ kc ≤ F.2.2.2.2.1 ∧ ks ≤ F.2.2.2.2.2.1 ∧ F'.2.2.2.1 < F.2.2.2.1) (k : V G C F (pc + 3) ls (r.toList ++ st) (pic2 G μ') n kc ks) : V G C F pc ls st0 (pic2 G μ) n kc ks := by
  obtain ⟨z1, z2, z3, z4, z5⟩ := hz
  refine V_callS (hM n) hm hl hd hst hw ⟨z5, by rw [z1]; exact z3, by rw [z2]; exact z4⟩ (fun _ _ _ h => h.elim) (fun r' h' n' h9 => ?_)
  obtain ⟨rfl, rfl, rfl⟩ := h9
  rw [z1, z2]
  exact k
theorem R3_i {v : Int32} (hK : FinR3 G C F (some .int) (some (.int v)) μ n) (hd : decode F.2.1 pc = .ok (.ireturn, 1)) (h1 : kc ≤ F.2.2.2.2.1) (h2 : ks ≤ F.2.2.2.2.2.1) : V G C F pc ls [.int v] (pic2 G μ) n kc ks := V_iret hK hd h1 h2 ⟨rfl, rfl, rfl⟩
theorem R3_v (hK : FinR3 G C F none none μ n) (hd : decode F.2.1 pc = .ok (.return_, 1)) (h1 : kc ≤ F.2.2.2.2.1) (h2 : ks ≤ F.2.2.2.2.2.1) : V G C F pc ls [] (pic2 G μ) n kc ks := V_vret hK hd h1 h2 ⟨rfl, rfl, rfl⟩
theorem B3_callV1 {y : MethodName} {ret : Option FieldType} {As : List Value} {idx a ci N : Nat} {T : u_T} {r : Value} (hM : Rt3 G y F' ret (.ref (G.2.1 + a) :: As) μ (some r) μ') (hk : kdL2[a]? = some (0, ci)) (hc : classes[ci]? = some (y.cls, T, N)) (hm : LkM y F' (.code y F'.2.1 F'.2.2.1 ret) As.length) (hl : LkV F.1 idx y) (hd : decode F.2.1 pc = .ok (.invokevirtual idx, 3)) (hst : As.reverse ++ .ref (G.2.1 + a) :: st = st0) (hw : (st.map fun v => v.category).sum ≤ 8) (hz : F'.2.2.2.2.1 = 0 ∧ F'.2.2.2.2.2.1 = 0 ∧ kc ≤ F.2.2.2.2.1 ∧ ks ≤ F.2.2.2.2.2.1 ∧ F'.2.2.2.1 < F.2.2.2.1) (k : V G C F (pc + 3) ls (r :: st) (pic2 G μ') n kc ks) : V G C F pc ls st0 (pic2 G μ) n kc ks := B3_callV hM hk hc hm hl hd hst hw hz k
theorem B3_callV0 {y : MethodName} {ret : Option FieldType} {As : List Value} {idx a ci N : Nat} {T : u_T} (hM : Rt3 G y F' ret (.ref (G.2.1 + a) :: As) μ none μ') (hk : kdL2[a]? = some (0, ci)) (hc : classes[ci]? = some (y.cls, T, N)) (hm : LkM y F' (.code y F'.2.1 F'.2.2.1 ret) As.length) (hl : LkV F.1 idx y) (hd : decode F.2.1 pc = .ok (.invokevirtual idx, 3)) (hst : As.reverse ++ .ref (G.2.1 + a) :: st = st0) (hw : (st.map fun v => v.category).sum ≤ 8) (hz : F'.2.2.2.2.1 = 0 ∧ F'.2.2.2.2.2.1 = 0 ∧ kc ≤ F.2.2.2.2.1 ∧ ks ≤ F.2.2.2.2.2.1 ∧ F'.2.2.2.1 < F.2.2.2.1) (k : V G C F (pc + 3) ls st (pic2 G μ') n kc ks) : V G C F pc ls st0 (pic2 G μ) n kc ks := B3_callV hM hk hc hm hl hd hst hw hz k
theorem B3_callS1 {y : MethodName} {ret : Option FieldType} {As : List Value} {idx : Nat} {r : Value} (hM : Rt3 G y F' ret As μ (some r) μ') (hm : LkM y F' (.code y F'.2.1 F'.2.2.1 ret) As.length) (hl : LkS F.1 idx y) (hd : decode F.2.1 pc = .ok (.invokestatic idx, 3)) (hst : As.reverse ++ st = st0) (hw : (st.map fun v => v.category).sum ≤ 8) (hz : F'.2.2.2.2.1 = 0 ∧ F'.2.2.2.2.2.1 = 0 ∧ kc ≤ F.2.2.2.2.1 ∧ ks ≤ F.2.2.2.2.2.1 ∧ F'.2.2.2.1 < F.2.2.2.1) (k : V G C F (pc + 3) ls (r :: st) (pic2 G μ') n kc ks) : V G C F pc ls st0 (pic2 G μ) n kc ks := B3_callS hM hm hl hd hst hw hz k
end Rows3p
theorem s3_X12_laceAt_e {G : Gl} (hG : G.1.stackTraces = false) {C : Cx} {n : Nat} {μ : Mem} {p0 : Int32} {p1 : Int32} {r : Int32} (hf : f_X12_laceAt μ p0 p1 = some r) (hK : FinR3 G C F_X12_laceAt (some .int) (some (.int r)) μ n) : V G C F_X12_laceAt 0 [some (.int p0), some (.int p1)] [] (pic2 G μ) n 0 0 := by
  unfold f_X12_laceAt at hf
  refine V_bipush (v := 58) d_X12_laceAt_0 bp_58 ?_
  refine V_bipush (v := 6) d_X12_laceAt_2 bp_6 ?_
  refine V_iload_n d_X12_laceAt_4 rfl rfl ?_
  refine V_imul d_X12_laceAt_5 ?_
  refine V_iadd d_X12_laceAt_6 ?_
  refine V_iload_n d_X12_laceAt_7 rfl rfl ?_
  refine V_iadd d_X12_laceAt_8 ?_
  cases hf
  exact R3_i hK d_X12_laceAt_9 (Nat.le_of_ble_eq_true rfl) (Nat.le_of_ble_eq_true rfl)
theorem s3_X12_laceAt {G : Gl} (hG : G.1.stackTraces = false) {μ : Mem} {p0 : Int32} {p1 : Int32} {r : Int32} (hf : f_X12_laceAt μ p0 p1 = some r) : Rt3 G yX12_laceAt F_X12_laceAt (some .int) [.int p0, .int p1] μ (some (.int r)) μ := fun n => Sd.of hG ⟨by decide +kernel, rfl, rfl⟩ rfl (Nat.le_of_ble_eq_true rfl) rfl (fun C hK => s3_X12_laceAt_e hG hf hK)
theorem s3_X12_tellsLace_e {G : Gl} (hG : G.1.stackTraces = false) {C : Cx} {n : Nat} {μ : Mem} {p1 : Int32} {p2 : Int32} {p3 : Int32} {p4 : Int32} {p5 : Int32} {p6 : Int32} {r : Mem} (hf : f_X12_tellsLace μ p1 p2 p3 p4 p5 p6 = some r) (hK : FinR3 G C F_X12_tellsLace none none r n) : V G C F_X12_tellsLace 0 [some (.ref (G.2.1 + 264)), some (.int p1), some (.int p2), some (.int p3), some (.int p4), some (.int p5), some (.int p6)] [] (pic2 G μ) n 0 0 := by
  unfold f_X12_tellsLace at hf
  refine V_aload_n d_X12_tellsLace_0 rfl rfl ?_
  refine B2_get k2_264 fl_RX12_13 d_X12_tellsLace_1 g_12_1 ?_
  refine V_iload_n d_X12_tellsLace_4 rfl rfl ?_
  refine V_iconst (v := 0) d_X12_tellsLace_5 ic_0 ?_
  obtain ⟨t1, ht1, hf⟩ := ob hf
  refine B3_callS1 (s3_X12_laceAt hG ht1) m_X12_laceAt ks_RX12_67 d_X12_tellsLace_6 rfl (Nat.le_of_ble_eq_true rfl) ⟨rfl, rfl, Nat.le_of_ble_eq_true rfl, Nat.le_of_ble_eq_true rfl, Nat.le_of_ble_eq_true rfl⟩ ?_
  refine V_iload_n d_X12_tellsLace_9 rfl rfl ?_
  obtain ⟨μ2, hμ2, hf⟩ := ob hf
  refine B2_iast k2_265 hμ2 d_X12_tellsLace_10 ?_
  refine V_aload_n d_X12_tellsLace_11 rfl rfl ?_
  refine B2_get k2_264 fl_RX12_13 d_X12_tellsLace_12 g_12_1 ?_
  refine V_iload_n d_X12_tellsLace_15 rfl rfl ?_
  refine V_iconst (v := 1) d_X12_tellsLace_16 ic_1 ?_
  obtain ⟨t3, ht3, hf⟩ := ob hf
  refine B3_callS1 (s3_X12_laceAt hG ht3) m_X12_laceAt ks_RX12_67 d_X12_tellsLace_17 rfl (Nat.le_of_ble_eq_true rfl) ⟨rfl, rfl, Nat.le_of_ble_eq_true rfl, Nat.le_of_ble_eq_true rfl, Nat.le_of_ble_eq_true rfl⟩ ?_
  refine V_iload_n d_X12_tellsLace_20 rfl rfl ?_
  obtain ⟨μ4, hμ4, hf⟩ := ob hf
  refine B2_iast k2_265 hμ4 d_X12_tellsLace_21 ?_
  refine V_aload_n d_X12_tellsLace_22 rfl rfl ?_
  refine B2_get k2_264 fl_RX12_13 d_X12_tellsLace_23 g_12_1 ?_
  refine V_iload_n d_X12_tellsLace_26 rfl rfl ?_
  refine V_iconst (v := 2) d_X12_tellsLace_27 ic_2 ?_
  obtain ⟨t5, ht5, hf⟩ := ob hf
  refine B3_callS1 (s3_X12_laceAt hG ht5) m_X12_laceAt ks_RX12_67 d_X12_tellsLace_28 rfl (Nat.le_of_ble_eq_true rfl) ⟨rfl, rfl, Nat.le_of_ble_eq_true rfl, Nat.le_of_ble_eq_true rfl, Nat.le_of_ble_eq_true rfl⟩ ?_
  refine V_iload d_X12_tellsLace_31 rfl ?_
  obtain ⟨μ6, hμ6, hf⟩ := ob hf
  refine B2_iast k2_265 hμ6 d_X12_tellsLace_33 ?_
  refine V_aload_n d_X12_tellsLace_34 rfl rfl ?_
  refine B2_get k2_264 fl_RX12_13 d_X12_tellsLace_35 g_12_1 ?_
  refine V_iload_n d_X12_tellsLace_38 rfl rfl ?_
  refine V_iconst (v := 3) d_X12_tellsLace_39 ic_3 ?_
  obtain ⟨t7, ht7, hf⟩ := ob hf
  refine B3_callS1 (s3_X12_laceAt hG ht7) m_X12_laceAt ks_RX12_67 d_X12_tellsLace_40 rfl (Nat.le_of_ble_eq_true rfl) ⟨rfl, rfl, Nat.le_of_ble_eq_true rfl, Nat.le_of_ble_eq_true rfl, Nat.le_of_ble_eq_true rfl⟩ ?_
  refine V_iload d_X12_tellsLace_43 rfl ?_
  obtain ⟨μ8, hμ8, hf⟩ := ob hf
  refine B2_iast k2_265 hμ8 d_X12_tellsLace_45 ?_
  refine V_aload_n d_X12_tellsLace_46 rfl rfl ?_
  refine B2_get k2_264 fl_RX12_13 d_X12_tellsLace_47 g_12_1 ?_
  refine V_iload_n d_X12_tellsLace_50 rfl rfl ?_
  refine V_iconst (v := 4) d_X12_tellsLace_51 ic_4 ?_
  obtain ⟨t9, ht9, hf⟩ := ob hf
  refine B3_callS1 (s3_X12_laceAt hG ht9) m_X12_laceAt ks_RX12_67 d_X12_tellsLace_52 rfl (Nat.le_of_ble_eq_true rfl) ⟨rfl, rfl, Nat.le_of_ble_eq_true rfl, Nat.le_of_ble_eq_true rfl, Nat.le_of_ble_eq_true rfl⟩ ?_
  refine V_iload d_X12_tellsLace_55 rfl ?_
  obtain ⟨μ10, hμ10, hf⟩ := ob hf
  refine B2_iast k2_265 hμ10 d_X12_tellsLace_57 ?_
  refine V_aload_n d_X12_tellsLace_58 rfl rfl ?_
  refine B2_get k2_264 fl_RX12_13 d_X12_tellsLace_59 g_12_1 ?_
  refine V_iload_n d_X12_tellsLace_62 rfl rfl ?_
  refine V_iconst (v := 5) d_X12_tellsLace_63 ic_5 ?_
  obtain ⟨t11, ht11, hf⟩ := ob hf
  refine B3_callS1 (s3_X12_laceAt hG ht11) m_X12_laceAt ks_RX12_67 d_X12_tellsLace_64 rfl (Nat.le_of_ble_eq_true rfl) ⟨rfl, rfl, Nat.le_of_ble_eq_true rfl, Nat.le_of_ble_eq_true rfl, Nat.le_of_ble_eq_true rfl⟩ ?_
  refine V_iconst (v := (-1)) d_X12_tellsLace_67 ic_m1 ?_
  obtain ⟨μ12, hμ12, hf⟩ := ob hf
  refine B2_iast k2_265 hμ12 d_X12_tellsLace_68 ?_
  cases hf
  exact R3_v hK d_X12_tellsLace_69 (Nat.le_of_ble_eq_true rfl) (Nat.le_of_ble_eq_true rfl)
theorem s3_X12_tellsLace {G : Gl} (hG : G.1.stackTraces = false) {μ : Mem} {p1 : Int32} {p2 : Int32} {p3 : Int32} {p4 : Int32} {p5 : Int32} {p6 : Int32} {r : Mem} (hf : f_X12_tellsLace μ p1 p2 p3 p4 p5 p6 = some r) : Rt3 G yX12_tellsLace F_X12_tellsLace none [.ref (G.2.1 + 264), .int p1, .int p2, .int p3, .int p4, .int p5, .int p6] μ none r := fun n => Sd.of hG ⟨by decide +kernel, rfl, rfl⟩ rfl (Nat.le_of_ble_eq_true rfl) rfl (fun C hK => s3_X12_tellsLace_e hG hf hK)
theorem s3_X12_comesBack_e {G : Gl} (hG : G.1.stackTraces = false) {C : Cx} {n : Nat} {μ : Mem} {p1 : Int32} {r : Mem} (hf : f_X12_comesBack μ p1 = some r) (hK : FinR3 G C F_X12_comesBack none none r n) : V G C F_X12_comesBack 0 [some (.ref (G.2.1 + 264)), some (.int p1)] [] (pic2 G μ) n 0 0 := by
  unfold f_X12_comesBack at hf
  refine V_aload_n d_X12_comesBack_0 rfl rfl ?_
  refine V_iload_n d_X12_comesBack_1 rfl rfl ?_
  refine V_iconst (v := 0) d_X12_comesBack_2 ic_0 ?_
  refine V_iconst (v := (-1)) d_X12_comesBack_3 ic_m1 ?_
  refine V_iconst (v := 0) d_X12_comesBack_4 ic_0 ?_
  refine V_iconst (v := 0) d_X12_comesBack_5 ic_0 ?_
  refine V_iconst (v := 0) d_X12_comesBack_6 ic_0 ?_
  obtain ⟨q1, hq1, hf⟩ := ob hf
  refine B3_callV0 (s3_X12_tellsLace hG hq1) k2_264 clX12 m_X12_tellsLace kv_RX12_80 d_X12_comesBack_7 rfl (Nat.le_of_ble_eq_true rfl) ⟨rfl, rfl, Nat.le_of_ble_eq_true rfl, Nat.le_of_ble_eq_true rfl, Nat.le_of_ble_eq_true rfl⟩ ?_
  cases hf
  exact R3_v hK d_X12_comesBack_10 (Nat.le_of_ble_eq_true rfl) (Nat.le_of_ble_eq_true rfl)
theorem s3_X12_comesBack {G : Gl} (hG : G.1.stackTraces = false) {μ : Mem} {p1 : Int32} {r : Mem} (hf : f_X12_comesBack μ p1 = some r) : Rt3 G yX12_comesBack F_X12_comesBack none [.ref (G.2.1 + 264), .int p1] μ none r := fun n => Sd.of hG ⟨by decide +kernel, rfl, rfl⟩ rfl (Nat.le_of_ble_eq_true rfl) rfl (fun C hK => s3_X12_comesBack_e hG hf hK)
theorem modLoop3 {G : Gl} (hG : G.1.stackTraces = false) {C : Cx} (hK : Fin9 G C F_X12_init none (fun r9 h9 n9 => r9 = none ∧ h9 = pic2 G (muC 12) ∧ n9 = 275) (fun _ _ _ => False)) : ∀ (d l : Nat), l + d = 12 → V G C F_X12_init 113 [some (.ref (G.2.1 + 264)), some (.int (nI l))] [] (pic2 G (muC l)) 275 10 10605 := by
  intro d
  induction d with
  | zero =>
    intro l hd
    have hl : l = 12 := by omega
    subst hl
    refine V_iload_n d_X12_init_113 rfl rfl ?_
    refine V_bipush (v := 12) d_X12_init_114 (by decide) ?_
    refine V_icmp_ge (tgt := 130) d_X12_init_116 (by decide) (fun _ => ?_) (fun c => absurd (by decide) c)
    exact V_vret hK d_X12_init_130 (Nat.le_of_ble_eq_true rfl) (Nat.le_of_ble_eq_true rfl) ⟨rfl, rfl, rfl⟩
  | succ d ih =>
    intro l hd
    refine V_iload_n d_X12_init_113 rfl rfl ?_
    refine V_bipush (v := 12) d_X12_init_114 (by decide) ?_
    refine V_icmp_ge (tgt := 130) d_X12_init_116 (by decide) (fun c => absurd c (nI_ge (a := l) (b := 12) (by omega) (by decide))) (fun _ => ?_)
    refine V_aload_n d_X12_init_119 rfl rfl ?_
    refine V_iload_n d_X12_init_120 rfl rfl ?_
    refine B3_callV0 (s3_X12_comesBack hG (comesBack_nI (μ := muC l) (l := l) (by omega))) k2_264 clX12 m_X12_comesBack kv_RX12_48 d_X12_init_121 rfl (Nat.le_of_ble_eq_true rfl) ⟨rfl, rfl, Nat.le_of_ble_eq_true rfl, Nat.le_of_ble_eq_true rfl, Nat.le_of_ble_eq_true rfl⟩ ?_
    refine V_iinc (v := nI (l + 1)) (ls' := [_, _]) d_X12_init_124 rfl (by rw [show Int32.ofInt 1 = 1 from by decide]; exact nI_1 l) rfl ?_
    refine V_goto (tgt := 113) d_X12_init_127 (by decide) ?_
    exact ih (l + 1) (by omega)
theorem s3_X12_init {G : Gl} (hG : G.1.stackTraces = false) {h : Hm} (hh : ∀ b, b < 264 → ∀ e, pic G mu0 b = some e → h b = some e) : Sd G yX12_init F_X12_init (.code yX12_init F_X12_init.2.1 F_X12_init.2.2.1 none) [.ref (G.2.1 + 264)] (stg h 264 12 [.int 0, .null, .null, .null, .null, .null, .int 0, .int 0, .null, .int 0, .int 0, .int 0, .int 0, .int 0, .int 0, .null, .int 0, .null, .null, .null] 0 (ar_X12_init G)) 265 (fun r9 h9 n9 => r9 = none ∧ h9 = pic2 G (muC 12) ∧ n9 = 275) (fun _ _ _ => False) := Sd.ofI hG ⟨by decide +kernel, rfl, rfl⟩ rfl rfl (Nat.le_of_ble_eq_true rfl) rfl (fun C hK hI => by
  refine V_n (n' := 264 + 1 + 0) rfl ?_
  refine V_aload_n d_X12_init_0 rfl rfl ?_
  refine V_objI w_1442 w_35 w_36 d_X12_init_1 (Nat.le_of_ble_eq_true rfl) ?_
  refine V_aload_n d_X12_init_4 rfl rfl ?_
  refine V_sipush (v := 2068) d_X12_init_5 (by decide) ?_
  refine CI_arr (k := 0) (len := 2068) hI ⟨⟨by decide, by decide⟩, by decide⟩ w_66 rfl fl_RX12_13 pf_RX12_12_1 d_X12_init_8 d_X12_init_10 (Nat.le_of_ble_eq_true rfl) (Nat.le_of_ble_eq_true rfl) (Nat.le_of_ble_eq_true rfl) ?_
  refine V_aload_n d_X12_init_13 rfl rfl ?_
  refine V_sipush (v := 1219) d_X12_init_14 (by decide) ?_
  refine CI_arr (k := 1) (len := 1219) hI ⟨⟨by decide, by decide⟩, by decide⟩ w_66 rfl fl_RX12_17 pf_RX12_12_2 d_X12_init_17 d_X12_init_19 (Nat.le_of_ble_eq_true rfl) (Nat.le_of_ble_eq_true rfl) (Nat.le_of_ble_eq_true rfl) ?_
  refine V_aload_n d_X12_init_22 rfl rfl ?_
  refine V_sipush (v := 1219) d_X12_init_23 (by decide) ?_
  refine CI_arr (k := 2) (len := 1219) hI ⟨⟨by decide, by decide⟩, by decide⟩ w_66 rfl fl_RX12_20 pf_RX12_12_3 d_X12_init_26 d_X12_init_28 (Nat.le_of_ble_eq_true rfl) (Nat.le_of_ble_eq_true rfl) (Nat.le_of_ble_eq_true rfl) ?_
  refine V_aload_n d_X12_init_31 rfl rfl ?_
  refine V_sipush (v := 370) d_X12_init_32 (by decide) ?_
  refine CI_arr (k := 3) (len := 370) hI ⟨⟨by decide, by decide⟩, by decide⟩ w_66 rfl fl_RX12_23 pf_RX12_12_4 d_X12_init_35 d_X12_init_37 (Nat.le_of_ble_eq_true rfl) (Nat.le_of_ble_eq_true rfl) (Nat.le_of_ble_eq_true rfl) ?_
  refine V_aload_n d_X12_init_40 rfl rfl ?_
  refine V_sipush (v := 4440) d_X12_init_41 (by decide) ?_
  refine CI_arr (k := 4) (len := 4440) hI ⟨⟨by decide, by decide⟩, by decide⟩ w_66 rfl fl_RX12_26 pf_RX12_12_5 d_X12_init_44 d_X12_init_46 (Nat.le_of_ble_eq_true rfl) (Nat.le_of_ble_eq_true rfl) (Nat.le_of_ble_eq_true rfl) ?_
  refine V_aload_n d_X12_init_49 rfl rfl ?_
  refine V_sipush (v := 400) d_X12_init_50 (by decide) ?_
  refine CI_arrB (k := 5) (len := 400) hI ⟨⟨by decide, by decide⟩, by decide⟩ w_891 rfl fl_RX12_29 pf_RX12_12_8 d_X12_init_53 d_X12_init_55 (Nat.le_of_ble_eq_true rfl) (Nat.le_of_ble_eq_true rfl) (Nat.le_of_ble_eq_true rfl) ?_
  refine V_aload_n d_X12_init_58 rfl rfl ?_
  refine V_iconst (v := (-1)) d_X12_init_59 (by decide) ?_
  refine CI_put fl_RX12_33 pt_12_14 d_X12_init_60 rfl rfl (Nat.le_of_ble_eq_true rfl) ?_
  refine V_aload_n d_X12_init_63 rfl rfl ?_
  refine V_iconst (v := 5) d_X12_init_64 (by decide) ?_
  refine CI_arr (k := 6) (len := 5) hI ⟨⟨by decide, by decide⟩, by decide⟩ w_66 rfl fl_RX12_36 pf_RX12_12_15 d_X12_init_65 d_X12_init_67 (Nat.le_of_ble_eq_true rfl) (Nat.le_of_ble_eq_true rfl) (Nat.le_of_ble_eq_true rfl) ?_
  refine V_aload_n d_X12_init_70 rfl rfl ?_
  refine V_sipush (v := 400) d_X12_init_71 (by decide) ?_
  refine CI_arr (k := 7) (len := 400) hI ⟨⟨by decide, by decide⟩, by decide⟩ w_66 rfl fl_RX12_39 pf_RX12_12_17 d_X12_init_74 d_X12_init_76 (Nat.le_of_ble_eq_true rfl) (Nat.le_of_ble_eq_true rfl) (Nat.le_of_ble_eq_true rfl) ?_
  refine V_aload_n d_X12_init_79 rfl rfl ?_
  refine V_bipush (v := 36) d_X12_init_80 (by decide) ?_
  refine CI_arr (k := 8) (len := 36) hI ⟨⟨by decide, by decide⟩, by decide⟩ w_66 rfl fl_RX12_42 pf_RX12_12_18 d_X12_init_82 d_X12_init_84 (Nat.le_of_ble_eq_true rfl) (Nat.le_of_ble_eq_true rfl) (Nat.le_of_ble_eq_true rfl) ?_
  refine V_aload_n d_X12_init_87 rfl rfl ?_
  refine V_sipush (v := 448) d_X12_init_88 (by decide) ?_
  refine CI_arr (k := 9) (len := 448) hI ⟨⟨by decide, by decide⟩, by decide⟩ w_66 rfl fl_RX12_45 pf_RX12_12_19 d_X12_init_91 d_X12_init_93 (Nat.le_of_ble_eq_true rfl) (Nat.le_of_ble_eq_true rfl) (Nat.le_of_ble_eq_true rfl) ?_
  refine V_sub (h' := pic2 G mu0) (fun b e hb => ?_) ?_
  · have hl9 : kdL2.length = 275 := by decide +kernel
    have hb9 : b < 275 := by
      refine Nat.lt_of_not_le fun h9 => ?_
      unfold pic2 at hb
      rw [List.getElem?_eq_none (by omega)] at hb
      cases hb
    have hb8 : pic G mu0 b = some e := by
      unfold pic2 kdL2 at hb
      rw [List.getElem?_take_of_lt hb9] at hb
      exact hb
    by_cases h1 : b < 264
    · unfold stg
      rw [if_neg (by omega), if_neg (by omega), if_pos h1]
      exact hh b h1 e hb8
    · rw [← hb8]
      rcases (show b = 264 ∨ b = 265 ∨ b = 266 ∨ b = 267 ∨ b = 268 ∨ b = 269 ∨ b = 270 ∨ b = 271 ∨ b = 272 ∨ b = 273 ∨ b = 274 by omega) with rfl | rfl | rfl | rfl | rfl | rfl | rfl | rfl | rfl | rfl | rfl
      · rfl
      · rfl
      · rfl
      · rfl
      · rfl
      · rfl
      · rfl
      · rfl
      · rfl
      · rfl
      · rfl
  · refine V_aload_n d_X12_init_96 rfl rfl ?_
    refine B2_get k2_264 fl_RX12_13 d_X12_init_97 g_12_1 ?_
    refine V_iconst (v := 4) d_X12_init_100 (by decide) ?_
    refine V_iconst (v := 5) d_X12_init_101 (by decide) ?_
    refine B2_iast (μ' := mset mu0 265 4 5) k2_265 rfl d_X12_init_102 ?_
    refine V_aload_n d_X12_init_103 rfl rfl ?_
    refine B2_get k2_264 fl_RX12_13 d_X12_init_104 g_12_1 ?_
    refine V_bipush (v := 7) d_X12_init_107 (by decide) ?_
    refine V_iconst (v := 1) d_X12_init_109 (by decide) ?_
    refine B2_iast (μ' := muC 0) k2_265 rfl d_X12_init_110 ?_
    refine V_iconst (v := 0) d_X12_init_111 (by decide) ?_
    refine V_istore_n (ls' := [_, _]) d_X12_init_112 rfl rfl rfl ?_
    exact modLoop3 hG hK 12 0 (by omega))
