theorem d_X12_number_0 : decode F_X12_number.2.1 0 = .ok (.aload_n 0, 1) := by decide +kernel
theorem d_X12_number_1 : decode F_X12_number.2.1 1 = .ok (.invokevirtual 109, 3) := by decide +kernel
theorem d_X12_number_4 : decode F_X12_number.2.1 4 = .ok (.iconst 0, 1) := by decide +kernel
theorem d_X12_number_5 : decode F_X12_number.2.1 5 = .ok (.istore_n 3, 1) := by decide +kernel
theorem d_X12_number_6 : decode F_X12_number.2.1 6 = .ok (.aload_n 0, 1) := by decide +kernel
theorem d_X12_number_7 : decode F_X12_number.2.1 7 = .ok (.bipush 48, 2) := by decide +kernel
theorem d_X12_number_9 : decode F_X12_number.2.1 9 = .ok (.bipush 57, 2) := by decide +kernel
theorem d_X12_number_11 : decode F_X12_number.2.1 11 = .ok (.invokevirtual 102, 3) := by decide +kernel
theorem d_X12_number_14 : decode F_X12_number.2.1 14 = .ok (.ifCond .eq 51, 3) := by decide +kernel
theorem d_X12_number_17 : decode F_X12_number.2.1 17 = .ok (.aload_n 0, 1) := by decide +kernel
theorem d_X12_number_18 : decode F_X12_number.2.1 18 = .ok (.getfield 96, 3) := by decide +kernel
theorem d_X12_number_21 : decode F_X12_number.2.1 21 = .ok (.aload_n 0, 1) := by decide +kernel
theorem d_X12_number_22 : decode F_X12_number.2.1 22 = .ok (.getfield 106, 3) := by decide +kernel
theorem d_X12_number_25 : decode F_X12_number.2.1 25 = .ok (.isub, 1) := by decide +kernel
theorem d_X12_number_26 : decode F_X12_number.2.1 26 = .ok (.iconst 3, 1) := by decide +kernel
theorem d_X12_number_27 : decode F_X12_number.2.1 27 = .ok (.if_icmp .ge 23, 3) := by decide +kernel
theorem d_X12_number_30 : decode F_X12_number.2.1 30 = .ok (.bipush 10, 2) := by decide +kernel
theorem d_X12_number_32 : decode F_X12_number.2.1 32 = .ok (.iload_n 3, 1) := by decide +kernel
theorem d_X12_number_33 : decode F_X12_number.2.1 33 = .ok (.imul, 1) := by decide +kernel
theorem d_X12_number_34 : decode F_X12_number.2.1 34 = .ok (.aload_n 0, 1) := by decide +kernel
theorem d_X12_number_35 : decode F_X12_number.2.1 35 = .ok (.getfield 29, 3) := by decide +kernel
theorem d_X12_number_38 : decode F_X12_number.2.1 38 = .ok (.aload_n 0, 1) := by decide +kernel
theorem d_X12_number_39 : decode F_X12_number.2.1 39 = .ok (.getfield 96, 3) := by decide +kernel
theorem d_X12_number_42 : decode F_X12_number.2.1 42 = .ok (.baload, 1) := by decide +kernel
theorem d_X12_number_43 : decode F_X12_number.2.1 43 = .ok (.iadd, 1) := by decide +kernel
theorem d_X12_number_44 : decode F_X12_number.2.1 44 = .ok (.bipush 48, 2) := by decide +kernel
theorem d_X12_number_46 : decode F_X12_number.2.1 46 = .ok (.isub, 1) := by decide +kernel
theorem d_X12_number_47 : decode F_X12_number.2.1 47 = .ok (.goto 4, 3) := by decide +kernel
theorem d_X12_number_50 : decode F_X12_number.2.1 50 = .ok (.iload_n 3, 1) := by decide +kernel
theorem d_X12_number_51 : decode F_X12_number.2.1 51 = .ok (.istore_n 3, 1) := by decide +kernel
theorem d_X12_number_52 : decode F_X12_number.2.1 52 = .ok (.aload_n 0, 1) := by decide +kernel
theorem d_X12_number_53 : decode F_X12_number.2.1 53 = .ok (.dup, 1) := by decide +kernel
theorem d_X12_number_54 : decode F_X12_number.2.1 54 = .ok (.getfield 96, 3) := by decide +kernel
theorem d_X12_number_57 : decode F_X12_number.2.1 57 = .ok (.iconst 1, 1) := by decide +kernel
theorem d_X12_number_58 : decode F_X12_number.2.1 58 = .ok (.iadd, 1) := by decide +kernel
theorem d_X12_number_59 : decode F_X12_number.2.1 59 = .ok (.putfield 96, 3) := by decide +kernel
theorem d_X12_number_62 : decode F_X12_number.2.1 62 = .ok (.goto (-56), 3) := by decide +kernel
theorem d_X12_number_65 : decode F_X12_number.2.1 65 = .ok (.aload_n 0, 1) := by decide +kernel
theorem d_X12_number_66 : decode F_X12_number.2.1 66 = .ok (.getfield 96, 3) := by decide +kernel
theorem d_X12_number_69 : decode F_X12_number.2.1 69 = .ok (.aload_n 0, 1) := by decide +kernel
theorem d_X12_number_70 : decode F_X12_number.2.1 70 = .ok (.getfield 106, 3) := by decide +kernel
theorem d_X12_number_73 : decode F_X12_number.2.1 73 = .ok (.if_icmp .eq 26, 3) := by decide +kernel
theorem d_X12_number_76 : decode F_X12_number.2.1 76 = .ok (.aload_n 0, 1) := by decide +kernel
theorem d_X12_number_77 : decode F_X12_number.2.1 77 = .ok (.getfield 96, 3) := by decide +kernel
theorem d_X12_number_80 : decode F_X12_number.2.1 80 = .ok (.aload_n 0, 1) := by decide +kernel
theorem d_X12_number_81 : decode F_X12_number.2.1 81 = .ok (.getfield 106, 3) := by decide +kernel
theorem d_X12_number_84 : decode F_X12_number.2.1 84 = .ok (.isub, 1) := by decide +kernel
theorem d_X12_number_85 : decode F_X12_number.2.1 85 = .ok (.iconst 3, 1) := by decide +kernel
theorem d_X12_number_86 : decode F_X12_number.2.1 86 = .ok (.if_icmp .gt 13, 3) := by decide +kernel
theorem d_X12_number_89 : decode F_X12_number.2.1 89 = .ok (.iload_n 3, 1) := by decide +kernel
theorem d_X12_number_90 : decode F_X12_number.2.1 90 = .ok (.iload_n 1, 1) := by decide +kernel
theorem d_X12_number_91 : decode F_X12_number.2.1 91 = .ok (.if_icmp .lt 8, 3) := by decide +kernel
theorem d_X12_number_94 : decode F_X12_number.2.1 94 = .ok (.iload_n 3, 1) := by decide +kernel
theorem d_X12_number_95 : decode F_X12_number.2.1 95 = .ok (.iload_n 2, 1) := by decide +kernel
theorem d_X12_number_96 : decode F_X12_number.2.1 96 = .ok (.if_icmp .le 7, 3) := by decide +kernel
theorem d_X12_number_99 : decode F_X12_number.2.1 99 = .ok (.iconst (-1), 1) := by decide +kernel
theorem d_X12_number_100 : decode F_X12_number.2.1 100 = .ok (.goto 4, 3) := by decide +kernel
theorem d_X12_number_103 : decode F_X12_number.2.1 103 = .ok (.iload_n 3, 1) := by decide +kernel
theorem d_X12_number_104 : decode F_X12_number.2.1 104 = .ok (.ireturn, 1) := by decide +kernel
def f_X12_number_j51_6 (μ : Mem) (l1 : Int32) (l2 : Int32) (k0 : Int32) : Option ((Int32 × Mem) ⊕ (Int32 × Mem)) :=
some (.inl (k0, (mset μ 264 10 ((μ 264 10) + 1))))
def f_X12_number_b6 (μ : Mem) (l1 : Int32) (l2 : Int32) (l3 : Int32) : Option ((Int32 × Mem) ⊕ (Int32 × Mem)) :=
Option.bind (f_X12_isAt μ 48 57) fun t1 =>
if t1 = true then
if 3 ≤ ((μ 264 10) - (μ 264 12)) then
f_X12_number_j51_6 μ l1 l2 l3
else
Option.bind (rd μ 270 400 (μ 264 10)) fun t2 =>
f_X12_number_j51_6 μ l1 l2 (((10 * l3) + t2) - 48)
else
some (.inr (l3, μ))
def f_X12_number_j65 (μ : Mem) (l1 : Int32) (l2 : Int32) (l3 : Int32) : Option (Int32 × Mem) :=
some ((if (μ 264 10) = (μ 264 12) then (-1) else (if 3 < ((μ 264 10) - (μ 264 12)) then (-1) else (if l3 < l1 then (-1) else (if l3 ≤ l2 then l3 else (-1))))), μ)
def f_X12_number_l6 (μ : Mem) (l1 : Int32) (l2 : Int32) (l3 : Int32) : Option (Int32 × Mem) := Option.bind (loopN 10000 (fun z : (Int32 × Mem) => f_X12_number_b6 z.2 l1 l2 z.1) (l3, μ)) fun t : (Int32 × Mem) => f_X12_number_j65 t.2 l1 l2 t.1
def f_X12_number (μ : Mem) (p1 : Int32) (p2 : Int32) : Option (Int32 × Mem) :=
Option.bind (f_X12_blanks μ) fun q1 =>
f_X12_number_l6 q1 p1 p2 0
theorem s_X12_number_j51_6 {G : Gl} (hG : G.1.stackTraces = false) {C : Cx} {n : Nat} {μ : Mem} {l1 : Int32} {l2 : Int32} {k0 : Int32} {y : ((Int32 × Mem) ⊕ (Int32 × Mem))} (hf : f_X12_number_j51_6 μ l1 l2 k0 = some y) (hK : (∀ z', y = .inl z' → ∀ n, V G C F_X12_number 6 [some (.ref (G.2.1 + 264)), some (.int l1), some (.int l2), some (.int z'.1)] [] (pic G z'.2) n 0 0) ∧ (∀ x', y = .inr x' → ∀ n, V G C F_X12_number 65 [some (.ref (G.2.1 + 264)), some (.int l1), some (.int l2), some (.int x'.1)] [] (pic G x'.2) n 0 0)) : V G C F_X12_number 51 [some (.ref (G.2.1 + 264)), some (.int l1), some (.int l2), none] [.int k0] (pic G μ) n 0 0 := by
  unfold f_X12_number_j51_6 at hf
  refine V_istore_n (ls' := [_, _, _, _]) d_X12_number_51 rfl rfl rfl ?_
  refine V_aload_n d_X12_number_52 rfl rfl ?_
  refine V_dup d_X12_number_53 rfl ?_
  refine B_get k_264 fl_RX12_96 d_X12_number_54 g_12_10 ?_
  refine V_iconst (v := 1) d_X12_number_57 ic_1 ?_
  refine V_iadd d_X12_number_58 ?_
  refine B_putI k_264 fl_RX12_96 pt_12_10 (Nat.le_of_ble_eq_true rfl) p_12_10 d_X12_number_59 ?_
  refine V_goto (tgt := 6) d_X12_number_62 (by decide) ?_
  refine V_less (ls' := [some _, some _, some _, some _]) ⟨rfl, rfl, rfl, rfl, trivial⟩ ?_
  cases hf
  exact hK.1 _ rfl _
theorem s_X12_number_b6 {G : Gl} (hG : G.1.stackTraces = false) {C : Cx} {n : Nat} {μ : Mem} {l1 : Int32} {l2 : Int32} {l3 : Int32} {y : ((Int32 × Mem) ⊕ (Int32 × Mem))} (hf : f_X12_number_b6 μ l1 l2 l3 = some y) (hK : (∀ z', y = .inl z' → ∀ n, V G C F_X12_number 6 [some (.ref (G.2.1 + 264)), some (.int l1), some (.int l2), some (.int z'.1)] [] (pic G z'.2) n 0 0) ∧ (∀ x', y = .inr x' → ∀ n, V G C F_X12_number 65 [some (.ref (G.2.1 + 264)), some (.int l1), some (.int l2), some (.int x'.1)] [] (pic G x'.2) n 0 0)) : V G C F_X12_number 6 [some (.ref (G.2.1 + 264)), some (.int l1), some (.int l2), some (.int l3)] [] (pic G μ) n 0 0 := by
  unfold f_X12_number_b6 at hf
  refine V_aload_n d_X12_number_6 rfl rfl ?_
  refine V_bipush (v := 48) d_X12_number_7 bp_48 ?_
  refine V_bipush (v := 57) d_X12_number_9 bp_57 ?_
  obtain ⟨t1, ht1, hf⟩ := ob hf
  refine B_callV1 (s_X12_isAt hG ht1) k_264 clX12 m_X12_isAt kv_RX12_102 d_X12_number_11 rfl (Nat.le_of_ble_eq_true rfl) ⟨rfl, rfl, Nat.le_of_ble_eq_true rfl, Nat.le_of_ble_eq_true rfl, Nat.le_of_ble_eq_true rfl⟩ (fun n => ?_)
  refine V_if_eq (tgt := 65) d_X12_number_14 (by decide) (fun c14 => ?_) (fun c14 => ?_)
  · replace hf := iteF (b2i_nt (b2i_eq0 c14)) hf
    refine V_less (ls' := [some _, some _, some _, some _]) ⟨rfl, rfl, rfl, rfl, trivial⟩ ?_
    cases hf
    exact hK.2 _ rfl _
  · replace hf := iteT (b2i_ne0 c14) hf
    refine V_aload_n d_X12_number_17 rfl rfl ?_
    refine B_get k_264 fl_RX12_96 d_X12_number_18 g_12_10 ?_
    refine V_aload_n d_X12_number_21 rfl rfl ?_
    refine B_get k_264 fl_RX12_106 d_X12_number_22 g_12_12 ?_
    refine V_isub d_X12_number_25 ?_
    refine V_iconst (v := 3) d_X12_number_26 ic_3 ?_
    refine V_icmp_ge (tgt := 50) d_X12_number_27 (by decide) (fun c27 => ?_) (fun c27 => ?_)
    · replace hf := iteT c27 hf
      refine V_iload_n d_X12_number_50 rfl rfl ?_
      refine V_less (ls' := [some _, some _, some _, none]) ⟨rfl, rfl, rfl, trivial⟩ ?_
      exact s_X12_number_j51_6 hG hf hK
    · replace hf := iteF c27 hf
      refine V_bipush (v := 10) d_X12_number_30 bp_10 ?_
      refine V_iload_n d_X12_number_32 rfl rfl ?_
      refine V_imul d_X12_number_33 ?_
      refine V_aload_n d_X12_number_34 rfl rfl ?_
      refine B_get k_264 fl_RX12_29 d_X12_number_35 g_12_8 ?_
      refine V_aload_n d_X12_number_38 rfl rfl ?_
      refine B_get k_264 fl_RX12_96 d_X12_number_39 g_12_10 ?_
      obtain ⟨t2, ht2, hf⟩ := ob hf
      refine B_bald k_270 ht2 d_X12_number_42 ?_
      refine V_iadd d_X12_number_43 ?_
      refine V_bipush (v := 48) d_X12_number_44 bp_48 ?_
      refine V_isub d_X12_number_46 ?_
      refine V_goto (tgt := 51) d_X12_number_47 (by decide) ?_
      refine V_less (ls' := [some _, some _, some _, none]) ⟨rfl, rfl, rfl, trivial⟩ ?_
      exact s_X12_number_j51_6 hG hf hK
theorem s_X12_number_j65 {G : Gl} (hG : G.1.stackTraces = false) {C : Cx} {n : Nat} {μ : Mem} {l1 : Int32} {l2 : Int32} {l3 : Int32} {r : (Int32 × Mem)} (hf : f_X12_number_j65 μ l1 l2 l3 = some r) (hK : FinR G C F_X12_number (some .int) (some (.int r.1)) r.2) : V G C F_X12_number 65 [some (.ref (G.2.1 + 264)), some (.int l1), some (.int l2), some (.int l3)] [] (pic G μ) n 0 0 := by
  unfold f_X12_number_j65 at hf
  refine V_aload_n d_X12_number_65 rfl rfl ?_
  refine B_get k_264 fl_RX12_96 d_X12_number_66 g_12_10 ?_
  refine V_aload_n d_X12_number_69 rfl rfl ?_
  refine B_get k_264 fl_RX12_106 d_X12_number_70 g_12_12 ?_
  have hJj1 : ∀ j1 : Int32, j1 = (if (μ 264 10) = (μ 264 12) then (-1) else (if 3 < ((μ 264 10) - (μ 264 12)) then (-1) else (if l3 < l1 then (-1) else (if l3 ≤ l2 then l3 else (-1))))) → V G C F_X12_number 104 [none, none, none, none] [.int j1] (pic G μ) n 0 0 := by
    intro j1 ej1
    subst ej1
    cases hf
    exact R_i hK d_X12_number_104 (Nat.le_of_ble_eq_true rfl) (Nat.le_of_ble_eq_true rfl)
  refine V_icmp_eq (tgt := 99) d_X12_number_73 (by decide) (fun c73 => ?_) (fun c73 => ?_)
  · refine V_iconst (v := (-1)) d_X12_number_99 ic_m1 ?_
    refine V_goto (tgt := 104) d_X12_number_100 (by decide) ?_
    refine V_less (ls' := [none, none, none, none]) trivial ?_
    exact hJj1 (-1) (by rw [if_pos c73])
  · refine V_aload_n d_X12_number_76 rfl rfl ?_
    refine B_get k_264 fl_RX12_96 d_X12_number_77 g_12_10 ?_
    refine V_aload_n d_X12_number_80 rfl rfl ?_
    refine B_get k_264 fl_RX12_106 d_X12_number_81 g_12_12 ?_
    refine V_isub d_X12_number_84 ?_
    refine V_iconst (v := 3) d_X12_number_85 ic_3 ?_
    refine V_icmp_gt (tgt := 99) d_X12_number_86 (by decide) (fun c86 => ?_) (fun c86 => ?_)
    · refine V_iconst (v := (-1)) d_X12_number_99 ic_m1 ?_
      refine V_goto (tgt := 104) d_X12_number_100 (by decide) ?_
      refine V_less (ls' := [none, none, none, none]) trivial ?_
      exact hJj1 (-1) (by rw [if_neg c73, if_pos c86])
    · refine V_iload_n d_X12_number_89 rfl rfl ?_
      refine V_iload_n d_X12_number_90 rfl rfl ?_
      refine V_icmp_lt (tgt := 99) d_X12_number_91 (by decide) (fun c91 => ?_) (fun c91 => ?_)
      · refine V_iconst (v := (-1)) d_X12_number_99 ic_m1 ?_
        refine V_goto (tgt := 104) d_X12_number_100 (by decide) ?_
        refine V_less (ls' := [none, none, none, none]) trivial ?_
        exact hJj1 (-1) (by rw [if_neg c73, if_neg c86, if_pos c91])
      · refine V_iload_n d_X12_number_94 rfl rfl ?_
        refine V_iload_n d_X12_number_95 rfl rfl ?_
        refine V_icmp_le (tgt := 103) d_X12_number_96 (by decide) (fun c96 => ?_) (fun c96 => ?_)
        · refine V_iload_n d_X12_number_103 rfl rfl ?_
          refine V_less (ls' := [none, none, none, none]) trivial ?_
          exact hJj1 l3 (by rw [if_neg c73, if_neg c86, if_neg c91, if_pos c96])
        · refine V_iconst (v := (-1)) d_X12_number_99 ic_m1 ?_
          refine V_goto (tgt := 104) d_X12_number_100 (by decide) ?_
          refine V_less (ls' := [none, none, none, none]) trivial ?_
          exact hJj1 (-1) (by rw [if_neg c73, if_neg c86, if_neg c91, if_neg c96])
theorem s_X12_number_l6 {G : Gl} (hG : G.1.stackTraces = false) {C : Cx} {n : Nat} {μ : Mem} {l1 : Int32} {l2 : Int32} {l3 : Int32} {r : (Int32 × Mem)} (hf : f_X12_number_l6 μ l1 l2 l3 = some r) (hK : FinR G C F_X12_number (some .int) (some (.int r.1)) r.2) : V G C F_X12_number 6 [some (.ref (G.2.1 + 264)), some (.int l1), some (.int l2), some (.int l3)] [] (pic G μ) n 0 0 := by
  unfold f_X12_number_l6 at hf
  obtain ⟨t, hl, hf⟩ := ob hf
  refine loopV (P := fun z => ∀ n, V G C F_X12_number 6 [some (.ref (G.2.1 + 264)), some (.int l1), some (.int l2), some (.int z.1)] [] (pic G z.2) n 0 0) (t := t) ?_ _ _ hl n
  intro z y' hy hI hT n
  refine s_X12_number_b6 hG hy ⟨hI, fun x9 ex => ?_⟩
  have ex2 := hT x9 ex
  subst ex2
  intro n
  exact s_X12_number_j65 hG hf hK
theorem s_X12_number_e {G : Gl} (hG : G.1.stackTraces = false) {C : Cx} {n : Nat} {μ : Mem} {p1 : Int32} {p2 : Int32} {r : (Int32 × Mem)} (hf : f_X12_number μ p1 p2 = some r) (hK : FinR G C F_X12_number (some .int) (some (.int r.1)) r.2) : V G C F_X12_number 0 [some (.ref (G.2.1 + 264)), some (.int p1), some (.int p2), none] [] (pic G μ) n 0 0 := by
  unfold f_X12_number at hf
  refine V_aload_n d_X12_number_0 rfl rfl ?_
  obtain ⟨q1, hq1, hf⟩ := ob hf
  refine B_callV0 (s_X12_blanks hG hq1) k_264 clX12 m_X12_blanks kv_RX12_109 d_X12_number_1 rfl (Nat.le_of_ble_eq_true rfl) ⟨rfl, rfl, Nat.le_of_ble_eq_true rfl, Nat.le_of_ble_eq_true rfl, Nat.le_of_ble_eq_true rfl⟩ (fun n => ?_)
  refine V_iconst (v := 0) d_X12_number_4 ic_0 ?_
  refine V_istore_n (ls' := [_, _, _, _]) d_X12_number_5 rfl rfl rfl ?_
  refine V_less (ls' := [some _, some _, some _, some _]) ⟨rfl, rfl, rfl, rfl, trivial⟩ ?_
  exact s_X12_number_l6 hG hf hK
theorem s_X12_number {G : Gl} (hG : G.1.stackTraces = false) {μ : Mem} {p1 : Int32} {p2 : Int32} {r : (Int32 × Mem)} (hf : f_X12_number μ p1 p2 = some r) : Rt G yX12_number F_X12_number (some .int) [.ref (G.2.1 + 264), .int p1, .int p2] μ (some (.int r.1)) r.2 := fun n => Sd.of hG ⟨by decide +kernel, rfl, rfl⟩ rfl (Nat.le_of_ble_eq_true rfl) rfl (fun C hK => s_X12_number_e hG hf hK)
theorem d_X12_fault_0 : decode F_X12_fault.2.1 0 = .ok (.aload_n 0, 1) := by decide +kernel
theorem d_X12_fault_1 : decode F_X12_fault.2.1 1 = .ok (.iconst 0, 1) := by decide +kernel
theorem d_X12_fault_2 : decode F_X12_fault.2.1 2 = .ok (.putfield 3, 3) := by decide +kernel
theorem d_X12_fault_5 : decode F_X12_fault.2.1 5 = .ok (.aload_n 0, 1) := by decide +kernel
theorem d_X12_fault_6 : decode F_X12_fault.2.1 6 = .ok (.getfield 33, 3) := by decide +kernel
theorem d_X12_fault_9 : decode F_X12_fault.2.1 9 = .ok (.ireturn, 1) := by decide +kernel
def f_X12_fault (μ : Mem) : Option (Int32 × Mem) :=
some (((mset μ 264 0 0) 264 14), (mset μ 264 0 0))
theorem s_X12_fault_e {G : Gl} (hG : G.1.stackTraces = false) {C : Cx} {n : Nat} {μ : Mem}  {r : (Int32 × Mem)} (hf : f_X12_fault μ = some r) (hK : FinR G C F_X12_fault (some .int) (some (.int r.1)) r.2) : V G C F_X12_fault 0 [some (.ref (G.2.1 + 264))] [] (pic G μ) n 0 0 := by
  unfold f_X12_fault at hf
  refine V_aload_n d_X12_fault_0 rfl rfl ?_
  refine V_iconst (v := 0) d_X12_fault_1 ic_0 ?_
  refine B_putI k_264 fl_RX12_3 pt_12_0 (Nat.le_of_ble_eq_true rfl) p_12_0 d_X12_fault_2 ?_
  refine V_aload_n d_X12_fault_5 rfl rfl ?_
  refine B_get k_264 fl_RX12_33 d_X12_fault_6 g_12_14 ?_
  cases hf
  exact R_i hK d_X12_fault_9 (Nat.le_of_ble_eq_true rfl) (Nat.le_of_ble_eq_true rfl)
theorem s_X12_fault {G : Gl} (hG : G.1.stackTraces = false) {μ : Mem} {r : (Int32 × Mem)} (hf : f_X12_fault μ = some r) : Rt G yX12_fault F_X12_fault (some .int) [.ref (G.2.1 + 264)] μ (some (.int r.1)) r.2 := fun n => Sd.of hG ⟨by decide +kernel, rfl, rfl⟩ rfl (Nat.le_of_ble_eq_true rfl) rfl (fun C hK => s_X12_fault_e hG hf hK)
theorem d_X12_uses_0 : decode F_X12_uses.2.1 0 = .ok (.aload_n 0, 1) := by decide +kernel
theorem d_X12_uses_1 : decode F_X12_uses.2.1 1 = .ok (.iconst 0, 1) := by decide +kernel
theorem d_X12_uses_2 : decode F_X12_uses.2.1 2 = .ok (.putfield 3, 3) := by decide +kernel
theorem d_X12_uses_5 : decode F_X12_uses.2.1 5 = .ok (.aload_n 0, 1) := by decide +kernel
theorem d_X12_uses_6 : decode F_X12_uses.2.1 6 = .ok (.aload_n 0, 1) := by decide +kernel
theorem d_X12_uses_7 : decode F_X12_uses.2.1 7 = .ok (.getfield 93, 3) := by decide +kernel
theorem d_X12_uses_10 : decode F_X12_uses.2.1 10 = .ok (.putfield 99, 3) := by decide +kernel
theorem d_X12_uses_13 : decode F_X12_uses.2.1 13 = .ok (.aload_n 0, 1) := by decide +kernel
theorem d_X12_uses_14 : decode F_X12_uses.2.1 14 = .ok (.iconst 0, 1) := by decide +kernel
theorem d_X12_uses_15 : decode F_X12_uses.2.1 15 = .ok (.putfield 93, 3) := by decide +kernel
theorem d_X12_uses_18 : decode F_X12_uses.2.1 18 = .ok (.aload_n 0, 1) := by decide +kernel
theorem d_X12_uses_19 : decode F_X12_uses.2.1 19 = .ok (.iconst 0, 1) := by decide +kernel
theorem d_X12_uses_20 : decode F_X12_uses.2.1 20 = .ok (.putfield 96, 3) := by decide +kernel
theorem d_X12_uses_23 : decode F_X12_uses.2.1 23 = .ok (.return_, 1) := by decide +kernel
def f_X12_uses (μ : Mem) : Option Mem :=
some (mset (mset (mset (mset μ 264 0 0) 264 11 ((mset μ 264 0 0) 264 9)) 264 9 0) 264 10 0)
theorem s_X12_uses_e {G : Gl} (hG : G.1.stackTraces = false) {C : Cx} {n : Nat} {μ : Mem}  {r : Mem} (hf : f_X12_uses μ = some r) (hK : FinR G C F_X12_uses none none r) : V G C F_X12_uses 0 [some (.ref (G.2.1 + 264))] [] (pic G μ) n 0 0 := by
  unfold f_X12_uses at hf
  refine V_aload_n d_X12_uses_0 rfl rfl ?_
  refine V_iconst (v := 0) d_X12_uses_1 ic_0 ?_
  refine B_putI k_264 fl_RX12_3 pt_12_0 (Nat.le_of_ble_eq_true rfl) p_12_0 d_X12_uses_2 ?_
  refine V_aload_n d_X12_uses_5 rfl rfl ?_
  refine V_aload_n d_X12_uses_6 rfl rfl ?_
  refine B_get k_264 fl_RX12_93 d_X12_uses_7 g_12_9 ?_
  refine B_putI k_264 fl_RX12_99 pt_12_11 (Nat.le_of_ble_eq_true rfl) p_12_11 d_X12_uses_10 ?_
  refine V_aload_n d_X12_uses_13 rfl rfl ?_
  refine V_iconst (v := 0) d_X12_uses_14 ic_0 ?_
  refine B_putI k_264 fl_RX12_93 pt_12_9 (Nat.le_of_ble_eq_true rfl) p_12_9 d_X12_uses_15 ?_
  refine V_aload_n d_X12_uses_18 rfl rfl ?_
  refine V_iconst (v := 0) d_X12_uses_19 ic_0 ?_
  refine B_putI k_264 fl_RX12_96 pt_12_10 (Nat.le_of_ble_eq_true rfl) p_12_10 d_X12_uses_20 ?_
  cases hf
  exact R_v hK d_X12_uses_23 (Nat.le_of_ble_eq_true rfl) (Nat.le_of_ble_eq_true rfl)
theorem s_X12_uses {G : Gl} (hG : G.1.stackTraces = false) {μ : Mem} {r : Mem} (hf : f_X12_uses μ = some r) : Rt G yX12_uses F_X12_uses none [.ref (G.2.1 + 264)] μ none r := fun n => Sd.of hG ⟨by decide +kernel, rfl, rfl⟩ rfl (Nat.le_of_ble_eq_true rfl) rfl (fun C hK => s_X12_uses_e hG hf hK)
theorem d_X12_emits_0 : decode F_X12_emits.2.1 0 = .ok (.aload_n 0, 1) := by decide +kernel
theorem d_X12_emits_1 : decode F_X12_emits.2.1 1 = .ok (.getfield 13, 3) := by decide +kernel
theorem d_X12_emits_4 : decode F_X12_emits.2.1 4 = .ok (.sipush 1268, 3) := by decide +kernel
theorem d_X12_emits_7 : decode F_X12_emits.2.1 7 = .ok (.iconst 2, 1) := by decide +kernel
theorem d_X12_emits_8 : decode F_X12_emits.2.1 8 = .ok (.aload_n 0, 1) := by decide +kernel
theorem d_X12_emits_9 : decode F_X12_emits.2.1 9 = .ok (.getfield 187, 3) := by decide +kernel
theorem d_X12_emits_12 : decode F_X12_emits.2.1 12 = .ok (.imul, 1) := by decide +kernel
theorem d_X12_emits_13 : decode F_X12_emits.2.1 13 = .ok (.iadd, 1) := by decide +kernel
theorem d_X12_emits_14 : decode F_X12_emits.2.1 14 = .ok (.iload_n 1, 1) := by decide +kernel
theorem d_X12_emits_15 : decode F_X12_emits.2.1 15 = .ok (.iastore, 1) := by decide +kernel
theorem d_X12_emits_16 : decode F_X12_emits.2.1 16 = .ok (.aload_n 0, 1) := by decide +kernel
theorem d_X12_emits_17 : decode F_X12_emits.2.1 17 = .ok (.getfield 13, 3) := by decide +kernel
theorem d_X12_emits_20 : decode F_X12_emits.2.1 20 = .ok (.sipush 1268, 3) := by decide +kernel
theorem d_X12_emits_23 : decode F_X12_emits.2.1 23 = .ok (.iconst 2, 1) := by decide +kernel
theorem d_X12_emits_24 : decode F_X12_emits.2.1 24 = .ok (.aload_n 0, 1) := by decide +kernel
theorem d_X12_emits_25 : decode F_X12_emits.2.1 25 = .ok (.getfield 187, 3) := by decide +kernel
theorem d_X12_emits_28 : decode F_X12_emits.2.1 28 = .ok (.imul, 1) := by decide +kernel
theorem d_X12_emits_29 : decode F_X12_emits.2.1 29 = .ok (.iadd, 1) := by decide +kernel
theorem d_X12_emits_30 : decode F_X12_emits.2.1 30 = .ok (.iconst 1, 1) := by decide +kernel
theorem d_X12_emits_31 : decode F_X12_emits.2.1 31 = .ok (.iadd, 1) := by decide +kernel
theorem d_X12_emits_32 : decode F_X12_emits.2.1 32 = .ok (.iload_n 2, 1) := by decide +kernel
theorem d_X12_emits_33 : decode F_X12_emits.2.1 33 = .ok (.iastore, 1) := by decide +kernel
theorem d_X12_emits_34 : decode F_X12_emits.2.1 34 = .ok (.aload_n 0, 1) := by decide +kernel
theorem d_X12_emits_35 : decode F_X12_emits.2.1 35 = .ok (.dup, 1) := by decide +kernel
theorem d_X12_emits_36 : decode F_X12_emits.2.1 36 = .ok (.getfield 187, 3) := by decide +kernel
theorem d_X12_emits_39 : decode F_X12_emits.2.1 39 = .ok (.iconst 1, 1) := by decide +kernel
theorem d_X12_emits_40 : decode F_X12_emits.2.1 40 = .ok (.iadd, 1) := by decide +kernel
theorem d_X12_emits_41 : decode F_X12_emits.2.1 41 = .ok (.putfield 187, 3) := by decide +kernel
theorem d_X12_emits_44 : decode F_X12_emits.2.1 44 = .ok (.return_, 1) := by decide +kernel
def f_X12_emits (μ : Mem) (p1 : Int32) (p2 : Int32) : Option Mem :=
Option.bind (wr μ 265 2068 (1268 + (2 * (μ 264 16))) p1) fun μ1 =>
Option.bind (wr μ1 265 2068 ((1268 + (2 * (μ1 264 16))) + 1) p2) fun μ2 =>
some (mset μ2 264 16 ((μ2 264 16) + 1))
theorem s_X12_emits_e {G : Gl} (hG : G.1.stackTraces = false) {C : Cx} {n : Nat} {μ : Mem} {p1 : Int32} {p2 : Int32} {r : Mem} (hf : f_X12_emits μ p1 p2 = some r) (hK : FinR G C F_X12_emits none none r) : V G C F_X12_emits 0 [some (.ref (G.2.1 + 264)), some (.int p1), some (.int p2)] [] (pic G μ) n 0 0 := by
  unfold f_X12_emits at hf
  refine V_aload_n d_X12_emits_0 rfl rfl ?_
  refine B_get k_264 fl_RX12_13 d_X12_emits_1 g_12_1 ?_
  refine V_sipush (v := 1268) d_X12_emits_4 sp_1268 ?_
  refine V_iconst (v := 2) d_X12_emits_7 ic_2 ?_
  refine V_aload_n d_X12_emits_8 rfl rfl ?_
  refine B_get k_264 fl_RX12_187 d_X12_emits_9 g_12_16 ?_
  refine V_imul d_X12_emits_12 ?_
  refine V_iadd d_X12_emits_13 ?_
  refine V_iload_n d_X12_emits_14 rfl rfl ?_
  obtain ⟨μ1, hμ1, hf⟩ := ob hf
  refine B_iast k_265 hμ1 d_X12_emits_15 ?_
  refine V_aload_n d_X12_emits_16 rfl rfl ?_
  refine B_get k_264 fl_RX12_13 d_X12_emits_17 g_12_1 ?_
  refine V_sipush (v := 1268) d_X12_emits_20 sp_1268 ?_
  refine V_iconst (v := 2) d_X12_emits_23 ic_2 ?_
  refine V_aload_n d_X12_emits_24 rfl rfl ?_
  refine B_get k_264 fl_RX12_187 d_X12_emits_25 g_12_16 ?_
  refine V_imul d_X12_emits_28 ?_
  refine V_iadd d_X12_emits_29 ?_
  refine V_iconst (v := 1) d_X12_emits_30 ic_1 ?_
  refine V_iadd d_X12_emits_31 ?_
  refine V_iload_n d_X12_emits_32 rfl rfl ?_
  obtain ⟨μ2, hμ2, hf⟩ := ob hf
  refine B_iast k_265 hμ2 d_X12_emits_33 ?_
  refine V_aload_n d_X12_emits_34 rfl rfl ?_
  refine V_dup d_X12_emits_35 rfl ?_
  refine B_get k_264 fl_RX12_187 d_X12_emits_36 g_12_16 ?_
  refine V_iconst (v := 1) d_X12_emits_39 ic_1 ?_
  refine V_iadd d_X12_emits_40 ?_
  refine B_putI k_264 fl_RX12_187 pt_12_16 (Nat.le_of_ble_eq_true rfl) p_12_16 d_X12_emits_41 ?_
  cases hf
  exact R_v hK d_X12_emits_44 (Nat.le_of_ble_eq_true rfl) (Nat.le_of_ble_eq_true rfl)
theorem s_X12_emits {G : Gl} (hG : G.1.stackTraces = false) {μ : Mem} {p1 : Int32} {p2 : Int32} {r : Mem} (hf : f_X12_emits μ p1 p2 = some r) : Rt G yX12_emits F_X12_emits none [.ref (G.2.1 + 264), .int p1, .int p2] μ none r := fun n => Sd.of hG ⟨by decide +kernel, rfl, rfl⟩ rfl (Nat.le_of_ble_eq_true rfl) rfl (fun C hK => s_X12_emits_e hG hf hK)
theorem d_X12_slackOf_0 : decode F_X12_slackOf.2.1 0 = .ok (.aload_n 0, 1) := by decide +kernel
theorem d_X12_slackOf_1 : decode F_X12_slackOf.2.1 1 = .ok (.iconst 2, 1) := by decide +kernel
theorem d_X12_slackOf_2 : decode F_X12_slackOf.2.1 2 = .ok (.iload_n 1, 1) := by decide +kernel
theorem d_X12_slackOf_3 : decode F_X12_slackOf.2.1 3 = .ok (.imul, 1) := by decide +kernel
theorem d_X12_slackOf_4 : decode F_X12_slackOf.2.1 4 = .ok (.invokevirtual 138, 3) := by decide +kernel
theorem d_X12_slackOf_7 : decode F_X12_slackOf.2.1 7 = .ok (.ifCond .eq 7, 3) := by decide +kernel
theorem d_X12_slackOf_10 : decode F_X12_slackOf.2.1 10 = .ok (.iconst 0, 1) := by decide +kernel
theorem d_X12_slackOf_11 : decode F_X12_slackOf.2.1 11 = .ok (.goto 4, 3) := by decide +kernel
theorem d_X12_slackOf_14 : decode F_X12_slackOf.2.1 14 = .ok (.iconst 1, 1) := by decide +kernel
theorem d_X12_slackOf_15 : decode F_X12_slackOf.2.1 15 = .ok (.aload_n 0, 1) := by decide +kernel
theorem d_X12_slackOf_16 : decode F_X12_slackOf.2.1 16 = .ok (.iconst 2, 1) := by decide +kernel
theorem d_X12_slackOf_17 : decode F_X12_slackOf.2.1 17 = .ok (.iload_n 1, 1) := by decide +kernel
theorem d_X12_slackOf_18 : decode F_X12_slackOf.2.1 18 = .ok (.imul, 1) := by decide +kernel
theorem d_X12_slackOf_19 : decode F_X12_slackOf.2.1 19 = .ok (.iconst 1, 1) := by decide +kernel
theorem d_X12_slackOf_20 : decode F_X12_slackOf.2.1 20 = .ok (.iadd, 1) := by decide +kernel
theorem d_X12_slackOf_21 : decode F_X12_slackOf.2.1 21 = .ok (.invokevirtual 138, 3) := by decide +kernel
theorem d_X12_slackOf_24 : decode F_X12_slackOf.2.1 24 = .ok (.ifCond .eq 7, 3) := by decide +kernel
theorem d_X12_slackOf_27 : decode F_X12_slackOf.2.1 27 = .ok (.iconst 0, 1) := by decide +kernel
theorem d_X12_slackOf_28 : decode F_X12_slackOf.2.1 28 = .ok (.goto 4, 3) := by decide +kernel
theorem d_X12_slackOf_31 : decode F_X12_slackOf.2.1 31 = .ok (.iconst 1, 1) := by decide +kernel
theorem d_X12_slackOf_32 : decode F_X12_slackOf.2.1 32 = .ok (.iadd, 1) := by decide +kernel
theorem d_X12_slackOf_33 : decode F_X12_slackOf.2.1 33 = .ok (.ireturn, 1) := by decide +kernel
def f_X12_slackOf (μ : Mem) (p1 : Int32) : Option Int32 :=
Option.bind (f_X12_isIn μ (2 * p1)) fun t1 =>
Option.bind (f_X12_isIn μ ((2 * p1) + 1)) fun t3 =>
some ((b2i (if t1 = true then false else true)) + (b2i (if t3 = true then false else true)))
theorem s_X12_slackOf_e {G : Gl} (hG : G.1.stackTraces = false) {C : Cx} {n : Nat} {μ : Mem} {p1 : Int32} {r : Int32} (hf : f_X12_slackOf μ p1 = some r) (hK : FinR G C F_X12_slackOf (some .int) (some (.int r)) μ) : V G C F_X12_slackOf 0 [some (.ref (G.2.1 + 264)), some (.int p1)] [] (pic G μ) n 0 0 := by
  unfold f_X12_slackOf at hf
  refine V_aload_n d_X12_slackOf_0 rfl rfl ?_
  refine V_iconst (v := 2) d_X12_slackOf_1 ic_2 ?_
  refine V_iload_n d_X12_slackOf_2 rfl rfl ?_
  refine V_imul d_X12_slackOf_3 ?_
  obtain ⟨t1, ht1, hf⟩ := ob hf
  refine B_callV1 (s_X12_isIn hG ht1) k_264 clX12 m_X12_isIn kv_RX12_138 d_X12_slackOf_4 rfl (Nat.le_of_ble_eq_true rfl) ⟨rfl, rfl, Nat.le_of_ble_eq_true rfl, Nat.le_of_ble_eq_true rfl, Nat.le_of_ble_eq_true rfl⟩ (fun n => ?_)
  have hJj2 : ∀ j2 : Bool, j2 = (if t1 = true then false else true) → V G C F_X12_slackOf 15 [some (.ref (G.2.1 + 264)), some (.int p1)] [.int (b2i j2)] (pic G μ) n 0 0 := by
    intro j2 ej2
    subst ej2
    refine V_aload_n d_X12_slackOf_15 rfl rfl ?_
    refine V_iconst (v := 2) d_X12_slackOf_16 ic_2 ?_
    refine V_iload_n d_X12_slackOf_17 rfl rfl ?_
    refine V_imul d_X12_slackOf_18 ?_
    refine V_iconst (v := 1) d_X12_slackOf_19 ic_1 ?_
    refine V_iadd d_X12_slackOf_20 ?_
    obtain ⟨t3, ht3, hf⟩ := ob hf
    refine B_callV1 (s_X12_isIn hG ht3) k_264 clX12 m_X12_isIn kv_RX12_138 d_X12_slackOf_21 rfl (Nat.le_of_ble_eq_true rfl) ⟨rfl, rfl, Nat.le_of_ble_eq_true rfl, Nat.le_of_ble_eq_true rfl, Nat.le_of_ble_eq_true rfl⟩ (fun n => ?_)
    have hJj4 : ∀ j4 : Bool, j4 = (if t3 = true then false else true) → V G C F_X12_slackOf 32 [none, none] [.int (b2i j4), .int (b2i (if t1 = true then false else true))] (pic G μ) n 0 0 := by
      intro j4 ej4
      subst ej4
      refine V_iadd d_X12_slackOf_32 ?_
      cases hf
      exact R_i hK d_X12_slackOf_33 (Nat.le_of_ble_eq_true rfl) (Nat.le_of_ble_eq_true rfl)
    refine V_if_eq (tgt := 31) d_X12_slackOf_24 (by decide) (fun c24 => ?_) (fun c24 => ?_)
    · refine V_iconst (v := 1) d_X12_slackOf_31 ic_1 ?_
      refine V_less (ls' := [none, none]) trivial ?_
      exact hJj4 true (by rw [if_neg (b2i_nt (b2i_eq0 c24))])
    · refine V_iconst (v := 0) d_X12_slackOf_27 ic_0 ?_
      refine V_goto (tgt := 32) d_X12_slackOf_28 (by decide) ?_
      refine V_less (ls' := [none, none]) trivial ?_
      exact hJj4 false (by rw [if_pos (b2i_ne0 c24)])
  refine V_if_eq (tgt := 14) d_X12_slackOf_7 (by decide) (fun c7 => ?_) (fun c7 => ?_)
  · refine V_iconst (v := 1) d_X12_slackOf_14 ic_1 ?_
    refine V_less (ls' := [some _, some _]) ⟨rfl, rfl, trivial⟩ ?_
    exact hJj2 true (by rw [if_neg (b2i_nt (b2i_eq0 c7))])
  · refine V_iconst (v := 0) d_X12_slackOf_10 ic_0 ?_
    refine V_goto (tgt := 15) d_X12_slackOf_11 (by decide) ?_
    refine V_less (ls' := [some _, some _]) ⟨rfl, rfl, trivial⟩ ?_
    exact hJj2 false (by rw [if_pos (b2i_ne0 c7)])
theorem s_X12_slackOf {G : Gl} (hG : G.1.stackTraces = false) {μ : Mem} {p1 : Int32} {r : Int32} (hf : f_X12_slackOf μ p1 = some r) : Rt G yX12_slackOf F_X12_slackOf (some .int) [.ref (G.2.1 + 264), .int p1] μ (some (.int r)) μ := fun n => Sd.of hG ⟨by decide +kernel, rfl, rfl⟩ rfl (Nat.le_of_ble_eq_true rfl) rfl (fun C hK => s_X12_slackOf_e hG hf hK)
theorem d_X12_heldBy_0 : decode F_X12_heldBy.2.1 0 = .ok (.iconst 0, 1) := by decide +kernel
theorem d_X12_heldBy_1 : decode F_X12_heldBy.2.1 1 = .ok (.istore_n 2, 1) := by decide +kernel
theorem d_X12_heldBy_2 : decode F_X12_heldBy.2.1 2 = .ok (.iconst 0, 1) := by decide +kernel
theorem d_X12_heldBy_3 : decode F_X12_heldBy.2.1 3 = .ok (.istore_n 3, 1) := by decide +kernel
theorem d_X12_heldBy_4 : decode F_X12_heldBy.2.1 4 = .ok (.iload_n 3, 1) := by decide +kernel
theorem d_X12_heldBy_5 : decode F_X12_heldBy.2.1 5 = .ok (.aload_n 0, 1) := by decide +kernel
theorem d_X12_heldBy_6 : decode F_X12_heldBy.2.1 6 = .ok (.invokevirtual 77, 3) := by decide +kernel
theorem d_X12_heldBy_9 : decode F_X12_heldBy.2.1 9 = .ok (.if_icmp .ge 37, 3) := by decide +kernel
theorem d_X12_heldBy_12 : decode F_X12_heldBy.2.1 12 = .ok (.iload_n 2, 1) := by decide +kernel
theorem d_X12_heldBy_13 : decode F_X12_heldBy.2.1 13 = .ok (.aload_n 0, 1) := by decide +kernel
theorem d_X12_heldBy_14 : decode F_X12_heldBy.2.1 14 = .ok (.iload_n 3, 1) := by decide +kernel
theorem d_X12_heldBy_15 : decode F_X12_heldBy.2.1 15 = .ok (.invokevirtual 138, 3) := by decide +kernel
theorem d_X12_heldBy_18 : decode F_X12_heldBy.2.1 18 = .ok (.ifCond .ne 19, 3) := by decide +kernel
theorem d_X12_heldBy_21 : decode F_X12_heldBy.2.1 21 = .ok (.aload_n 0, 1) := by decide +kernel
theorem d_X12_heldBy_22 : decode F_X12_heldBy.2.1 22 = .ok (.iload_n 3, 1) := by decide +kernel
theorem d_X12_heldBy_23 : decode F_X12_heldBy.2.1 23 = .ok (.iconst 1, 1) := by decide +kernel
theorem d_X12_heldBy_24 : decode F_X12_heldBy.2.1 24 = .ok (.invokevirtual 70, 3) := by decide +kernel
theorem d_X12_heldBy_27 : decode F_X12_heldBy.2.1 27 = .ok (.iload_n 1, 1) := by decide +kernel
theorem d_X12_heldBy_28 : decode F_X12_heldBy.2.1 28 = .ok (.if_icmp .ne 9, 3) := by decide +kernel
theorem d_X12_heldBy_31 : decode F_X12_heldBy.2.1 31 = .ok (.iconst 1, 1) := by decide +kernel
theorem d_X12_heldBy_32 : decode F_X12_heldBy.2.1 32 = .ok (.iload_n 3, 1) := by decide +kernel
theorem d_X12_heldBy_33 : decode F_X12_heldBy.2.1 33 = .ok (.ishl, 1) := by decide +kernel
theorem d_X12_heldBy_34 : decode F_X12_heldBy.2.1 34 = .ok (.goto 4, 3) := by decide +kernel
theorem d_X12_heldBy_37 : decode F_X12_heldBy.2.1 37 = .ok (.iconst 0, 1) := by decide +kernel
theorem d_X12_heldBy_38 : decode F_X12_heldBy.2.1 38 = .ok (.ior, 1) := by decide +kernel
theorem d_X12_heldBy_39 : decode F_X12_heldBy.2.1 39 = .ok (.istore_n 2, 1) := by decide +kernel
theorem d_X12_heldBy_40 : decode F_X12_heldBy.2.1 40 = .ok (.iinc 3 1, 3) := by decide +kernel
theorem d_X12_heldBy_43 : decode F_X12_heldBy.2.1 43 = .ok (.goto (-39), 3) := by decide +kernel
theorem d_X12_heldBy_46 : decode F_X12_heldBy.2.1 46 = .ok (.iload_n 2, 1) := by decide +kernel
theorem d_X12_heldBy_47 : decode F_X12_heldBy.2.1 47 = .ok (.ireturn, 1) := by decide +kernel
def f_X12_heldBy_j38_4 (μ : Mem) (l1 : Int32) (l3 : Int32) (k0 : Int32) (k1 : Int32) : Option ((Int32 × Int32) ⊕ Int32) :=
some (.inl ((k0 ||| k1), (l3 + 1)))
def f_X12_heldBy_j37_4 (μ : Mem) (l1 : Int32) (l3 : Int32) (k0 : Int32) : Option ((Int32 × Int32) ⊕ Int32) :=
f_X12_heldBy_j38_4 μ l1 l3 k0 0
def f_X12_heldBy_b4 (μ : Mem) (l1 : Int32) (l2 : Int32) (l3 : Int32) : Option ((Int32 × Int32) ⊕ Int32) :=
Option.bind (f_X12_laces μ) fun t1 =>
if t1 ≤ l3 then
some (.inr l2)
else
Option.bind (f_X12_isIn μ l3) fun t2 =>
if t2 = true then
f_X12_heldBy_j37_4 μ l1 l3 l2
else
Option.bind (f_X12_ofLace μ l3 1) fun t3 =>
some (.inl ((l2 ||| (if t3 = l1 then (1 <<< (l3 &&& 31)) else 0)), (l3 + 1)))
def f_X12_heldBy_j46 (μ : Mem) (l2 : Int32) : Option Int32 :=
some l2
def f_X12_heldBy_l4 (μ : Mem) (l1 : Int32) (l2 : Int32) (l3 : Int32) : Option Int32 := Option.bind (loopN 10000 (fun z : (Int32 × Int32) => f_X12_heldBy_b4 μ l1 z.1 z.2) (l2, l3)) fun t : Int32 => f_X12_heldBy_j46 μ t
def f_X12_heldBy (μ : Mem) (p1 : Int32) : Option Int32 :=
f_X12_heldBy_l4 μ p1 0 0
theorem s_X12_heldBy_j38_4 {G : Gl} (hG : G.1.stackTraces = false) {C : Cx} {n : Nat} {μ : Mem} {l1 : Int32} {l3 : Int32} {k0 : Int32} {k1 : Int32} {y : ((Int32 × Int32) ⊕ Int32)} (hf : f_X12_heldBy_j38_4 μ l1 l3 k0 k1 = some y) (hK : (∀ z', y = .inl z' → ∀ n, V G C F_X12_heldBy 4 [some (.ref (G.2.1 + 264)), some (.int l1), some (.int z'.1), some (.int z'.2)] [] (pic G μ) n 0 0) ∧ (∀ x', y = .inr x' → ∀ n, V G C F_X12_heldBy 46 [none, none, some (.int x'), none] [] (pic G μ) n 0 0)) : V G C F_X12_heldBy 38 [some (.ref (G.2.1 + 264)), some (.int l1), none, some (.int l3)] [.int k1, .int k0] (pic G μ) n 0 0 := by
  unfold f_X12_heldBy_j38_4 at hf
  refine V_ior d_X12_heldBy_38 ?_
  refine V_istore_n (ls' := [_, _, _, _]) d_X12_heldBy_39 rfl rfl rfl ?_
  refine V_iinc (v := (l3 + 1)) (ls' := [_, _, _, _]) d_X12_heldBy_40 rfl (by rw [ic_1]) rfl ?_
  refine V_goto (tgt := 4) d_X12_heldBy_43 (by decide) ?_
  refine V_less (ls' := [some _, some _, some _, some _]) ⟨rfl, rfl, rfl, rfl, trivial⟩ ?_
  cases hf
  exact hK.1 _ rfl _
theorem s_X12_heldBy_j37_4 {G : Gl} (hG : G.1.stackTraces = false) {C : Cx} {n : Nat} {μ : Mem} {l1 : Int32} {l3 : Int32} {k0 : Int32} {y : ((Int32 × Int32) ⊕ Int32)} (hf : f_X12_heldBy_j37_4 μ l1 l3 k0 = some y) (hK : (∀ z', y = .inl z' → ∀ n, V G C F_X12_heldBy 4 [some (.ref (G.2.1 + 264)), some (.int l1), some (.int z'.1), some (.int z'.2)] [] (pic G μ) n 0 0) ∧ (∀ x', y = .inr x' → ∀ n, V G C F_X12_heldBy 46 [none, none, some (.int x'), none] [] (pic G μ) n 0 0)) : V G C F_X12_heldBy 37 [some (.ref (G.2.1 + 264)), some (.int l1), none, some (.int l3)] [.int k0] (pic G μ) n 0 0 := by
  unfold f_X12_heldBy_j37_4 at hf
  refine V_iconst (v := 0) d_X12_heldBy_37 ic_0 ?_
  refine V_less (ls' := [some _, some _, none, some _]) ⟨rfl, rfl, rfl, trivial⟩ ?_
  exact s_X12_heldBy_j38_4 hG hf hK
theorem s_X12_heldBy_b4 {G : Gl} (hG : G.1.stackTraces = false) {C : Cx} {n : Nat} {μ : Mem} {l1 : Int32} {l2 : Int32} {l3 : Int32} {y : ((Int32 × Int32) ⊕ Int32)} (hf : f_X12_heldBy_b4 μ l1 l2 l3 = some y) (hK : (∀ z', y = .inl z' → ∀ n, V G C F_X12_heldBy 4 [some (.ref (G.2.1 + 264)), some (.int l1), some (.int z'.1), some (.int z'.2)] [] (pic G μ) n 0 0) ∧ (∀ x', y = .inr x' → ∀ n, V G C F_X12_heldBy 46 [none, none, some (.int x'), none] [] (pic G μ) n 0 0)) : V G C F_X12_heldBy 4 [some (.ref (G.2.1 + 264)), some (.int l1), some (.int l2), some (.int l3)] [] (pic G μ) n 0 0 := by
  unfold f_X12_heldBy_b4 at hf
  refine V_iload_n d_X12_heldBy_4 rfl rfl ?_
  refine V_aload_n d_X12_heldBy_5 rfl rfl ?_
  obtain ⟨t1, ht1, hf⟩ := ob hf
  refine B_callV1 (s_X12_laces hG ht1) k_264 clX12 m_X12_laces kv_RX12_77 d_X12_heldBy_6 rfl (Nat.le_of_ble_eq_true rfl) ⟨rfl, rfl, Nat.le_of_ble_eq_true rfl, Nat.le_of_ble_eq_true rfl, Nat.le_of_ble_eq_true rfl⟩ (fun n => ?_)
  refine V_icmp_ge (tgt := 46) d_X12_heldBy_9 (by decide) (fun c9 => ?_) (fun c9 => ?_)
  · replace hf := iteT c9 hf
    refine V_less (ls' := [none, none, some _, none]) ⟨rfl, trivial⟩ ?_
    cases hf
    exact hK.2 _ rfl _
  · replace hf := iteF c9 hf
    refine V_iload_n d_X12_heldBy_12 rfl rfl ?_
    refine V_aload_n d_X12_heldBy_13 rfl rfl ?_
    refine V_iload_n d_X12_heldBy_14 rfl rfl ?_
    obtain ⟨t2, ht2, hf⟩ := ob hf
    refine B_callV1 (s_X12_isIn hG ht2) k_264 clX12 m_X12_isIn kv_RX12_138 d_X12_heldBy_15 rfl (Nat.le_of_ble_eq_true rfl) ⟨rfl, rfl, Nat.le_of_ble_eq_true rfl, Nat.le_of_ble_eq_true rfl, Nat.le_of_ble_eq_true rfl⟩ (fun n => ?_)
    refine V_if_ne (tgt := 37) d_X12_heldBy_18 (by decide) (fun c18 => ?_) (fun c18 => ?_)
    · replace hf := iteT (b2i_ne0 c18) hf
      refine V_less (ls' := [some _, some _, none, some _]) ⟨rfl, rfl, rfl, trivial⟩ ?_
      exact s_X12_heldBy_j37_4 hG hf hK
    · replace hf := iteF (b2i_nt (b2i_eq0 c18)) hf
      refine V_aload_n d_X12_heldBy_21 rfl rfl ?_
      refine V_iload_n d_X12_heldBy_22 rfl rfl ?_
      refine V_iconst (v := 1) d_X12_heldBy_23 ic_1 ?_
      obtain ⟨t3, ht3, hf⟩ := ob hf
      refine B_callV1 (s_X12_ofLace hG ht3) k_264 clX12 m_X12_ofLace kv_RX12_70 d_X12_heldBy_24 rfl (Nat.le_of_ble_eq_true rfl) ⟨rfl, rfl, Nat.le_of_ble_eq_true rfl, Nat.le_of_ble_eq_true rfl, Nat.le_of_ble_eq_true rfl⟩ (fun n => ?_)
      refine V_iload_n d_X12_heldBy_27 rfl rfl ?_
      have hJj4 : ∀ j4 : Int32, j4 = (if t3 = l1 then (1 <<< (l3 &&& 31)) else 0) → V G C F_X12_heldBy 38 [some (.ref (G.2.1 + 264)), some (.int l1), none, some (.int l3)] [.int j4, .int l2] (pic G μ) n 0 0 := by
        intro j4 ej4
        subst ej4
        refine V_ior d_X12_heldBy_38 ?_
        refine V_istore_n (ls' := [_, _, _, _]) d_X12_heldBy_39 rfl rfl rfl ?_
        refine V_iinc (v := (l3 + 1)) (ls' := [_, _, _, _]) d_X12_heldBy_40 rfl (by rw [ic_1]) rfl ?_
        refine V_goto (tgt := 4) d_X12_heldBy_43 (by decide) ?_
        refine V_less (ls' := [some _, some _, some _, some _]) ⟨rfl, rfl, rfl, rfl, trivial⟩ ?_
        cases hf
        exact hK.1 _ rfl _
      refine V_icmp_ne (tgt := 37) d_X12_heldBy_28 (by decide) (fun c28 => ?_) (fun c28 => ?_)
      · refine V_iconst (v := 0) d_X12_heldBy_37 ic_0 ?_
        refine V_less (ls' := [some _, some _, none, some _]) ⟨rfl, rfl, rfl, trivial⟩ ?_
        exact hJj4 0 (by rw [if_neg c28])
      · refine V_iconst (v := 1) d_X12_heldBy_31 ic_1 ?_
        refine V_iload_n d_X12_heldBy_32 rfl rfl ?_
        refine V_ishl d_X12_heldBy_33 ?_
        refine V_goto (tgt := 38) d_X12_heldBy_34 (by decide) ?_
        refine V_less (ls' := [some _, some _, none, some _]) ⟨rfl, rfl, rfl, trivial⟩ ?_
        exact hJj4 (1 <<< (l3 &&& 31)) (by rw [if_pos c28])
theorem s_X12_heldBy_j46 {G : Gl} (hG : G.1.stackTraces = false) {C : Cx} {n : Nat} {μ : Mem} {l2 : Int32} {r : Int32} (hf : f_X12_heldBy_j46 μ l2 = some r) (hK : FinR G C F_X12_heldBy (some .int) (some (.int r)) μ) : V G C F_X12_heldBy 46 [none, none, some (.int l2), none] [] (pic G μ) n 0 0 := by
  unfold f_X12_heldBy_j46 at hf
  refine V_iload_n d_X12_heldBy_46 rfl rfl ?_
  cases hf
  exact R_i hK d_X12_heldBy_47 (Nat.le_of_ble_eq_true rfl) (Nat.le_of_ble_eq_true rfl)
theorem s_X12_heldBy_l4 {G : Gl} (hG : G.1.stackTraces = false) {C : Cx} {n : Nat} {μ : Mem} {l1 : Int32} {l2 : Int32} {l3 : Int32} {r : Int32} (hf : f_X12_heldBy_l4 μ l1 l2 l3 = some r) (hK : FinR G C F_X12_heldBy (some .int) (some (.int r)) μ) : V G C F_X12_heldBy 4 [some (.ref (G.2.1 + 264)), some (.int l1), some (.int l2), some (.int l3)] [] (pic G μ) n 0 0 := by
  unfold f_X12_heldBy_l4 at hf
  obtain ⟨t, hl, hf⟩ := ob hf
  refine loopV (P := fun z => ∀ n, V G C F_X12_heldBy 4 [some (.ref (G.2.1 + 264)), some (.int l1), some (.int z.1), some (.int z.2)] [] (pic G μ) n 0 0) (t := t) ?_ _ _ hl n
  intro z y' hy hI hT n
  refine s_X12_heldBy_b4 hG hy ⟨hI, fun x9 ex => ?_⟩
  have ex2 := hT x9 ex
  subst ex2
  intro n
  exact s_X12_heldBy_j46 hG hf hK
theorem s_X12_heldBy_e {G : Gl} (hG : G.1.stackTraces = false) {C : Cx} {n : Nat} {μ : Mem} {p1 : Int32} {r : Int32} (hf : f_X12_heldBy μ p1 = some r) (hK : FinR G C F_X12_heldBy (some .int) (some (.int r)) μ) : V G C F_X12_heldBy 0 [some (.ref (G.2.1 + 264)), some (.int p1), none, none] [] (pic G μ) n 0 0 := by
  unfold f_X12_heldBy at hf
  refine V_iconst (v := 0) d_X12_heldBy_0 ic_0 ?_
  refine V_istore_n (ls' := [_, _, _, _]) d_X12_heldBy_1 rfl rfl rfl ?_
  refine V_iconst (v := 0) d_X12_heldBy_2 ic_0 ?_
  refine V_istore_n (ls' := [_, _, _, _]) d_X12_heldBy_3 rfl rfl rfl ?_
  refine V_less (ls' := [some _, some _, some _, some _]) ⟨rfl, rfl, rfl, rfl, trivial⟩ ?_
  exact s_X12_heldBy_l4 hG hf hK
theorem s_X12_heldBy {G : Gl} (hG : G.1.stackTraces = false) {μ : Mem} {p1 : Int32} {r : Int32} (hf : f_X12_heldBy μ p1 = some r) : Rt G yX12_heldBy F_X12_heldBy (some .int) [.ref (G.2.1 + 264), .int p1] μ (some (.int r)) μ := fun n => Sd.of hG ⟨by decide +kernel, rfl, rfl⟩ rfl (Nat.le_of_ble_eq_true rfl) rfl (fun C hK => s_X12_heldBy_e hG hf hK)
theorem d_X12_isThere_0 : decode F_X12_isThere.2.1 0 = .ok (.aload_n 0, 1) := by decide +kernel
theorem d_X12_isThere_1 : decode F_X12_isThere.2.1 1 = .ok (.iload_n 1, 1) := by decide +kernel
theorem d_X12_isThere_2 : decode F_X12_isThere.2.1 2 = .ok (.iconst 2, 1) := by decide +kernel
theorem d_X12_isThere_3 : decode F_X12_isThere.2.1 3 = .ok (.invokevirtual 84, 3) := by decide +kernel
theorem d_X12_isThere_6 : decode F_X12_isThere.2.1 6 = .ok (.aload_n 0, 1) := by decide +kernel
theorem d_X12_isThere_7 : decode F_X12_isThere.2.1 7 = .ok (.iload_n 1, 1) := by decide +kernel
theorem d_X12_isThere_8 : decode F_X12_isThere.2.1 8 = .ok (.iconst 3, 1) := by decide +kernel
theorem d_X12_isThere_9 : decode F_X12_isThere.2.1 9 = .ok (.invokevirtual 84, 3) := by decide +kernel
theorem d_X12_isThere_12 : decode F_X12_isThere.2.1 12 = .ok (.if_icmp .ne 7, 3) := by decide +kernel
theorem d_X12_isThere_15 : decode F_X12_isThere.2.1 15 = .ok (.iconst 1, 1) := by decide +kernel
theorem d_X12_isThere_16 : decode F_X12_isThere.2.1 16 = .ok (.goto 4, 3) := by decide +kernel
theorem d_X12_isThere_19 : decode F_X12_isThere.2.1 19 = .ok (.iconst 0, 1) := by decide +kernel
theorem d_X12_isThere_20 : decode F_X12_isThere.2.1 20 = .ok (.ireturn, 1) := by decide +kernel
def f_X12_isThere (μ : Mem) (p1 : Int32) : Option Bool :=
Option.bind (f_X12_of μ p1 2) fun t1 =>
Option.bind (f_X12_of μ p1 3) fun t2 =>
some (if t1 = t2 then true else false)
theorem s_X12_isThere_e {G : Gl} (hG : G.1.stackTraces = false) {C : Cx} {n : Nat} {μ : Mem} {p1 : Int32} {r : Bool} (hf : f_X12_isThere μ p1 = some r) (hK : FinR G C F_X12_isThere (some .boolean) (some (.int (b2i r))) μ) : V G C F_X12_isThere 0 [some (.ref (G.2.1 + 264)), some (.int p1)] [] (pic G μ) n 0 0 := by
  unfold f_X12_isThere at hf
  refine V_aload_n d_X12_isThere_0 rfl rfl ?_
  refine V_iload_n d_X12_isThere_1 rfl rfl ?_
  refine V_iconst (v := 2) d_X12_isThere_2 ic_2 ?_
  obtain ⟨t1, ht1, hf⟩ := ob hf
  refine B_callV1 (s_X12_of hG ht1) k_264 clX12 m_X12_of kv_RX12_84 d_X12_isThere_3 rfl (Nat.le_of_ble_eq_true rfl) ⟨rfl, rfl, Nat.le_of_ble_eq_true rfl, Nat.le_of_ble_eq_true rfl, Nat.le_of_ble_eq_true rfl⟩ (fun n => ?_)
  refine V_aload_n d_X12_isThere_6 rfl rfl ?_
  refine V_iload_n d_X12_isThere_7 rfl rfl ?_
  refine V_iconst (v := 3) d_X12_isThere_8 ic_3 ?_
  obtain ⟨t2, ht2, hf⟩ := ob hf
  refine B_callV1 (s_X12_of hG ht2) k_264 clX12 m_X12_of kv_RX12_84 d_X12_isThere_9 rfl (Nat.le_of_ble_eq_true rfl) ⟨rfl, rfl, Nat.le_of_ble_eq_true rfl, Nat.le_of_ble_eq_true rfl, Nat.le_of_ble_eq_true rfl⟩ (fun n => ?_)
  have hJj3 : ∀ j3 : Bool, j3 = (if t1 = t2 then true else false) → V G C F_X12_isThere 20 [none, none] [.int (b2i j3)] (pic G μ) n 0 0 := by
    intro j3 ej3
    subst ej3
    cases hf
    exact R_z hK d_X12_isThere_20 (Nat.le_of_ble_eq_true rfl) (Nat.le_of_ble_eq_true rfl)
  refine V_icmp_ne (tgt := 19) d_X12_isThere_12 (by decide) (fun c12 => ?_) (fun c12 => ?_)
  · refine V_iconst (v := 0) d_X12_isThere_19 ic_0 ?_
    refine V_less (ls' := [none, none]) trivial ?_
    exact hJj3 false (by rw [if_neg c12])
  · refine V_iconst (v := 1) d_X12_isThere_15 ic_1 ?_
    refine V_goto (tgt := 20) d_X12_isThere_16 (by decide) ?_
    refine V_less (ls' := [none, none]) trivial ?_
    exact hJj3 true (by rw [if_pos c12])
theorem s_X12_isThere {G : Gl} (hG : G.1.stackTraces = false) {μ : Mem} {p1 : Int32} {r : Bool} (hf : f_X12_isThere μ p1 = some r) : Rt G yX12_isThere F_X12_isThere (some .boolean) [.ref (G.2.1 + 264), .int p1] μ (some (.int (b2i r))) μ := fun n => Sd.of hG ⟨by decide +kernel, rfl, rfl⟩ rfl (Nat.le_of_ble_eq_true rfl) rfl (fun C hK => s_X12_isThere_e hG hf hK)
theorem d_X12_hasLaw_0 : decode F_X12_hasLaw.2.1 0 = .ok (.aload_n 0, 1) := by decide +kernel
theorem d_X12_hasLaw_1 : decode F_X12_hasLaw.2.1 1 = .ok (.getfield 13, 3) := by decide +kernel
theorem d_X12_hasLaw_4 : decode F_X12_hasLaw.2.1 4 = .ok (.iconst 2, 1) := by decide +kernel
theorem d_X12_hasLaw_5 : decode F_X12_hasLaw.2.1 5 = .ok (.iaload, 1) := by decide +kernel
theorem d_X12_hasLaw_6 : decode F_X12_hasLaw.2.1 6 = .ok (.iconst 1, 1) := by decide +kernel
theorem d_X12_hasLaw_7 : decode F_X12_hasLaw.2.1 7 = .ok (.if_icmp .ne 7, 3) := by decide +kernel
theorem d_X12_hasLaw_10 : decode F_X12_hasLaw.2.1 10 = .ok (.iconst 1, 1) := by decide +kernel
theorem d_X12_hasLaw_11 : decode F_X12_hasLaw.2.1 11 = .ok (.goto 4, 3) := by decide +kernel
theorem d_X12_hasLaw_14 : decode F_X12_hasLaw.2.1 14 = .ok (.iconst 0, 1) := by decide +kernel
theorem d_X12_hasLaw_15 : decode F_X12_hasLaw.2.1 15 = .ok (.ireturn, 1) := by decide +kernel
def f_X12_hasLaw (μ : Mem) : Option Bool :=
Option.bind (rd μ 265 2068 2) fun t1 =>
some (if t1 = 1 then true else false)
theorem s_X12_hasLaw_e {G : Gl} (hG : G.1.stackTraces = false) {C : Cx} {n : Nat} {μ : Mem}  {r : Bool} (hf : f_X12_hasLaw μ = some r) (hK : FinR G C F_X12_hasLaw (some .boolean) (some (.int (b2i r))) μ) : V G C F_X12_hasLaw 0 [some (.ref (G.2.1 + 264))] [] (pic G μ) n 0 0 := by
  unfold f_X12_hasLaw at hf
  refine V_aload_n d_X12_hasLaw_0 rfl rfl ?_
  refine B_get k_264 fl_RX12_13 d_X12_hasLaw_1 g_12_1 ?_
  refine V_iconst (v := 2) d_X12_hasLaw_4 ic_2 ?_
  obtain ⟨t1, ht1, hf⟩ := ob hf
  refine B_iald k_265 ht1 d_X12_hasLaw_5 ?_
  refine V_iconst (v := 1) d_X12_hasLaw_6 ic_1 ?_
  have hJj2 : ∀ j2 : Bool, j2 = (if t1 = 1 then true else false) → V G C F_X12_hasLaw 15 [none] [.int (b2i j2)] (pic G μ) n 0 0 := by
    intro j2 ej2
    subst ej2
    cases hf
    exact R_z hK d_X12_hasLaw_15 (Nat.le_of_ble_eq_true rfl) (Nat.le_of_ble_eq_true rfl)
  refine V_icmp_ne (tgt := 14) d_X12_hasLaw_7 (by decide) (fun c7 => ?_) (fun c7 => ?_)
  · refine V_iconst (v := 0) d_X12_hasLaw_14 ic_0 ?_
    refine V_less (ls' := [none]) trivial ?_
    exact hJj2 false (by rw [if_neg c7])
  · refine V_iconst (v := 1) d_X12_hasLaw_10 ic_1 ?_
    refine V_goto (tgt := 15) d_X12_hasLaw_11 (by decide) ?_
    refine V_less (ls' := [none]) trivial ?_
    exact hJj2 true (by rw [if_pos c7])
theorem s_X12_hasLaw {G : Gl} (hG : G.1.stackTraces = false) {μ : Mem} {r : Bool} (hf : f_X12_hasLaw μ = some r) : Rt G yX12_hasLaw F_X12_hasLaw (some .boolean) [.ref (G.2.1 + 264)] μ (some (.int (b2i r))) μ := fun n => Sd.of hG ⟨by decide +kernel, rfl, rfl⟩ rfl (Nat.le_of_ble_eq_true rfl) rfl (fun C hK => s_X12_hasLaw_e hG hf hK)
theorem d_X12_owesOf_0 : decode F_X12_owesOf.2.1 0 = .ok (.iconst 0, 1) := by decide +kernel
theorem d_X12_owesOf_1 : decode F_X12_owesOf.2.1 1 = .ok (.istore_n 2, 1) := by decide +kernel
theorem d_X12_owesOf_2 : decode F_X12_owesOf.2.1 2 = .ok (.iconst 2, 1) := by decide +kernel
theorem d_X12_owesOf_3 : decode F_X12_owesOf.2.1 3 = .ok (.iload_n 1, 1) := by decide +kernel
theorem d_X12_owesOf_4 : decode F_X12_owesOf.2.1 4 = .ok (.imul, 1) := by decide +kernel
theorem d_X12_owesOf_5 : decode F_X12_owesOf.2.1 5 = .ok (.istore_n 3, 1) := by decide +kernel
theorem d_X12_owesOf_6 : decode F_X12_owesOf.2.1 6 = .ok (.iload_n 3, 1) := by decide +kernel
theorem d_X12_owesOf_7 : decode F_X12_owesOf.2.1 7 = .ok (.iconst 2, 1) := by decide +kernel
theorem d_X12_owesOf_8 : decode F_X12_owesOf.2.1 8 = .ok (.iload_n 1, 1) := by decide +kernel
theorem d_X12_owesOf_9 : decode F_X12_owesOf.2.1 9 = .ok (.imul, 1) := by decide +kernel
theorem d_X12_owesOf_10 : decode F_X12_owesOf.2.1 10 = .ok (.iconst 1, 1) := by decide +kernel
theorem d_X12_owesOf_11 : decode F_X12_owesOf.2.1 11 = .ok (.iadd, 1) := by decide +kernel
theorem d_X12_owesOf_12 : decode F_X12_owesOf.2.1 12 = .ok (.if_icmp .gt 30, 3) := by decide +kernel
theorem d_X12_owesOf_15 : decode F_X12_owesOf.2.1 15 = .ok (.iload_n 2, 1) := by decide +kernel
theorem d_X12_owesOf_16 : decode F_X12_owesOf.2.1 16 = .ok (.aload_n 0, 1) := by decide +kernel
theorem d_X12_owesOf_17 : decode F_X12_owesOf.2.1 17 = .ok (.iload_n 3, 1) := by decide +kernel
theorem d_X12_owesOf_18 : decode F_X12_owesOf.2.1 18 = .ok (.invokevirtual 296, 3) := by decide +kernel
theorem d_X12_owesOf_21 : decode F_X12_owesOf.2.1 21 = .ok (.ifCond .eq 12, 3) := by decide +kernel
theorem d_X12_owesOf_24 : decode F_X12_owesOf.2.1 24 = .ok (.aload_n 0, 1) := by decide +kernel
theorem d_X12_owesOf_25 : decode F_X12_owesOf.2.1 25 = .ok (.iload_n 3, 1) := by decide +kernel
theorem d_X12_owesOf_26 : decode F_X12_owesOf.2.1 26 = .ok (.iconst 2, 1) := by decide +kernel
theorem d_X12_owesOf_27 : decode F_X12_owesOf.2.1 27 = .ok (.invokevirtual 70, 3) := by decide +kernel
theorem d_X12_owesOf_30 : decode F_X12_owesOf.2.1 30 = .ok (.goto 4, 3) := by decide +kernel
theorem d_X12_owesOf_33 : decode F_X12_owesOf.2.1 33 = .ok (.iconst 0, 1) := by decide +kernel
theorem d_X12_owesOf_34 : decode F_X12_owesOf.2.1 34 = .ok (.iadd, 1) := by decide +kernel
theorem d_X12_owesOf_35 : decode F_X12_owesOf.2.1 35 = .ok (.istore_n 2, 1) := by decide +kernel
theorem d_X12_owesOf_36 : decode F_X12_owesOf.2.1 36 = .ok (.iinc 3 1, 3) := by decide +kernel
theorem d_X12_owesOf_39 : decode F_X12_owesOf.2.1 39 = .ok (.goto (-33), 3) := by decide +kernel
theorem d_X12_owesOf_42 : decode F_X12_owesOf.2.1 42 = .ok (.iload_n 2, 1) := by decide +kernel
theorem d_X12_owesOf_43 : decode F_X12_owesOf.2.1 43 = .ok (.ireturn, 1) := by decide +kernel
def f_X12_owesOf_j34_6 (μ : Mem) (l1 : Int32) (l3 : Int32) (k0 : Int32) (k1 : Int32) : Option ((Int32 × Int32) ⊕ Int32) :=
some (.inl ((k0 + k1), (l3 + 1)))
def f_X12_owesOf_b6 (μ : Mem) (l1 : Int32) (l2 : Int32) (l3 : Int32) : Option ((Int32 × Int32) ⊕ Int32) :=
if ((2 * l1) + 1) < l3 then
some (.inr l2)
else
Option.bind (f_X12_isPledged μ l3) fun t1 =>
if t1 = true then
Option.bind (f_X12_ofLace μ l3 2) fun t2 =>
f_X12_owesOf_j34_6 μ l1 l3 l2 t2
else
f_X12_owesOf_j34_6 μ l1 l3 l2 0
def f_X12_owesOf_j42 (μ : Mem) (l2 : Int32) : Option Int32 :=
some l2
def f_X12_owesOf_l6 (μ : Mem) (l1 : Int32) (l2 : Int32) (l3 : Int32) : Option Int32 := Option.bind (loopN 10000 (fun z : (Int32 × Int32) => f_X12_owesOf_b6 μ l1 z.1 z.2) (l2, l3)) fun t : Int32 => f_X12_owesOf_j42 μ t
def f_X12_owesOf (μ : Mem) (p1 : Int32) : Option Int32 :=
f_X12_owesOf_l6 μ p1 0 (2 * p1)
theorem s_X12_owesOf_j34_6 {G : Gl} (hG : G.1.stackTraces = false) {C : Cx} {n : Nat} {μ : Mem} {l1 : Int32} {l3 : Int32} {k0 : Int32} {k1 : Int32} {y : ((Int32 × Int32) ⊕ Int32)} (hf : f_X12_owesOf_j34_6 μ l1 l3 k0 k1 = some y) (hK : (∀ z', y = .inl z' → ∀ n, V G C F_X12_owesOf 6 [some (.ref (G.2.1 + 264)), some (.int l1), some (.int z'.1), some (.int z'.2)] [] (pic G μ) n 0 0) ∧ (∀ x', y = .inr x' → ∀ n, V G C F_X12_owesOf 42 [none, none, some (.int x'), none] [] (pic G μ) n 0 0)) : V G C F_X12_owesOf 34 [some (.ref (G.2.1 + 264)), some (.int l1), none, some (.int l3)] [.int k1, .int k0] (pic G μ) n 0 0 := by
  unfold f_X12_owesOf_j34_6 at hf
  refine V_iadd d_X12_owesOf_34 ?_
  refine V_istore_n (ls' := [_, _, _, _]) d_X12_owesOf_35 rfl rfl rfl ?_
  refine V_iinc (v := (l3 + 1)) (ls' := [_, _, _, _]) d_X12_owesOf_36 rfl (by rw [ic_1]) rfl ?_
  refine V_goto (tgt := 6) d_X12_owesOf_39 (by decide) ?_
  refine V_less (ls' := [some _, some _, some _, some _]) ⟨rfl, rfl, rfl, rfl, trivial⟩ ?_
  cases hf
  exact hK.1 _ rfl _
theorem s_X12_owesOf_b6 {G : Gl} (hG : G.1.stackTraces = false) {C : Cx} {n : Nat} {μ : Mem} {l1 : Int32} {l2 : Int32} {l3 : Int32} {y : ((Int32 × Int32) ⊕ Int32)} (hf : f_X12_owesOf_b6 μ l1 l2 l3 = some y) (hK : (∀ z', y = .inl z' → ∀ n, V G C F_X12_owesOf 6 [some (.ref (G.2.1 + 264)), some (.int l1), some (.int z'.1), some (.int z'.2)] [] (pic G μ) n 0 0) ∧ (∀ x', y = .inr x' → ∀ n, V G C F_X12_owesOf 42 [none, none, some (.int x'), none] [] (pic G μ) n 0 0)) : V G C F_X12_owesOf 6 [some (.ref (G.2.1 + 264)), some (.int l1), some (.int l2), some (.int l3)] [] (pic G μ) n 0 0 := by
  unfold f_X12_owesOf_b6 at hf
  refine V_iload_n d_X12_owesOf_6 rfl rfl ?_
  refine V_iconst (v := 2) d_X12_owesOf_7 ic_2 ?_
  refine V_iload_n d_X12_owesOf_8 rfl rfl ?_
  refine V_imul d_X12_owesOf_9 ?_
  refine V_iconst (v := 1) d_X12_owesOf_10 ic_1 ?_
  refine V_iadd d_X12_owesOf_11 ?_
  refine V_icmp_gt (tgt := 42) d_X12_owesOf_12 (by decide) (fun c12 => ?_) (fun c12 => ?_)
  · replace hf := iteT c12 hf
    refine V_less (ls' := [none, none, some _, none]) ⟨rfl, trivial⟩ ?_
    cases hf
    exact hK.2 _ rfl _
  · replace hf := iteF c12 hf
    refine V_iload_n d_X12_owesOf_15 rfl rfl ?_
    refine V_aload_n d_X12_owesOf_16 rfl rfl ?_
    refine V_iload_n d_X12_owesOf_17 rfl rfl ?_
    obtain ⟨t1, ht1, hf⟩ := ob hf
    refine B_callV1 (s_X12_isPledged hG ht1) k_264 clX12 m_X12_isPledged kv_RX12_296 d_X12_owesOf_18 rfl (Nat.le_of_ble_eq_true rfl) ⟨rfl, rfl, Nat.le_of_ble_eq_true rfl, Nat.le_of_ble_eq_true rfl, Nat.le_of_ble_eq_true rfl⟩ (fun n => ?_)
    refine V_if_eq (tgt := 33) d_X12_owesOf_21 (by decide) (fun c21 => ?_) (fun c21 => ?_)
    · replace hf := iteF (b2i_nt (b2i_eq0 c21)) hf
      refine V_iconst (v := 0) d_X12_owesOf_33 ic_0 ?_
      refine V_less (ls' := [some _, some _, none, some _]) ⟨rfl, rfl, rfl, trivial⟩ ?_
      exact s_X12_owesOf_j34_6 hG hf hK
    · replace hf := iteT (b2i_ne0 c21) hf
      refine V_aload_n d_X12_owesOf_24 rfl rfl ?_
      refine V_iload_n d_X12_owesOf_25 rfl rfl ?_
      refine V_iconst (v := 2) d_X12_owesOf_26 ic_2 ?_
      obtain ⟨t2, ht2, hf⟩ := ob hf
      refine B_callV1 (s_X12_ofLace hG ht2) k_264 clX12 m_X12_ofLace kv_RX12_70 d_X12_owesOf_27 rfl (Nat.le_of_ble_eq_true rfl) ⟨rfl, rfl, Nat.le_of_ble_eq_true rfl, Nat.le_of_ble_eq_true rfl, Nat.le_of_ble_eq_true rfl⟩ (fun n => ?_)
      refine V_goto (tgt := 34) d_X12_owesOf_30 (by decide) ?_
      refine V_less (ls' := [some _, some _, none, some _]) ⟨rfl, rfl, rfl, trivial⟩ ?_
      exact s_X12_owesOf_j34_6 hG hf hK
theorem s_X12_owesOf_j42 {G : Gl} (hG : G.1.stackTraces = false) {C : Cx} {n : Nat} {μ : Mem} {l2 : Int32} {r : Int32} (hf : f_X12_owesOf_j42 μ l2 = some r) (hK : FinR G C F_X12_owesOf (some .int) (some (.int r)) μ) : V G C F_X12_owesOf 42 [none, none, some (.int l2), none] [] (pic G μ) n 0 0 := by
  unfold f_X12_owesOf_j42 at hf
  refine V_iload_n d_X12_owesOf_42 rfl rfl ?_
  cases hf
  exact R_i hK d_X12_owesOf_43 (Nat.le_of_ble_eq_true rfl) (Nat.le_of_ble_eq_true rfl)
theorem s_X12_owesOf_l6 {G : Gl} (hG : G.1.stackTraces = false) {C : Cx} {n : Nat} {μ : Mem} {l1 : Int32} {l2 : Int32} {l3 : Int32} {r : Int32} (hf : f_X12_owesOf_l6 μ l1 l2 l3 = some r) (hK : FinR G C F_X12_owesOf (some .int) (some (.int r)) μ) : V G C F_X12_owesOf 6 [some (.ref (G.2.1 + 264)), some (.int l1), some (.int l2), some (.int l3)] [] (pic G μ) n 0 0 := by
  unfold f_X12_owesOf_l6 at hf
  obtain ⟨t, hl, hf⟩ := ob hf
  refine loopV (P := fun z => ∀ n, V G C F_X12_owesOf 6 [some (.ref (G.2.1 + 264)), some (.int l1), some (.int z.1), some (.int z.2)] [] (pic G μ) n 0 0) (t := t) ?_ _ _ hl n
  intro z y' hy hI hT n
  refine s_X12_owesOf_b6 hG hy ⟨hI, fun x9 ex => ?_⟩
  have ex2 := hT x9 ex
  subst ex2
  intro n
  exact s_X12_owesOf_j42 hG hf hK
theorem s_X12_owesOf_e {G : Gl} (hG : G.1.stackTraces = false) {C : Cx} {n : Nat} {μ : Mem} {p1 : Int32} {r : Int32} (hf : f_X12_owesOf μ p1 = some r) (hK : FinR G C F_X12_owesOf (some .int) (some (.int r)) μ) : V G C F_X12_owesOf 0 [some (.ref (G.2.1 + 264)), some (.int p1), none, none] [] (pic G μ) n 0 0 := by
  unfold f_X12_owesOf at hf
  refine V_iconst (v := 0) d_X12_owesOf_0 ic_0 ?_
  refine V_istore_n (ls' := [_, _, _, _]) d_X12_owesOf_1 rfl rfl rfl ?_
  refine V_iconst (v := 2) d_X12_owesOf_2 ic_2 ?_
  refine V_iload_n d_X12_owesOf_3 rfl rfl ?_
  refine V_imul d_X12_owesOf_4 ?_
  refine V_istore_n (ls' := [_, _, _, _]) d_X12_owesOf_5 rfl rfl rfl ?_
  refine V_less (ls' := [some _, some _, some _, some _]) ⟨rfl, rfl, rfl, rfl, trivial⟩ ?_
  exact s_X12_owesOf_l6 hG hf hK
theorem s_X12_owesOf {G : Gl} (hG : G.1.stackTraces = false) {μ : Mem} {p1 : Int32} {r : Int32} (hf : f_X12_owesOf μ p1 = some r) : Rt G yX12_owesOf F_X12_owesOf (some .int) [.ref (G.2.1 + 264), .int p1] μ (some (.int r)) μ := fun n => Sd.of hG ⟨by decide +kernel, rfl, rfl⟩ rfl (Nat.le_of_ble_eq_true rfl) rfl (fun C hK => s_X12_owesOf_e hG hf hK)
theorem d_X12_dueTo_0 : decode F_X12_dueTo.2.1 0 = .ok (.iconst 0, 1) := by decide +kernel
theorem d_X12_dueTo_1 : decode F_X12_dueTo.2.1 1 = .ok (.istore_n 2, 1) := by decide +kernel
theorem d_X12_dueTo_2 : decode F_X12_dueTo.2.1 2 = .ok (.iconst 0, 1) := by decide +kernel
theorem d_X12_dueTo_3 : decode F_X12_dueTo.2.1 3 = .ok (.istore_n 3, 1) := by decide +kernel
theorem d_X12_dueTo_4 : decode F_X12_dueTo.2.1 4 = .ok (.iload_n 3, 1) := by decide +kernel
theorem d_X12_dueTo_5 : decode F_X12_dueTo.2.1 5 = .ok (.aload_n 0, 1) := by decide +kernel
theorem d_X12_dueTo_6 : decode F_X12_dueTo.2.1 6 = .ok (.invokevirtual 77, 3) := by decide +kernel
theorem d_X12_dueTo_9 : decode F_X12_dueTo.2.1 9 = .ok (.if_icmp .ge 40, 3) := by decide +kernel
theorem d_X12_dueTo_12 : decode F_X12_dueTo.2.1 12 = .ok (.iload_n 2, 1) := by decide +kernel
theorem d_X12_dueTo_13 : decode F_X12_dueTo.2.1 13 = .ok (.aload_n 0, 1) := by decide +kernel
theorem d_X12_dueTo_14 : decode F_X12_dueTo.2.1 14 = .ok (.iload_n 3, 1) := by decide +kernel
theorem d_X12_dueTo_15 : decode F_X12_dueTo.2.1 15 = .ok (.invokevirtual 296, 3) := by decide +kernel
theorem d_X12_dueTo_18 : decode F_X12_dueTo.2.1 18 = .ok (.ifCond .eq 22, 3) := by decide +kernel
theorem d_X12_dueTo_21 : decode F_X12_dueTo.2.1 21 = .ok (.aload_n 0, 1) := by decide +kernel
theorem d_X12_dueTo_22 : decode F_X12_dueTo.2.1 22 = .ok (.iload_n 3, 1) := by decide +kernel
theorem d_X12_dueTo_23 : decode F_X12_dueTo.2.1 23 = .ok (.iconst 1, 1) := by decide +kernel
theorem d_X12_dueTo_24 : decode F_X12_dueTo.2.1 24 = .ok (.invokevirtual 70, 3) := by decide +kernel
theorem d_X12_dueTo_27 : decode F_X12_dueTo.2.1 27 = .ok (.iload_n 1, 1) := by decide +kernel
theorem d_X12_dueTo_28 : decode F_X12_dueTo.2.1 28 = .ok (.if_icmp .ne 12, 3) := by decide +kernel
theorem d_X12_dueTo_31 : decode F_X12_dueTo.2.1 31 = .ok (.aload_n 0, 1) := by decide +kernel
theorem d_X12_dueTo_32 : decode F_X12_dueTo.2.1 32 = .ok (.iload_n 3, 1) := by decide +kernel
theorem d_X12_dueTo_33 : decode F_X12_dueTo.2.1 33 = .ok (.iconst 2, 1) := by decide +kernel
theorem d_X12_dueTo_34 : decode F_X12_dueTo.2.1 34 = .ok (.invokevirtual 70, 3) := by decide +kernel
theorem d_X12_dueTo_37 : decode F_X12_dueTo.2.1 37 = .ok (.goto 4, 3) := by decide +kernel
theorem d_X12_dueTo_40 : decode F_X12_dueTo.2.1 40 = .ok (.iconst 0, 1) := by decide +kernel
theorem d_X12_dueTo_41 : decode F_X12_dueTo.2.1 41 = .ok (.iadd, 1) := by decide +kernel
theorem d_X12_dueTo_42 : decode F_X12_dueTo.2.1 42 = .ok (.istore_n 2, 1) := by decide +kernel
theorem d_X12_dueTo_43 : decode F_X12_dueTo.2.1 43 = .ok (.iinc 3 1, 3) := by decide +kernel
theorem d_X12_dueTo_46 : decode F_X12_dueTo.2.1 46 = .ok (.goto (-42), 3) := by decide +kernel
theorem d_X12_dueTo_49 : decode F_X12_dueTo.2.1 49 = .ok (.iload_n 2, 1) := by decide +kernel
theorem d_X12_dueTo_50 : decode F_X12_dueTo.2.1 50 = .ok (.ireturn, 1) := by decide +kernel
def f_X12_dueTo_j41_4 (μ : Mem) (l1 : Int32) (l3 : Int32) (k0 : Int32) (k1 : Int32) : Option ((Int32 × Int32) ⊕ Int32) :=
some (.inl ((k0 + k1), (l3 + 1)))
def f_X12_dueTo_j40_4 (μ : Mem) (l1 : Int32) (l3 : Int32) (k0 : Int32) : Option ((Int32 × Int32) ⊕ Int32) :=
f_X12_dueTo_j41_4 μ l1 l3 k0 0
def f_X12_dueTo_b4 (μ : Mem) (l1 : Int32) (l2 : Int32) (l3 : Int32) : Option ((Int32 × Int32) ⊕ Int32) :=
Option.bind (f_X12_laces μ) fun t1 =>
if t1 ≤ l3 then
some (.inr l2)
else
Option.bind (f_X12_isPledged μ l3) fun t2 =>
if t2 = true then
Option.bind (f_X12_ofLace μ l3 1) fun t3 =>
if t3 = l1 then
Option.bind (f_X12_ofLace μ l3 2) fun t4 =>
f_X12_dueTo_j41_4 μ l1 l3 l2 t4
else
f_X12_dueTo_j40_4 μ l1 l3 l2
else
f_X12_dueTo_j40_4 μ l1 l3 l2
def f_X12_dueTo_j49 (μ : Mem) (l2 : Int32) : Option Int32 :=
some l2
def f_X12_dueTo_l4 (μ : Mem) (l1 : Int32) (l2 : Int32) (l3 : Int32) : Option Int32 := Option.bind (loopN 10000 (fun z : (Int32 × Int32) => f_X12_dueTo_b4 μ l1 z.1 z.2) (l2, l3)) fun t : Int32 => f_X12_dueTo_j49 μ t
def f_X12_dueTo (μ : Mem) (p1 : Int32) : Option Int32 :=
f_X12_dueTo_l4 μ p1 0 0
theorem s_X12_dueTo_j41_4 {G : Gl} (hG : G.1.stackTraces = false) {C : Cx} {n : Nat} {μ : Mem} {l1 : Int32} {l3 : Int32} {k0 : Int32} {k1 : Int32} {y : ((Int32 × Int32) ⊕ Int32)} (hf : f_X12_dueTo_j41_4 μ l1 l3 k0 k1 = some y) (hK : (∀ z', y = .inl z' → ∀ n, V G C F_X12_dueTo 4 [some (.ref (G.2.1 + 264)), some (.int l1), some (.int z'.1), some (.int z'.2)] [] (pic G μ) n 0 0) ∧ (∀ x', y = .inr x' → ∀ n, V G C F_X12_dueTo 49 [none, none, some (.int x'), none] [] (pic G μ) n 0 0)) : V G C F_X12_dueTo 41 [some (.ref (G.2.1 + 264)), some (.int l1), none, some (.int l3)] [.int k1, .int k0] (pic G μ) n 0 0 := by
  unfold f_X12_dueTo_j41_4 at hf
  refine V_iadd d_X12_dueTo_41 ?_
  refine V_istore_n (ls' := [_, _, _, _]) d_X12_dueTo_42 rfl rfl rfl ?_
  refine V_iinc (v := (l3 + 1)) (ls' := [_, _, _, _]) d_X12_dueTo_43 rfl (by rw [ic_1]) rfl ?_
  refine V_goto (tgt := 4) d_X12_dueTo_46 (by decide) ?_
  refine V_less (ls' := [some _, some _, some _, some _]) ⟨rfl, rfl, rfl, rfl, trivial⟩ ?_
  cases hf
  exact hK.1 _ rfl _
theorem s_X12_dueTo_j40_4 {G : Gl} (hG : G.1.stackTraces = false) {C : Cx} {n : Nat} {μ : Mem} {l1 : Int32} {l3 : Int32} {k0 : Int32} {y : ((Int32 × Int32) ⊕ Int32)} (hf : f_X12_dueTo_j40_4 μ l1 l3 k0 = some y) (hK : (∀ z', y = .inl z' → ∀ n, V G C F_X12_dueTo 4 [some (.ref (G.2.1 + 264)), some (.int l1), some (.int z'.1), some (.int z'.2)] [] (pic G μ) n 0 0) ∧ (∀ x', y = .inr x' → ∀ n, V G C F_X12_dueTo 49 [none, none, some (.int x'), none] [] (pic G μ) n 0 0)) : V G C F_X12_dueTo 40 [some (.ref (G.2.1 + 264)), some (.int l1), none, some (.int l3)] [.int k0] (pic G μ) n 0 0 := by
  unfold f_X12_dueTo_j40_4 at hf
  refine V_iconst (v := 0) d_X12_dueTo_40 ic_0 ?_
  refine V_less (ls' := [some _, some _, none, some _]) ⟨rfl, rfl, rfl, trivial⟩ ?_
  exact s_X12_dueTo_j41_4 hG hf hK
theorem s_X12_dueTo_b4 {G : Gl} (hG : G.1.stackTraces = false) {C : Cx} {n : Nat} {μ : Mem} {l1 : Int32} {l2 : Int32} {l3 : Int32} {y : ((Int32 × Int32) ⊕ Int32)} (hf : f_X12_dueTo_b4 μ l1 l2 l3 = some y) (hK : (∀ z', y = .inl z' → ∀ n, V G C F_X12_dueTo 4 [some (.ref (G.2.1 + 264)), some (.int l1), some (.int z'.1), some (.int z'.2)] [] (pic G μ) n 0 0) ∧ (∀ x', y = .inr x' → ∀ n, V G C F_X12_dueTo 49 [none, none, some (.int x'), none] [] (pic G μ) n 0 0)) : V G C F_X12_dueTo 4 [some (.ref (G.2.1 + 264)), some (.int l1), some (.int l2), some (.int l3)] [] (pic G μ) n 0 0 := by
  unfold f_X12_dueTo_b4 at hf
  refine V_iload_n d_X12_dueTo_4 rfl rfl ?_
  refine V_aload_n d_X12_dueTo_5 rfl rfl ?_
  obtain ⟨t1, ht1, hf⟩ := ob hf
  refine B_callV1 (s_X12_laces hG ht1) k_264 clX12 m_X12_laces kv_RX12_77 d_X12_dueTo_6 rfl (Nat.le_of_ble_eq_true rfl) ⟨rfl, rfl, Nat.le_of_ble_eq_true rfl, Nat.le_of_ble_eq_true rfl, Nat.le_of_ble_eq_true rfl⟩ (fun n => ?_)
  refine V_icmp_ge (tgt := 49) d_X12_dueTo_9 (by decide) (fun c9 => ?_) (fun c9 => ?_)
  · replace hf := iteT c9 hf
    refine V_less (ls' := [none, none, some _, none]) ⟨rfl, trivial⟩ ?_
    cases hf
    exact hK.2 _ rfl _
  · replace hf := iteF c9 hf
    refine V_iload_n d_X12_dueTo_12 rfl rfl ?_
    refine V_aload_n d_X12_dueTo_13 rfl rfl ?_
    refine V_iload_n d_X12_dueTo_14 rfl rfl ?_
    obtain ⟨t2, ht2, hf⟩ := ob hf
    refine B_callV1 (s_X12_isPledged hG ht2) k_264 clX12 m_X12_isPledged kv_RX12_296 d_X12_dueTo_15 rfl (Nat.le_of_ble_eq_true rfl) ⟨rfl, rfl, Nat.le_of_ble_eq_true rfl, Nat.le_of_ble_eq_true rfl, Nat.le_of_ble_eq_true rfl⟩ (fun n => ?_)
    refine V_if_eq (tgt := 40) d_X12_dueTo_18 (by decide) (fun c18 => ?_) (fun c18 => ?_)
    · replace hf := iteF (b2i_nt (b2i_eq0 c18)) hf
      refine V_less (ls' := [some _, some _, none, some _]) ⟨rfl, rfl, rfl, trivial⟩ ?_
      exact s_X12_dueTo_j40_4 hG hf hK
    · replace hf := iteT (b2i_ne0 c18) hf
      refine V_aload_n d_X12_dueTo_21 rfl rfl ?_
      refine V_iload_n d_X12_dueTo_22 rfl rfl ?_
      refine V_iconst (v := 1) d_X12_dueTo_23 ic_1 ?_
      obtain ⟨t3, ht3, hf⟩ := ob hf
      refine B_callV1 (s_X12_ofLace hG ht3) k_264 clX12 m_X12_ofLace kv_RX12_70 d_X12_dueTo_24 rfl (Nat.le_of_ble_eq_true rfl) ⟨rfl, rfl, Nat.le_of_ble_eq_true rfl, Nat.le_of_ble_eq_true rfl, Nat.le_of_ble_eq_true rfl⟩ (fun n => ?_)
      refine V_iload_n d_X12_dueTo_27 rfl rfl ?_
      refine V_icmp_ne (tgt := 40) d_X12_dueTo_28 (by decide) (fun c28 => ?_) (fun c28 => ?_)
      · replace hf := iteF c28 hf
        refine V_less (ls' := [some _, some _, none, some _]) ⟨rfl, rfl, rfl, trivial⟩ ?_
        exact s_X12_dueTo_j40_4 hG hf hK
      · replace hf := iteT c28 hf
        refine V_aload_n d_X12_dueTo_31 rfl rfl ?_
        refine V_iload_n d_X12_dueTo_32 rfl rfl ?_
        refine V_iconst (v := 2) d_X12_dueTo_33 ic_2 ?_
        obtain ⟨t4, ht4, hf⟩ := ob hf
        refine B_callV1 (s_X12_ofLace hG ht4) k_264 clX12 m_X12_ofLace kv_RX12_70 d_X12_dueTo_34 rfl (Nat.le_of_ble_eq_true rfl) ⟨rfl, rfl, Nat.le_of_ble_eq_true rfl, Nat.le_of_ble_eq_true rfl, Nat.le_of_ble_eq_true rfl⟩ (fun n => ?_)
        refine V_goto (tgt := 41) d_X12_dueTo_37 (by decide) ?_
        refine V_less (ls' := [some _, some _, none, some _]) ⟨rfl, rfl, rfl, trivial⟩ ?_
        exact s_X12_dueTo_j41_4 hG hf hK
theorem s_X12_dueTo_j49 {G : Gl} (hG : G.1.stackTraces = false) {C : Cx} {n : Nat} {μ : Mem} {l2 : Int32} {r : Int32} (hf : f_X12_dueTo_j49 μ l2 = some r) (hK : FinR G C F_X12_dueTo (some .int) (some (.int r)) μ) : V G C F_X12_dueTo 49 [none, none, some (.int l2), none] [] (pic G μ) n 0 0 := by
  unfold f_X12_dueTo_j49 at hf
  refine V_iload_n d_X12_dueTo_49 rfl rfl ?_
  cases hf
  exact R_i hK d_X12_dueTo_50 (Nat.le_of_ble_eq_true rfl) (Nat.le_of_ble_eq_true rfl)
theorem s_X12_dueTo_l4 {G : Gl} (hG : G.1.stackTraces = false) {C : Cx} {n : Nat} {μ : Mem} {l1 : Int32} {l2 : Int32} {l3 : Int32} {r : Int32} (hf : f_X12_dueTo_l4 μ l1 l2 l3 = some r) (hK : FinR G C F_X12_dueTo (some .int) (some (.int r)) μ) : V G C F_X12_dueTo 4 [some (.ref (G.2.1 + 264)), some (.int l1), some (.int l2), some (.int l3)] [] (pic G μ) n 0 0 := by
  unfold f_X12_dueTo_l4 at hf
  obtain ⟨t, hl, hf⟩ := ob hf
  refine loopV (P := fun z => ∀ n, V G C F_X12_dueTo 4 [some (.ref (G.2.1 + 264)), some (.int l1), some (.int z.1), some (.int z.2)] [] (pic G μ) n 0 0) (t := t) ?_ _ _ hl n
  intro z y' hy hI hT n
  refine s_X12_dueTo_b4 hG hy ⟨hI, fun x9 ex => ?_⟩
  have ex2 := hT x9 ex
  subst ex2
  intro n
  exact s_X12_dueTo_j49 hG hf hK
theorem s_X12_dueTo_e {G : Gl} (hG : G.1.stackTraces = false) {C : Cx} {n : Nat} {μ : Mem} {p1 : Int32} {r : Int32} (hf : f_X12_dueTo μ p1 = some r) (hK : FinR G C F_X12_dueTo (some .int) (some (.int r)) μ) : V G C F_X12_dueTo 0 [some (.ref (G.2.1 + 264)), some (.int p1), none, none] [] (pic G μ) n 0 0 := by
  unfold f_X12_dueTo at hf
  refine V_iconst (v := 0) d_X12_dueTo_0 ic_0 ?_
  refine V_istore_n (ls' := [_, _, _, _]) d_X12_dueTo_1 rfl rfl rfl ?_
  refine V_iconst (v := 0) d_X12_dueTo_2 ic_0 ?_
  refine V_istore_n (ls' := [_, _, _, _]) d_X12_dueTo_3 rfl rfl rfl ?_
  refine V_less (ls' := [some _, some _, some _, some _]) ⟨rfl, rfl, rfl, rfl, trivial⟩ ?_
  exact s_X12_dueTo_l4 hG hf hK
theorem s_X12_dueTo {G : Gl} (hG : G.1.stackTraces = false) {μ : Mem} {p1 : Int32} {r : Int32} (hf : f_X12_dueTo μ p1 = some r) : Rt G yX12_dueTo F_X12_dueTo (some .int) [.ref (G.2.1 + 264), .int p1] μ (some (.int r)) μ := fun n => Sd.of hG ⟨by decide +kernel, rfl, rfl⟩ rfl (Nat.le_of_ble_eq_true rfl) rfl (fun C hK => s_X12_dueTo_e hG hf hK)
theorem d_X12_lostOnes_0 : decode F_X12_lostOnes.2.1 0 = .ok (.iconst 0, 1) := by decide +kernel
theorem d_X12_lostOnes_1 : decode F_X12_lostOnes.2.1 1 = .ok (.istore_n 1, 1) := by decide +kernel
theorem d_X12_lostOnes_2 : decode F_X12_lostOnes.2.1 2 = .ok (.iconst 0, 1) := by decide +kernel
theorem d_X12_lostOnes_3 : decode F_X12_lostOnes.2.1 3 = .ok (.istore_n 2, 1) := by decide +kernel
theorem d_X12_lostOnes_4 : decode F_X12_lostOnes.2.1 4 = .ok (.iload_n 2, 1) := by decide +kernel
theorem d_X12_lostOnes_5 : decode F_X12_lostOnes.2.1 5 = .ok (.aload_n 0, 1) := by decide +kernel
theorem d_X12_lostOnes_6 : decode F_X12_lostOnes.2.1 6 = .ok (.invokevirtual 77, 3) := by decide +kernel
theorem d_X12_lostOnes_9 : decode F_X12_lostOnes.2.1 9 = .ok (.if_icmp .ge 27, 3) := by decide +kernel
theorem d_X12_lostOnes_12 : decode F_X12_lostOnes.2.1 12 = .ok (.iload_n 1, 1) := by decide +kernel
theorem d_X12_lostOnes_13 : decode F_X12_lostOnes.2.1 13 = .ok (.aload_n 0, 1) := by decide +kernel
theorem d_X12_lostOnes_14 : decode F_X12_lostOnes.2.1 14 = .ok (.iload_n 2, 1) := by decide +kernel
theorem d_X12_lostOnes_15 : decode F_X12_lostOnes.2.1 15 = .ok (.invokevirtual 299, 3) := by decide +kernel
theorem d_X12_lostOnes_18 : decode F_X12_lostOnes.2.1 18 = .ok (.ifCond .eq 9, 3) := by decide +kernel
theorem d_X12_lostOnes_21 : decode F_X12_lostOnes.2.1 21 = .ok (.iconst 1, 1) := by decide +kernel
theorem d_X12_lostOnes_22 : decode F_X12_lostOnes.2.1 22 = .ok (.iload_n 2, 1) := by decide +kernel
theorem d_X12_lostOnes_23 : decode F_X12_lostOnes.2.1 23 = .ok (.ishl, 1) := by decide +kernel
theorem d_X12_lostOnes_24 : decode F_X12_lostOnes.2.1 24 = .ok (.goto 4, 3) := by decide +kernel
theorem d_X12_lostOnes_27 : decode F_X12_lostOnes.2.1 27 = .ok (.iconst 0, 1) := by decide +kernel
theorem d_X12_lostOnes_28 : decode F_X12_lostOnes.2.1 28 = .ok (.ior, 1) := by decide +kernel
theorem d_X12_lostOnes_29 : decode F_X12_lostOnes.2.1 29 = .ok (.istore_n 1, 1) := by decide +kernel
theorem d_X12_lostOnes_30 : decode F_X12_lostOnes.2.1 30 = .ok (.iinc 2 1, 3) := by decide +kernel
theorem d_X12_lostOnes_33 : decode F_X12_lostOnes.2.1 33 = .ok (.goto (-29), 3) := by decide +kernel
theorem d_X12_lostOnes_36 : decode F_X12_lostOnes.2.1 36 = .ok (.iload_n 1, 1) := by decide +kernel
theorem d_X12_lostOnes_37 : decode F_X12_lostOnes.2.1 37 = .ok (.ireturn, 1) := by decide +kernel
def f_X12_lostOnes_b4 (μ : Mem) (l1 : Int32) (l2 : Int32) : Option ((Int32 × Int32) ⊕ Int32) :=
Option.bind (f_X12_laces μ) fun t1 =>
if t1 ≤ l2 then
some (.inr l1)
else
Option.bind (f_X12_isLost μ l2) fun t2 =>
some (.inl ((l1 ||| (if t2 = true then (1 <<< (l2 &&& 31)) else 0)), (l2 + 1)))
def f_X12_lostOnes_j36 (μ : Mem) (l1 : Int32) : Option Int32 :=
some l1
def f_X12_lostOnes_l4 (μ : Mem) (l1 : Int32) (l2 : Int32) : Option Int32 := Option.bind (loopN 10000 (fun z : (Int32 × Int32) => f_X12_lostOnes_b4 μ z.1 z.2) (l1, l2)) fun t : Int32 => f_X12_lostOnes_j36 μ t
def f_X12_lostOnes (μ : Mem) : Option Int32 :=
f_X12_lostOnes_l4 μ 0 0
theorem s_X12_lostOnes_b4 {G : Gl} (hG : G.1.stackTraces = false) {C : Cx} {n : Nat} {μ : Mem} {l1 : Int32} {l2 : Int32} {y : ((Int32 × Int32) ⊕ Int32)} (hf : f_X12_lostOnes_b4 μ l1 l2 = some y) (hK : (∀ z', y = .inl z' → ∀ n, V G C F_X12_lostOnes 4 [some (.ref (G.2.1 + 264)), some (.int z'.1), some (.int z'.2)] [] (pic G μ) n 0 0) ∧ (∀ x', y = .inr x' → ∀ n, V G C F_X12_lostOnes 36 [none, some (.int x'), none] [] (pic G μ) n 0 0)) : V G C F_X12_lostOnes 4 [some (.ref (G.2.1 + 264)), some (.int l1), some (.int l2)] [] (pic G μ) n 0 0 := by
  unfold f_X12_lostOnes_b4 at hf
  refine V_iload_n d_X12_lostOnes_4 rfl rfl ?_
  refine V_aload_n d_X12_lostOnes_5 rfl rfl ?_
  obtain ⟨t1, ht1, hf⟩ := ob hf
  refine B_callV1 (s_X12_laces hG ht1) k_264 clX12 m_X12_laces kv_RX12_77 d_X12_lostOnes_6 rfl (Nat.le_of_ble_eq_true rfl) ⟨rfl, rfl, Nat.le_of_ble_eq_true rfl, Nat.le_of_ble_eq_true rfl, Nat.le_of_ble_eq_true rfl⟩ (fun n => ?_)
  refine V_icmp_ge (tgt := 36) d_X12_lostOnes_9 (by decide) (fun c9 => ?_) (fun c9 => ?_)
  · replace hf := iteT c9 hf
    refine V_less (ls' := [none, some _, none]) ⟨rfl, trivial⟩ ?_
    cases hf
    exact hK.2 _ rfl _
  · replace hf := iteF c9 hf
    refine V_iload_n d_X12_lostOnes_12 rfl rfl ?_
    refine V_aload_n d_X12_lostOnes_13 rfl rfl ?_
    refine V_iload_n d_X12_lostOnes_14 rfl rfl ?_
    obtain ⟨t2, ht2, hf⟩ := ob hf
    refine B_callV1 (s_X12_isLost hG ht2) k_264 clX12 m_X12_isLost kv_RX12_299 d_X12_lostOnes_15 rfl (Nat.le_of_ble_eq_true rfl) ⟨rfl, rfl, Nat.le_of_ble_eq_true rfl, Nat.le_of_ble_eq_true rfl, Nat.le_of_ble_eq_true rfl⟩ (fun n => ?_)
    have hJj3 : ∀ j3 : Int32, j3 = (if t2 = true then (1 <<< (l2 &&& 31)) else 0) → V G C F_X12_lostOnes 28 [some (.ref (G.2.1 + 264)), none, some (.int l2)] [.int j3, .int l1] (pic G μ) n 0 0 := by
      intro j3 ej3
      subst ej3
      refine V_ior d_X12_lostOnes_28 ?_
      refine V_istore_n (ls' := [_, _, _]) d_X12_lostOnes_29 rfl rfl rfl ?_
      refine V_iinc (v := (l2 + 1)) (ls' := [_, _, _]) d_X12_lostOnes_30 rfl (by rw [ic_1]) rfl ?_
      refine V_goto (tgt := 4) d_X12_lostOnes_33 (by decide) ?_
      refine V_less (ls' := [some _, some _, some _]) ⟨rfl, rfl, rfl, trivial⟩ ?_
      cases hf
      exact hK.1 _ rfl _
    refine V_if_eq (tgt := 27) d_X12_lostOnes_18 (by decide) (fun c18 => ?_) (fun c18 => ?_)
    · refine V_iconst (v := 0) d_X12_lostOnes_27 ic_0 ?_
      refine V_less (ls' := [some _, none, some _]) ⟨rfl, rfl, trivial⟩ ?_
      exact hJj3 0 (by rw [if_neg (b2i_nt (b2i_eq0 c18))])
    · refine V_iconst (v := 1) d_X12_lostOnes_21 ic_1 ?_
      refine V_iload_n d_X12_lostOnes_22 rfl rfl ?_
      refine V_ishl d_X12_lostOnes_23 ?_
      refine V_goto (tgt := 28) d_X12_lostOnes_24 (by decide) ?_
      refine V_less (ls' := [some _, none, some _]) ⟨rfl, rfl, trivial⟩ ?_
      exact hJj3 (1 <<< (l2 &&& 31)) (by rw [if_pos (b2i_ne0 c18)])
theorem s_X12_lostOnes_j36 {G : Gl} (hG : G.1.stackTraces = false) {C : Cx} {n : Nat} {μ : Mem} {l1 : Int32} {r : Int32} (hf : f_X12_lostOnes_j36 μ l1 = some r) (hK : FinR G C F_X12_lostOnes (some .int) (some (.int r)) μ) : V G C F_X12_lostOnes 36 [none, some (.int l1), none] [] (pic G μ) n 0 0 := by
  unfold f_X12_lostOnes_j36 at hf
  refine V_iload_n d_X12_lostOnes_36 rfl rfl ?_
  cases hf
  exact R_i hK d_X12_lostOnes_37 (Nat.le_of_ble_eq_true rfl) (Nat.le_of_ble_eq_true rfl)
theorem s_X12_lostOnes_l4 {G : Gl} (hG : G.1.stackTraces = false) {C : Cx} {n : Nat} {μ : Mem} {l1 : Int32} {l2 : Int32} {r : Int32} (hf : f_X12_lostOnes_l4 μ l1 l2 = some r) (hK : FinR G C F_X12_lostOnes (some .int) (some (.int r)) μ) : V G C F_X12_lostOnes 4 [some (.ref (G.2.1 + 264)), some (.int l1), some (.int l2)] [] (pic G μ) n 0 0 := by
  unfold f_X12_lostOnes_l4 at hf
  obtain ⟨t, hl, hf⟩ := ob hf
  refine loopV (P := fun z => ∀ n, V G C F_X12_lostOnes 4 [some (.ref (G.2.1 + 264)), some (.int z.1), some (.int z.2)] [] (pic G μ) n 0 0) (t := t) ?_ _ _ hl n
  intro z y' hy hI hT n
  refine s_X12_lostOnes_b4 hG hy ⟨hI, fun x9 ex => ?_⟩
  have ex2 := hT x9 ex
  subst ex2
  intro n
  exact s_X12_lostOnes_j36 hG hf hK
theorem s_X12_lostOnes_e {G : Gl} (hG : G.1.stackTraces = false) {C : Cx} {n : Nat} {μ : Mem}  {r : Int32} (hf : f_X12_lostOnes μ = some r) (hK : FinR G C F_X12_lostOnes (some .int) (some (.int r)) μ) : V G C F_X12_lostOnes 0 [some (.ref (G.2.1 + 264)), none, none] [] (pic G μ) n 0 0 := by
  unfold f_X12_lostOnes at hf
  refine V_iconst (v := 0) d_X12_lostOnes_0 ic_0 ?_
  refine V_istore_n (ls' := [_, _, _]) d_X12_lostOnes_1 rfl rfl rfl ?_
  refine V_iconst (v := 0) d_X12_lostOnes_2 ic_0 ?_
  refine V_istore_n (ls' := [_, _, _]) d_X12_lostOnes_3 rfl rfl rfl ?_
  refine V_less (ls' := [some _, some _, some _]) ⟨rfl, rfl, rfl, trivial⟩ ?_
  exact s_X12_lostOnes_l4 hG hf hK
theorem s_X12_lostOnes {G : Gl} (hG : G.1.stackTraces = false) {μ : Mem} {r : Int32} (hf : f_X12_lostOnes μ = some r) : Rt G yX12_lostOnes F_X12_lostOnes (some .int) [.ref (G.2.1 + 264)] μ (some (.int r)) μ := fun n => Sd.of hG ⟨by decide +kernel, rfl, rfl⟩ rfl (Nat.le_of_ble_eq_true rfl) rfl (fun C hK => s_X12_lostOnes_e hG hf hK)
theorem d_X12_pledgedOnes_0 : decode F_X12_pledgedOnes.2.1 0 = .ok (.iconst 0, 1) := by decide +kernel
theorem d_X12_pledgedOnes_1 : decode F_X12_pledgedOnes.2.1 1 = .ok (.istore_n 1, 1) := by decide +kernel
theorem d_X12_pledgedOnes_2 : decode F_X12_pledgedOnes.2.1 2 = .ok (.iconst 0, 1) := by decide +kernel
theorem d_X12_pledgedOnes_3 : decode F_X12_pledgedOnes.2.1 3 = .ok (.istore_n 2, 1) := by decide +kernel
theorem d_X12_pledgedOnes_4 : decode F_X12_pledgedOnes.2.1 4 = .ok (.iload_n 2, 1) := by decide +kernel
theorem d_X12_pledgedOnes_5 : decode F_X12_pledgedOnes.2.1 5 = .ok (.aload_n 0, 1) := by decide +kernel
theorem d_X12_pledgedOnes_6 : decode F_X12_pledgedOnes.2.1 6 = .ok (.invokevirtual 77, 3) := by decide +kernel
theorem d_X12_pledgedOnes_9 : decode F_X12_pledgedOnes.2.1 9 = .ok (.if_icmp .ge 27, 3) := by decide +kernel
theorem d_X12_pledgedOnes_12 : decode F_X12_pledgedOnes.2.1 12 = .ok (.iload_n 1, 1) := by decide +kernel
theorem d_X12_pledgedOnes_13 : decode F_X12_pledgedOnes.2.1 13 = .ok (.aload_n 0, 1) := by decide +kernel
theorem d_X12_pledgedOnes_14 : decode F_X12_pledgedOnes.2.1 14 = .ok (.iload_n 2, 1) := by decide +kernel
theorem d_X12_pledgedOnes_15 : decode F_X12_pledgedOnes.2.1 15 = .ok (.invokevirtual 296, 3) := by decide +kernel
theorem d_X12_pledgedOnes_18 : decode F_X12_pledgedOnes.2.1 18 = .ok (.ifCond .eq 9, 3) := by decide +kernel
theorem d_X12_pledgedOnes_21 : decode F_X12_pledgedOnes.2.1 21 = .ok (.iconst 1, 1) := by decide +kernel
theorem d_X12_pledgedOnes_22 : decode F_X12_pledgedOnes.2.1 22 = .ok (.iload_n 2, 1) := by decide +kernel
theorem d_X12_pledgedOnes_23 : decode F_X12_pledgedOnes.2.1 23 = .ok (.ishl, 1) := by decide +kernel
theorem d_X12_pledgedOnes_24 : decode F_X12_pledgedOnes.2.1 24 = .ok (.goto 4, 3) := by decide +kernel
theorem d_X12_pledgedOnes_27 : decode F_X12_pledgedOnes.2.1 27 = .ok (.iconst 0, 1) := by decide +kernel
theorem d_X12_pledgedOnes_28 : decode F_X12_pledgedOnes.2.1 28 = .ok (.ior, 1) := by decide +kernel
theorem d_X12_pledgedOnes_29 : decode F_X12_pledgedOnes.2.1 29 = .ok (.istore_n 1, 1) := by decide +kernel
theorem d_X12_pledgedOnes_30 : decode F_X12_pledgedOnes.2.1 30 = .ok (.iinc 2 1, 3) := by decide +kernel
theorem d_X12_pledgedOnes_33 : decode F_X12_pledgedOnes.2.1 33 = .ok (.goto (-29), 3) := by decide +kernel
theorem d_X12_pledgedOnes_36 : decode F_X12_pledgedOnes.2.1 36 = .ok (.iload_n 1, 1) := by decide +kernel
theorem d_X12_pledgedOnes_37 : decode F_X12_pledgedOnes.2.1 37 = .ok (.ireturn, 1) := by decide +kernel
def f_X12_pledgedOnes_b4 (μ : Mem) (l1 : Int32) (l2 : Int32) : Option ((Int32 × Int32) ⊕ Int32) :=
Option.bind (f_X12_laces μ) fun t1 =>
if t1 ≤ l2 then
some (.inr l1)
else
Option.bind (f_X12_isPledged μ l2) fun t2 =>
some (.inl ((l1 ||| (if t2 = true then (1 <<< (l2 &&& 31)) else 0)), (l2 + 1)))
def f_X12_pledgedOnes_j36 (μ : Mem) (l1 : Int32) : Option Int32 :=
some l1
def f_X12_pledgedOnes_l4 (μ : Mem) (l1 : Int32) (l2 : Int32) : Option Int32 := Option.bind (loopN 10000 (fun z : (Int32 × Int32) => f_X12_pledgedOnes_b4 μ z.1 z.2) (l1, l2)) fun t : Int32 => f_X12_pledgedOnes_j36 μ t
def f_X12_pledgedOnes (μ : Mem) : Option Int32 :=
f_X12_pledgedOnes_l4 μ 0 0
theorem s_X12_pledgedOnes_b4 {G : Gl} (hG : G.1.stackTraces = false) {C : Cx} {n : Nat} {μ : Mem} {l1 : Int32} {l2 : Int32} {y : ((Int32 × Int32) ⊕ Int32)} (hf : f_X12_pledgedOnes_b4 μ l1 l2 = some y) (hK : (∀ z', y = .inl z' → ∀ n, V G C F_X12_pledgedOnes 4 [some (.ref (G.2.1 + 264)), some (.int z'.1), some (.int z'.2)] [] (pic G μ) n 0 0) ∧ (∀ x', y = .inr x' → ∀ n, V G C F_X12_pledgedOnes 36 [none, some (.int x'), none] [] (pic G μ) n 0 0)) : V G C F_X12_pledgedOnes 4 [some (.ref (G.2.1 + 264)), some (.int l1), some (.int l2)] [] (pic G μ) n 0 0 := by
  unfold f_X12_pledgedOnes_b4 at hf
  refine V_iload_n d_X12_pledgedOnes_4 rfl rfl ?_
  refine V_aload_n d_X12_pledgedOnes_5 rfl rfl ?_
  obtain ⟨t1, ht1, hf⟩ := ob hf
  refine B_callV1 (s_X12_laces hG ht1) k_264 clX12 m_X12_laces kv_RX12_77 d_X12_pledgedOnes_6 rfl (Nat.le_of_ble_eq_true rfl) ⟨rfl, rfl, Nat.le_of_ble_eq_true rfl, Nat.le_of_ble_eq_true rfl, Nat.le_of_ble_eq_true rfl⟩ (fun n => ?_)
  refine V_icmp_ge (tgt := 36) d_X12_pledgedOnes_9 (by decide) (fun c9 => ?_) (fun c9 => ?_)
  · replace hf := iteT c9 hf
    refine V_less (ls' := [none, some _, none]) ⟨rfl, trivial⟩ ?_
    cases hf
    exact hK.2 _ rfl _
  · replace hf := iteF c9 hf
    refine V_iload_n d_X12_pledgedOnes_12 rfl rfl ?_
    refine V_aload_n d_X12_pledgedOnes_13 rfl rfl ?_
    refine V_iload_n d_X12_pledgedOnes_14 rfl rfl ?_
    obtain ⟨t2, ht2, hf⟩ := ob hf
    refine B_callV1 (s_X12_isPledged hG ht2) k_264 clX12 m_X12_isPledged kv_RX12_296 d_X12_pledgedOnes_15 rfl (Nat.le_of_ble_eq_true rfl) ⟨rfl, rfl, Nat.le_of_ble_eq_true rfl, Nat.le_of_ble_eq_true rfl, Nat.le_of_ble_eq_true rfl⟩ (fun n => ?_)
    have hJj3 : ∀ j3 : Int32, j3 = (if t2 = true then (1 <<< (l2 &&& 31)) else 0) → V G C F_X12_pledgedOnes 28 [some (.ref (G.2.1 + 264)), none, some (.int l2)] [.int j3, .int l1] (pic G μ) n 0 0 := by
      intro j3 ej3
      subst ej3
      refine V_ior d_X12_pledgedOnes_28 ?_
      refine V_istore_n (ls' := [_, _, _]) d_X12_pledgedOnes_29 rfl rfl rfl ?_
      refine V_iinc (v := (l2 + 1)) (ls' := [_, _, _]) d_X12_pledgedOnes_30 rfl (by rw [ic_1]) rfl ?_
      refine V_goto (tgt := 4) d_X12_pledgedOnes_33 (by decide) ?_
      refine V_less (ls' := [some _, some _, some _]) ⟨rfl, rfl, rfl, trivial⟩ ?_
      cases hf
      exact hK.1 _ rfl _
    refine V_if_eq (tgt := 27) d_X12_pledgedOnes_18 (by decide) (fun c18 => ?_) (fun c18 => ?_)
    · refine V_iconst (v := 0) d_X12_pledgedOnes_27 ic_0 ?_
      refine V_less (ls' := [some _, none, some _]) ⟨rfl, rfl, trivial⟩ ?_
      exact hJj3 0 (by rw [if_neg (b2i_nt (b2i_eq0 c18))])
    · refine V_iconst (v := 1) d_X12_pledgedOnes_21 ic_1 ?_
      refine V_iload_n d_X12_pledgedOnes_22 rfl rfl ?_
      refine V_ishl d_X12_pledgedOnes_23 ?_
      refine V_goto (tgt := 28) d_X12_pledgedOnes_24 (by decide) ?_
      refine V_less (ls' := [some _, none, some _]) ⟨rfl, rfl, trivial⟩ ?_
      exact hJj3 (1 <<< (l2 &&& 31)) (by rw [if_pos (b2i_ne0 c18)])
theorem s_X12_pledgedOnes_j36 {G : Gl} (hG : G.1.stackTraces = false) {C : Cx} {n : Nat} {μ : Mem} {l1 : Int32} {r : Int32} (hf : f_X12_pledgedOnes_j36 μ l1 = some r) (hK : FinR G C F_X12_pledgedOnes (some .int) (some (.int r)) μ) : V G C F_X12_pledgedOnes 36 [none, some (.int l1), none] [] (pic G μ) n 0 0 := by
  unfold f_X12_pledgedOnes_j36 at hf
  refine V_iload_n d_X12_pledgedOnes_36 rfl rfl ?_
  cases hf
  exact R_i hK d_X12_pledgedOnes_37 (Nat.le_of_ble_eq_true rfl) (Nat.le_of_ble_eq_true rfl)
theorem s_X12_pledgedOnes_l4 {G : Gl} (hG : G.1.stackTraces = false) {C : Cx} {n : Nat} {μ : Mem} {l1 : Int32} {l2 : Int32} {r : Int32} (hf : f_X12_pledgedOnes_l4 μ l1 l2 = some r) (hK : FinR G C F_X12_pledgedOnes (some .int) (some (.int r)) μ) : V G C F_X12_pledgedOnes 4 [some (.ref (G.2.1 + 264)), some (.int l1), some (.int l2)] [] (pic G μ) n 0 0 := by
  unfold f_X12_pledgedOnes_l4 at hf
  obtain ⟨t, hl, hf⟩ := ob hf
  refine loopV (P := fun z => ∀ n, V G C F_X12_pledgedOnes 4 [some (.ref (G.2.1 + 264)), some (.int z.1), some (.int z.2)] [] (pic G μ) n 0 0) (t := t) ?_ _ _ hl n
  intro z y' hy hI hT n
  refine s_X12_pledgedOnes_b4 hG hy ⟨hI, fun x9 ex => ?_⟩
  have ex2 := hT x9 ex
  subst ex2
  intro n
  exact s_X12_pledgedOnes_j36 hG hf hK
theorem s_X12_pledgedOnes_e {G : Gl} (hG : G.1.stackTraces = false) {C : Cx} {n : Nat} {μ : Mem}  {r : Int32} (hf : f_X12_pledgedOnes μ = some r) (hK : FinR G C F_X12_pledgedOnes (some .int) (some (.int r)) μ) : V G C F_X12_pledgedOnes 0 [some (.ref (G.2.1 + 264)), none, none] [] (pic G μ) n 0 0 := by
  unfold f_X12_pledgedOnes at hf
  refine V_iconst (v := 0) d_X12_pledgedOnes_0 ic_0 ?_
  refine V_istore_n (ls' := [_, _, _]) d_X12_pledgedOnes_1 rfl rfl rfl ?_
  refine V_iconst (v := 0) d_X12_pledgedOnes_2 ic_0 ?_
  refine V_istore_n (ls' := [_, _, _]) d_X12_pledgedOnes_3 rfl rfl rfl ?_
  refine V_less (ls' := [some _, some _, some _]) ⟨rfl, rfl, rfl, trivial⟩ ?_
  exact s_X12_pledgedOnes_l4 hG hf hK
theorem s_X12_pledgedOnes {G : Gl} (hG : G.1.stackTraces = false) {μ : Mem} {r : Int32} (hf : f_X12_pledgedOnes μ = some r) : Rt G yX12_pledgedOnes F_X12_pledgedOnes (some .int) [.ref (G.2.1 + 264)] μ (some (.int r)) μ := fun n => Sd.of hG ⟨by decide +kernel, rfl, rfl⟩ rfl (Nat.le_of_ble_eq_true rfl) rfl (fun C hK => s_X12_pledgedOnes_e hG hf hK)
theorem d_X12_shareOf_0 : decode F_X12_shareOf.2.1 0 = .ok (.aload_n 0, 1) := by decide +kernel
theorem d_X12_shareOf_1 : decode F_X12_shareOf.2.1 1 = .ok (.invokevirtual 302, 3) := by decide +kernel
theorem d_X12_shareOf_4 : decode F_X12_shareOf.2.1 4 = .ok (.istore_n 2, 1) := by decide +kernel
theorem d_X12_shareOf_5 : decode F_X12_shareOf.2.1 5 = .ok (.iload_n 2, 1) := by decide +kernel
theorem d_X12_shareOf_6 : decode F_X12_shareOf.2.1 6 = .ok (.ifCond .ne 7, 3) := by decide +kernel
theorem d_X12_shareOf_9 : decode F_X12_shareOf.2.1 9 = .ok (.iconst 0, 1) := by decide +kernel
theorem d_X12_shareOf_10 : decode F_X12_shareOf.2.1 10 = .ok (.goto 21, 3) := by decide +kernel
theorem d_X12_shareOf_13 : decode F_X12_shareOf.2.1 13 = .ok (.bipush 100, 2) := by decide +kernel
theorem d_X12_shareOf_15 : decode F_X12_shareOf.2.1 15 = .ok (.iload_n 2, 1) := by decide +kernel
theorem d_X12_shareOf_16 : decode F_X12_shareOf.2.1 16 = .ok (.aload_n 0, 1) := by decide +kernel
theorem d_X12_shareOf_17 : decode F_X12_shareOf.2.1 17 = .ok (.iload_n 1, 1) := by decide +kernel
theorem d_X12_shareOf_18 : decode F_X12_shareOf.2.1 18 = .ok (.invokevirtual 269, 3) := by decide +kernel
theorem d_X12_shareOf_21 : decode F_X12_shareOf.2.1 21 = .ok (.iand, 1) := by decide +kernel
theorem d_X12_shareOf_22 : decode F_X12_shareOf.2.1 22 = .ok (.invokestatic 272, 3) := by decide +kernel
theorem d_X12_shareOf_25 : decode F_X12_shareOf.2.1 25 = .ok (.imul, 1) := by decide +kernel
theorem d_X12_shareOf_26 : decode F_X12_shareOf.2.1 26 = .ok (.iload_n 2, 1) := by decide +kernel
theorem d_X12_shareOf_27 : decode F_X12_shareOf.2.1 27 = .ok (.invokestatic 272, 3) := by decide +kernel
theorem d_X12_shareOf_30 : decode F_X12_shareOf.2.1 30 = .ok (.idiv, 1) := by decide +kernel
theorem d_X12_shareOf_31 : decode F_X12_shareOf.2.1 31 = .ok (.ireturn, 1) := by decide +kernel
def f_X12_shareOf_j31 (μ : Mem) (k0 : Int32) : Option Int32 :=
some k0
def f_X12_shareOf (μ : Mem) (p1 : Int32) : Option Int32 :=
Option.bind (f_X12_lostOnes μ) fun t1 =>
if t1 = 0 then
f_X12_shareOf_j31 μ 0
else
Option.bind (f_X12_heldBy μ p1) fun t2 =>
Option.bind (f_J6_bitCount_0f7a4 μ (t1 &&& t2)) fun t3 =>
Option.bind (f_J6_bitCount_0f7a4 μ t1) fun t4 =>
Option.bind (dv (100 * t3) t4) fun t5 =>
f_X12_shareOf_j31 μ t5
theorem s_X12_shareOf_j31 {G : Gl} (hG : G.1.stackTraces = false) {C : Cx} {n : Nat} {μ : Mem} {k0 : Int32} {r : Int32} (hf : f_X12_shareOf_j31 μ k0 = some r) (hK : FinR G C F_X12_shareOf (some .int) (some (.int r)) μ) : V G C F_X12_shareOf 31 [none, none, none] [.int k0] (pic G μ) n 0 0 := by
  unfold f_X12_shareOf_j31 at hf
  cases hf
  exact R_i hK d_X12_shareOf_31 (Nat.le_of_ble_eq_true rfl) (Nat.le_of_ble_eq_true rfl)
theorem s_X12_shareOf_e {G : Gl} (hG : G.1.stackTraces = false) {C : Cx} {n : Nat} {μ : Mem} {p1 : Int32} {r : Int32} (hf : f_X12_shareOf μ p1 = some r) (hK : FinR G C F_X12_shareOf (some .int) (some (.int r)) μ) : V G C F_X12_shareOf 0 [some (.ref (G.2.1 + 264)), some (.int p1), none] [] (pic G μ) n 0 0 := by
  unfold f_X12_shareOf at hf
  refine V_aload_n d_X12_shareOf_0 rfl rfl ?_
  obtain ⟨t1, ht1, hf⟩ := ob hf
  refine B_callV1 (s_X12_lostOnes hG ht1) k_264 clX12 m_X12_lostOnes kv_RX12_302 d_X12_shareOf_1 rfl (Nat.le_of_ble_eq_true rfl) ⟨rfl, rfl, Nat.le_of_ble_eq_true rfl, Nat.le_of_ble_eq_true rfl, Nat.le_of_ble_eq_true rfl⟩ (fun n => ?_)
  refine V_istore_n (ls' := [_, _, _]) d_X12_shareOf_4 rfl rfl rfl ?_
  refine V_iload_n d_X12_shareOf_5 rfl rfl ?_
  refine V_if_ne (tgt := 13) d_X12_shareOf_6 (by decide) (fun c6 => ?_) (fun c6 => ?_)
  · replace hf := iteF c6 hf
    refine V_bipush (v := 100) d_X12_shareOf_13 bp_100 ?_
    refine V_iload_n d_X12_shareOf_15 rfl rfl ?_
    refine V_aload_n d_X12_shareOf_16 rfl rfl ?_
    refine V_iload_n d_X12_shareOf_17 rfl rfl ?_
    obtain ⟨t2, ht2, hf⟩ := ob hf
    refine B_callV1 (s_X12_heldBy hG ht2) k_264 clX12 m_X12_heldBy kv_RX12_269 d_X12_shareOf_18 rfl (Nat.le_of_ble_eq_true rfl) ⟨rfl, rfl, Nat.le_of_ble_eq_true rfl, Nat.le_of_ble_eq_true rfl, Nat.le_of_ble_eq_true rfl⟩ (fun n => ?_)
    refine V_iand d_X12_shareOf_21 ?_
    obtain ⟨t3, ht3, hf⟩ := ob hf
    refine B_callS1 (s_J6_bitCount_0f7a4 hG ht3) m_J6_bitCount_0f7a4 ks_RX12_272 d_X12_shareOf_22 rfl (Nat.le_of_ble_eq_true rfl) ⟨rfl, rfl, Nat.le_of_ble_eq_true rfl, Nat.le_of_ble_eq_true rfl, Nat.le_of_ble_eq_true rfl⟩ (fun n => ?_)
    refine V_imul d_X12_shareOf_25 ?_
    refine V_iload_n d_X12_shareOf_26 rfl rfl ?_
    obtain ⟨t4, ht4, hf⟩ := ob hf
    refine B_callS1 (s_J6_bitCount_0f7a4 hG ht4) m_J6_bitCount_0f7a4 ks_RX12_272 d_X12_shareOf_27 rfl (Nat.le_of_ble_eq_true rfl) ⟨rfl, rfl, Nat.le_of_ble_eq_true rfl, Nat.le_of_ble_eq_true rfl, Nat.le_of_ble_eq_true rfl⟩ (fun n => ?_)
    obtain ⟨t5, ht5, hf⟩ := ob hf
    obtain ⟨gt5, ht5⟩ := dv_some ht5
    refine V_idiv d_X12_shareOf_30 gt5 ?_
    rw [ht5]
    refine V_less (ls' := [none, none, none]) trivial ?_
    exact s_X12_shareOf_j31 hG hf hK
  · replace hf := iteT c6 hf
    refine V_iconst (v := 0) d_X12_shareOf_9 ic_0 ?_
    refine V_goto (tgt := 31) d_X12_shareOf_10 (by decide) ?_
    refine V_less (ls' := [none, none, none]) trivial ?_
    exact s_X12_shareOf_j31 hG hf hK
theorem s_X12_shareOf {G : Gl} (hG : G.1.stackTraces = false) {μ : Mem} {p1 : Int32} {r : Int32} (hf : f_X12_shareOf μ p1 = some r) : Rt G yX12_shareOf F_X12_shareOf (some .int) [.ref (G.2.1 + 264), .int p1] μ (some (.int r)) μ := fun n => Sd.of hG ⟨by decide +kernel, rfl, rfl⟩ rfl (Nat.le_of_ble_eq_true rfl) rfl (fun C hK => s_X12_shareOf_e hG hf hK)
theorem d_X12_lace_0 : decode F_X12_lace.2.1 0 = .ok (.aload_n 0, 1) := by decide +kernel
theorem d_X12_lace_1 : decode F_X12_lace.2.1 1 = .ok (.iconst 0, 1) := by decide +kernel
theorem d_X12_lace_2 : decode F_X12_lace.2.1 2 = .ok (.putfield 3, 3) := by decide +kernel
theorem d_X12_lace_5 : decode F_X12_lace.2.1 5 = .ok (.aload_n 0, 1) := by decide +kernel
theorem d_X12_lace_6 : decode F_X12_lace.2.1 6 = .ok (.aload_n 0, 1) := by decide +kernel
theorem d_X12_lace_7 : decode F_X12_lace.2.1 7 = .ok (.iload_n 1, 1) := by decide +kernel
theorem d_X12_lace_8 : decode F_X12_lace.2.1 8 = .ok (.invokevirtual 317, 3) := by decide +kernel
theorem d_X12_lace_11 : decode F_X12_lace.2.1 11 = .ok (.iconst 1, 1) := by decide +kernel
theorem d_X12_lace_12 : decode F_X12_lace.2.1 12 = .ok (.invokevirtual 263, 3) := by decide +kernel
theorem d_X12_lace_15 : decode F_X12_lace.2.1 15 = .ok (.ifCond .ne 25, 3) := by decide +kernel
theorem d_X12_lace_18 : decode F_X12_lace.2.1 18 = .ok (.aload_n 0, 1) := by decide +kernel
theorem d_X12_lace_19 : decode F_X12_lace.2.1 19 = .ok (.iload_n 2, 1) := by decide +kernel
theorem d_X12_lace_20 : decode F_X12_lace.2.1 20 = .ok (.iconst 0, 1) := by decide +kernel
theorem d_X12_lace_21 : decode F_X12_lace.2.1 21 = .ok (.iconst 5, 1) := by decide +kernel
theorem d_X12_lace_22 : decode F_X12_lace.2.1 22 = .ok (.invokestatic 73, 3) := by decide +kernel
theorem d_X12_lace_25 : decode F_X12_lace.2.1 25 = .ok (.ifCond .ne 7, 3) := by decide +kernel
theorem d_X12_lace_28 : decode F_X12_lace.2.1 28 = .ok (.iconst 1, 1) := by decide +kernel
theorem d_X12_lace_29 : decode F_X12_lace.2.1 29 = .ok (.goto 4, 3) := by decide +kernel
theorem d_X12_lace_32 : decode F_X12_lace.2.1 32 = .ok (.iconst 0, 1) := by decide +kernel
theorem d_X12_lace_33 : decode F_X12_lace.2.1 33 = .ok (.iconst 2, 1) := by decide +kernel
theorem d_X12_lace_34 : decode F_X12_lace.2.1 34 = .ok (.invokevirtual 263, 3) := by decide +kernel
theorem d_X12_lace_37 : decode F_X12_lace.2.1 37 = .ok (.ifCond .eq 7, 3) := by decide +kernel
theorem d_X12_lace_40 : decode F_X12_lace.2.1 40 = .ok (.iconst 0, 1) := by decide +kernel
theorem d_X12_lace_41 : decode F_X12_lace.2.1 41 = .ok (.goto 9, 3) := by decide +kernel
theorem d_X12_lace_44 : decode F_X12_lace.2.1 44 = .ok (.aload_n 0, 1) := by decide +kernel
theorem d_X12_lace_45 : decode F_X12_lace.2.1 45 = .ok (.iload_n 1, 1) := by decide +kernel
theorem d_X12_lace_46 : decode F_X12_lace.2.1 46 = .ok (.iload_n 2, 1) := by decide +kernel
theorem d_X12_lace_47 : decode F_X12_lace.2.1 47 = .ok (.invokevirtual 70, 3) := by decide +kernel
theorem d_X12_lace_50 : decode F_X12_lace.2.1 50 = .ok (.ireturn, 1) := by decide +kernel
def f_X12_lace_j50 (μ : Mem) (k0 : Int32) : Option (Int32 × Mem) :=
some (k0, μ)
def f_X12_lace_j40 (μ : Mem) : Option (Int32 × Mem) :=
f_X12_lace_j50 μ 0
def f_X12_lace (μ : Mem) (p1 : Int32) (p2 : Int32) : Option (Int32 × Mem) :=
Option.bind (f_X12_noLace (mset μ 264 0 0) p1) fun t1 =>
Option.bind (f_X12_throwsIf (mset μ 264 0 0) t1 1) fun q2 =>
if q2.1 = true then
f_X12_lace_j40 q2.2
else
Option.bind (f_X12_in q2.2 p2 0 5) fun t3 =>
Option.bind (f_X12_throwsIf q2.2 (if t3 = true then false else true) 2) fun q5 =>
if q5.1 = true then
f_X12_lace_j40 q5.2
else
Option.bind (f_X12_ofLace q5.2 p1 p2) fun t6 =>
f_X12_lace_j50 q5.2 t6
theorem s_X12_lace_j50 {G : Gl} (hG : G.1.stackTraces = false) {C : Cx} {n : Nat} {μ : Mem} {k0 : Int32} {r : (Int32 × Mem)} (hf : f_X12_lace_j50 μ k0 = some r) (hK : FinR G C F_X12_lace (some .int) (some (.int r.1)) r.2) : V G C F_X12_lace 50 [none, none, none] [.int k0] (pic G μ) n 0 0 := by
  unfold f_X12_lace_j50 at hf
  cases hf
  exact R_i hK d_X12_lace_50 (Nat.le_of_ble_eq_true rfl) (Nat.le_of_ble_eq_true rfl)
theorem s_X12_lace_j40 {G : Gl} (hG : G.1.stackTraces = false) {C : Cx} {n : Nat} {μ : Mem}  {r : (Int32 × Mem)} (hf : f_X12_lace_j40 μ = some r) (hK : FinR G C F_X12_lace (some .int) (some (.int r.1)) r.2) : V G C F_X12_lace 40 [none, none, none] [] (pic G μ) n 0 0 := by
  unfold f_X12_lace_j40 at hf
  refine V_iconst (v := 0) d_X12_lace_40 ic_0 ?_
  refine V_goto (tgt := 50) d_X12_lace_41 (by decide) ?_
  refine V_less (ls' := [none, none, none]) trivial ?_
  exact s_X12_lace_j50 hG hf hK
theorem s_X12_lace_e {G : Gl} (hG : G.1.stackTraces = false) {C : Cx} {n : Nat} {μ : Mem} {p1 : Int32} {p2 : Int32} {r : (Int32 × Mem)} (hf : f_X12_lace μ p1 p2 = some r) (hK : FinR G C F_X12_lace (some .int) (some (.int r.1)) r.2) : V G C F_X12_lace 0 [some (.ref (G.2.1 + 264)), some (.int p1), some (.int p2)] [] (pic G μ) n 0 0 := by
  unfold f_X12_lace at hf
  refine V_aload_n d_X12_lace_0 rfl rfl ?_
  refine V_iconst (v := 0) d_X12_lace_1 ic_0 ?_
  refine B_putI k_264 fl_RX12_3 pt_12_0 (Nat.le_of_ble_eq_true rfl) p_12_0 d_X12_lace_2 ?_
  refine V_aload_n d_X12_lace_5 rfl rfl ?_
  refine V_aload_n d_X12_lace_6 rfl rfl ?_
  refine V_iload_n d_X12_lace_7 rfl rfl ?_
  obtain ⟨t1, ht1, hf⟩ := ob hf
  refine B_callV1 (s_X12_noLace hG ht1) k_264 clX12 m_X12_noLace kv_RX12_317 d_X12_lace_8 rfl (Nat.le_of_ble_eq_true rfl) ⟨rfl, rfl, Nat.le_of_ble_eq_true rfl, Nat.le_of_ble_eq_true rfl, Nat.le_of_ble_eq_true rfl⟩ (fun n => ?_)
  refine V_iconst (v := 1) d_X12_lace_11 ic_1 ?_
  obtain ⟨q2, hq2, hf⟩ := ob hf
  refine B_callV1 (s_X12_throwsIf hG hq2) k_264 clX12 m_X12_throwsIf kv_RX12_263 d_X12_lace_12 rfl (Nat.le_of_ble_eq_true rfl) ⟨rfl, rfl, Nat.le_of_ble_eq_true rfl, Nat.le_of_ble_eq_true rfl, Nat.le_of_ble_eq_true rfl⟩ (fun n => ?_)
  refine V_if_ne (tgt := 40) d_X12_lace_15 (by decide) (fun c15 => ?_) (fun c15 => ?_)
  · replace hf := iteT (b2i_ne0 c15) hf
    refine V_less (ls' := [none, none, none]) trivial ?_
    exact s_X12_lace_j40 hG hf hK
  · replace hf := iteF (b2i_nt (b2i_eq0 c15)) hf
    refine V_aload_n d_X12_lace_18 rfl rfl ?_
    refine V_iload_n d_X12_lace_19 rfl rfl ?_
    refine V_iconst (v := 0) d_X12_lace_20 ic_0 ?_
    refine V_iconst (v := 5) d_X12_lace_21 ic_5 ?_
    obtain ⟨t3, ht3, hf⟩ := ob hf
    refine B_callS1 (s_X12_in hG ht3) m_X12_in ks_RX12_73 d_X12_lace_22 rfl (Nat.le_of_ble_eq_true rfl) ⟨rfl, rfl, Nat.le_of_ble_eq_true rfl, Nat.le_of_ble_eq_true rfl, Nat.le_of_ble_eq_true rfl⟩ (fun n => ?_)
    have hJj4 : ∀ j4 : Bool, j4 = (if t3 = true then false else true) → V G C F_X12_lace 33 [some (.ref (G.2.1 + 264)), some (.int p1), some (.int p2)] [.int (b2i j4), .ref (G.2.1 + 264)] (pic G q2.2) n 0 0 := by
      intro j4 ej4
      subst ej4
      refine V_iconst (v := 2) d_X12_lace_33 ic_2 ?_
      obtain ⟨q5, hq5, hf⟩ := ob hf
      refine B_callV1 (s_X12_throwsIf hG hq5) k_264 clX12 m_X12_throwsIf kv_RX12_263 d_X12_lace_34 rfl (Nat.le_of_ble_eq_true rfl) ⟨rfl, rfl, Nat.le_of_ble_eq_true rfl, Nat.le_of_ble_eq_true rfl, Nat.le_of_ble_eq_true rfl⟩ (fun n => ?_)
      refine V_if_eq (tgt := 44) d_X12_lace_37 (by decide) (fun c37 => ?_) (fun c37 => ?_)
      · replace hf := iteF (b2i_nt (b2i_eq0 c37)) hf
        refine V_aload_n d_X12_lace_44 rfl rfl ?_
        refine V_iload_n d_X12_lace_45 rfl rfl ?_
        refine V_iload_n d_X12_lace_46 rfl rfl ?_
        obtain ⟨t6, ht6, hf⟩ := ob hf
        refine B_callV1 (s_X12_ofLace hG ht6) k_264 clX12 m_X12_ofLace kv_RX12_70 d_X12_lace_47 rfl (Nat.le_of_ble_eq_true rfl) ⟨rfl, rfl, Nat.le_of_ble_eq_true rfl, Nat.le_of_ble_eq_true rfl, Nat.le_of_ble_eq_true rfl⟩ (fun n => ?_)
        refine V_less (ls' := [none, none, none]) trivial ?_
        exact s_X12_lace_j50 hG hf hK
      · replace hf := iteT (b2i_ne0 c37) hf
        refine V_less (ls' := [none, none, none]) trivial ?_
        exact s_X12_lace_j40 hG hf hK
    refine V_if_ne (tgt := 32) d_X12_lace_25 (by decide) (fun c25 => ?_) (fun c25 => ?_)
    · refine V_iconst (v := 0) d_X12_lace_32 ic_0 ?_
      refine V_less (ls' := [some _, some _, some _]) ⟨rfl, rfl, rfl, trivial⟩ ?_
      exact hJj4 false (by rw [if_pos (b2i_ne0 c25)])
    · refine V_iconst (v := 1) d_X12_lace_28 ic_1 ?_
      refine V_goto (tgt := 33) d_X12_lace_29 (by decide) ?_
      refine V_less (ls' := [some _, some _, some _]) ⟨rfl, rfl, rfl, trivial⟩ ?_
      exact hJj4 true (by rw [if_neg (b2i_nt (b2i_eq0 c25))])
theorem s_X12_lace {G : Gl} (hG : G.1.stackTraces = false) {μ : Mem} {p1 : Int32} {p2 : Int32} {r : (Int32 × Mem)} (hf : f_X12_lace μ p1 p2 = some r) : Rt G yX12_lace F_X12_lace (some .int) [.ref (G.2.1 + 264), .int p1, .int p2] μ (some (.int r.1)) r.2 := fun n => Sd.of hG ⟨by decide +kernel, rfl, rfl⟩ rfl (Nat.le_of_ble_eq_true rfl) rfl (fun C hK => s_X12_lace_e hG hf hK)
theorem d_X12_mud_0 : decode F_X12_mud.2.1 0 = .ok (.aload_n 0, 1) := by decide +kernel
theorem d_X12_mud_1 : decode F_X12_mud.2.1 1 = .ok (.iconst 0, 1) := by decide +kernel
theorem d_X12_mud_2 : decode F_X12_mud.2.1 2 = .ok (.putfield 3, 3) := by decide +kernel
theorem d_X12_mud_5 : decode F_X12_mud.2.1 5 = .ok (.aload_n 0, 1) := by decide +kernel
theorem d_X12_mud_6 : decode F_X12_mud.2.1 6 = .ok (.iload_n 1, 1) := by decide +kernel
theorem d_X12_mud_7 : decode F_X12_mud.2.1 7 = .ok (.invokestatic 320, 3) := by decide +kernel
theorem d_X12_mud_10 : decode F_X12_mud.2.1 10 = .ok (.iconst 1, 1) := by decide +kernel
theorem d_X12_mud_11 : decode F_X12_mud.2.1 11 = .ok (.invokevirtual 263, 3) := by decide +kernel
theorem d_X12_mud_14 : decode F_X12_mud.2.1 14 = .ok (.ifCond .eq 7, 3) := by decide +kernel
theorem d_X12_mud_17 : decode F_X12_mud.2.1 17 = .ok (.iconst 0, 1) := by decide +kernel
theorem d_X12_mud_18 : decode F_X12_mud.2.1 18 = .ok (.goto 12, 3) := by decide +kernel
theorem d_X12_mud_21 : decode F_X12_mud.2.1 21 = .ok (.aload_n 0, 1) := by decide +kernel
theorem d_X12_mud_22 : decode F_X12_mud.2.1 22 = .ok (.getfield 13, 3) := by decide +kernel
theorem d_X12_mud_25 : decode F_X12_mud.2.1 25 = .ok (.bipush 8, 2) := by decide +kernel
theorem d_X12_mud_27 : decode F_X12_mud.2.1 27 = .ok (.iload_n 1, 1) := by decide +kernel
theorem d_X12_mud_28 : decode F_X12_mud.2.1 28 = .ok (.iadd, 1) := by decide +kernel
theorem d_X12_mud_29 : decode F_X12_mud.2.1 29 = .ok (.iaload, 1) := by decide +kernel
theorem d_X12_mud_30 : decode F_X12_mud.2.1 30 = .ok (.ireturn, 1) := by decide +kernel
def f_X12_mud_j30 (μ : Mem) (k0 : Int32) : Option (Int32 × Mem) :=
some (k0, μ)
def f_X12_mud (μ : Mem) (p1 : Int32) : Option (Int32 × Mem) :=
Option.bind (f_X12_noPlace (mset μ 264 0 0) p1) fun t1 =>
Option.bind (f_X12_throwsIf (mset μ 264 0 0) t1 1) fun q2 =>
if q2.1 = true then
f_X12_mud_j30 q2.2 0
else
Option.bind (rd q2.2 265 2068 (8 + p1)) fun t3 =>
f_X12_mud_j30 q2.2 t3
theorem s_X12_mud_j30 {G : Gl} (hG : G.1.stackTraces = false) {C : Cx} {n : Nat} {μ : Mem} {k0 : Int32} {r : (Int32 × Mem)} (hf : f_X12_mud_j30 μ k0 = some r) (hK : FinR G C F_X12_mud (some .int) (some (.int r.1)) r.2) : V G C F_X12_mud 30 [none, none] [.int k0] (pic G μ) n 0 0 := by
  unfold f_X12_mud_j30 at hf
  cases hf
  exact R_i hK d_X12_mud_30 (Nat.le_of_ble_eq_true rfl) (Nat.le_of_ble_eq_true rfl)
theorem s_X12_mud_e {G : Gl} (hG : G.1.stackTraces = false) {C : Cx} {n : Nat} {μ : Mem} {p1 : Int32} {r : (Int32 × Mem)} (hf : f_X12_mud μ p1 = some r) (hK : FinR G C F_X12_mud (some .int) (some (.int r.1)) r.2) : V G C F_X12_mud 0 [some (.ref (G.2.1 + 264)), some (.int p1)] [] (pic G μ) n 0 0 := by
  unfold f_X12_mud at hf
  refine V_aload_n d_X12_mud_0 rfl rfl ?_
  refine V_iconst (v := 0) d_X12_mud_1 ic_0 ?_
  refine B_putI k_264 fl_RX12_3 pt_12_0 (Nat.le_of_ble_eq_true rfl) p_12_0 d_X12_mud_2 ?_
  refine V_aload_n d_X12_mud_5 rfl rfl ?_
  refine V_iload_n d_X12_mud_6 rfl rfl ?_
  obtain ⟨t1, ht1, hf⟩ := ob hf
  refine B_callS1 (s_X12_noPlace hG ht1) m_X12_noPlace ks_RX12_320 d_X12_mud_7 rfl (Nat.le_of_ble_eq_true rfl) ⟨rfl, rfl, Nat.le_of_ble_eq_true rfl, Nat.le_of_ble_eq_true rfl, Nat.le_of_ble_eq_true rfl⟩ (fun n => ?_)
  refine V_iconst (v := 1) d_X12_mud_10 ic_1 ?_
  obtain ⟨q2, hq2, hf⟩ := ob hf
  refine B_callV1 (s_X12_throwsIf hG hq2) k_264 clX12 m_X12_throwsIf kv_RX12_263 d_X12_mud_11 rfl (Nat.le_of_ble_eq_true rfl) ⟨rfl, rfl, Nat.le_of_ble_eq_true rfl, Nat.le_of_ble_eq_true rfl, Nat.le_of_ble_eq_true rfl⟩ (fun n => ?_)
  refine V_if_eq (tgt := 21) d_X12_mud_14 (by decide) (fun c14 => ?_) (fun c14 => ?_)
  · replace hf := iteF (b2i_nt (b2i_eq0 c14)) hf
    refine V_aload_n d_X12_mud_21 rfl rfl ?_
    refine B_get k_264 fl_RX12_13 d_X12_mud_22 g_12_1 ?_
    refine V_bipush (v := 8) d_X12_mud_25 bp_8 ?_
    refine V_iload_n d_X12_mud_27 rfl rfl ?_
    refine V_iadd d_X12_mud_28 ?_
    obtain ⟨t3, ht3, hf⟩ := ob hf
    refine B_iald k_265 ht3 d_X12_mud_29 ?_
    refine V_less (ls' := [none, none]) trivial ?_
    exact s_X12_mud_j30 hG hf hK
  · replace hf := iteT (b2i_ne0 c14) hf
    refine V_iconst (v := 0) d_X12_mud_17 ic_0 ?_
    refine V_goto (tgt := 30) d_X12_mud_18 (by decide) ?_
    refine V_less (ls' := [none, none]) trivial ?_
    exact s_X12_mud_j30 hG hf hK
theorem s_X12_mud {G : Gl} (hG : G.1.stackTraces = false) {μ : Mem} {p1 : Int32} {r : (Int32 × Mem)} (hf : f_X12_mud μ p1 = some r) : Rt G yX12_mud F_X12_mud (some .int) [.ref (G.2.1 + 264), .int p1] μ (some (.int r.1)) r.2 := fun n => Sd.of hG ⟨by decide +kernel, rfl, rfl⟩ rfl (Nat.le_of_ble_eq_true rfl) rfl (fun C hK => s_X12_mud_e hG hf hK)
theorem d_X12_tells_0 : decode F_X12_tells.2.1 0 = .ok (.sipush 239, 3) := by decide +kernel
theorem d_X12_tells_3 : decode F_X12_tells.2.1 3 = .ok (.istore 4, 2) := by decide +kernel
theorem d_X12_tells_5 : decode F_X12_tells.2.1 5 = .ok (.iload 4, 2) := by decide +kernel
theorem d_X12_tells_7 : decode F_X12_tells.2.1 7 = .ok (.iconst 4, 1) := by decide +kernel
theorem d_X12_tells_8 : decode F_X12_tells.2.1 8 = .ok (.if_icmp .lt 33, 3) := by decide +kernel
theorem d_X12_tells_11 : decode F_X12_tells.2.1 11 = .ok (.aload_n 0, 1) := by decide +kernel
theorem d_X12_tells_12 : decode F_X12_tells.2.1 12 = .ok (.getfield 13, 3) := by decide +kernel
theorem d_X12_tells_15 : decode F_X12_tells.2.1 15 = .ok (.sipush 130, 3) := by decide +kernel
theorem d_X12_tells_18 : decode F_X12_tells.2.1 18 = .ok (.iload 4, 2) := by decide +kernel
theorem d_X12_tells_20 : decode F_X12_tells.2.1 20 = .ok (.iadd, 1) := by decide +kernel
theorem d_X12_tells_21 : decode F_X12_tells.2.1 21 = .ok (.aload_n 0, 1) := by decide +kernel
theorem d_X12_tells_22 : decode F_X12_tells.2.1 22 = .ok (.getfield 13, 3) := by decide +kernel
theorem d_X12_tells_25 : decode F_X12_tells.2.1 25 = .ok (.sipush 130, 3) := by decide +kernel
theorem d_X12_tells_28 : decode F_X12_tells.2.1 28 = .ok (.iload 4, 2) := by decide +kernel
theorem d_X12_tells_30 : decode F_X12_tells.2.1 30 = .ok (.iadd, 1) := by decide +kernel
theorem d_X12_tells_31 : decode F_X12_tells.2.1 31 = .ok (.iconst 4, 1) := by decide +kernel
theorem d_X12_tells_32 : decode F_X12_tells.2.1 32 = .ok (.isub, 1) := by decide +kernel
theorem d_X12_tells_33 : decode F_X12_tells.2.1 33 = .ok (.iaload, 1) := by decide +kernel
theorem d_X12_tells_34 : decode F_X12_tells.2.1 34 = .ok (.iastore, 1) := by decide +kernel
theorem d_X12_tells_35 : decode F_X12_tells.2.1 35 = .ok (.iinc 4 (-1), 3) := by decide +kernel
theorem d_X12_tells_38 : decode F_X12_tells.2.1 38 = .ok (.goto (-33), 3) := by decide +kernel
theorem d_X12_tells_41 : decode F_X12_tells.2.1 41 = .ok (.aload_n 0, 1) := by decide +kernel
theorem d_X12_tells_42 : decode F_X12_tells.2.1 42 = .ok (.getfield 13, 3) := by decide +kernel
theorem d_X12_tells_45 : decode F_X12_tells.2.1 45 = .ok (.sipush 130, 3) := by decide +kernel
theorem d_X12_tells_48 : decode F_X12_tells.2.1 48 = .ok (.aload_n 0, 1) := by decide +kernel
theorem d_X12_tells_49 : decode F_X12_tells.2.1 49 = .ok (.getfield 13, 3) := by decide +kernel
theorem d_X12_tells_52 : decode F_X12_tells.2.1 52 = .ok (.iconst 3, 1) := by decide +kernel
theorem d_X12_tells_53 : decode F_X12_tells.2.1 53 = .ok (.iaload, 1) := by decide +kernel
theorem d_X12_tells_54 : decode F_X12_tells.2.1 54 = .ok (.iastore, 1) := by decide +kernel
theorem d_X12_tells_55 : decode F_X12_tells.2.1 55 = .ok (.aload_n 0, 1) := by decide +kernel
theorem d_X12_tells_56 : decode F_X12_tells.2.1 56 = .ok (.getfield 13, 3) := by decide +kernel
theorem d_X12_tells_59 : decode F_X12_tells.2.1 59 = .ok (.sipush 131, 3) := by decide +kernel
theorem d_X12_tells_62 : decode F_X12_tells.2.1 62 = .ok (.iload_n 1, 1) := by decide +kernel
theorem d_X12_tells_63 : decode F_X12_tells.2.1 63 = .ok (.iastore, 1) := by decide +kernel
theorem d_X12_tells_64 : decode F_X12_tells.2.1 64 = .ok (.aload_n 0, 1) := by decide +kernel
theorem d_X12_tells_65 : decode F_X12_tells.2.1 65 = .ok (.getfield 13, 3) := by decide +kernel
theorem d_X12_tells_68 : decode F_X12_tells.2.1 68 = .ok (.sipush 132, 3) := by decide +kernel
theorem d_X12_tells_71 : decode F_X12_tells.2.1 71 = .ok (.iload_n 2, 1) := by decide +kernel
theorem d_X12_tells_72 : decode F_X12_tells.2.1 72 = .ok (.iastore, 1) := by decide +kernel
theorem d_X12_tells_73 : decode F_X12_tells.2.1 73 = .ok (.aload_n 0, 1) := by decide +kernel
theorem d_X12_tells_74 : decode F_X12_tells.2.1 74 = .ok (.getfield 13, 3) := by decide +kernel
theorem d_X12_tells_77 : decode F_X12_tells.2.1 77 = .ok (.sipush 133, 3) := by decide +kernel
theorem d_X12_tells_80 : decode F_X12_tells.2.1 80 = .ok (.iload_n 3, 1) := by decide +kernel
theorem d_X12_tells_81 : decode F_X12_tells.2.1 81 = .ok (.iastore, 1) := by decide +kernel
theorem d_X12_tells_82 : decode F_X12_tells.2.1 82 = .ok (.aload_n 0, 1) := by decide +kernel
theorem d_X12_tells_83 : decode F_X12_tells.2.1 83 = .ok (.getfield 13, 3) := by decide +kernel
theorem d_X12_tells_86 : decode F_X12_tells.2.1 86 = .ok (.bipush 6, 2) := by decide +kernel
theorem d_X12_tells_88 : decode F_X12_tells.2.1 88 = .ok (.bipush 60, 2) := by decide +kernel
theorem d_X12_tells_90 : decode F_X12_tells.2.1 90 = .ok (.aload_n 0, 1) := by decide +kernel
theorem d_X12_tells_91 : decode F_X12_tells.2.1 91 = .ok (.getfield 13, 3) := by decide +kernel
theorem d_X12_tells_94 : decode F_X12_tells.2.1 94 = .ok (.bipush 6, 2) := by decide +kernel
theorem d_X12_tells_96 : decode F_X12_tells.2.1 96 = .ok (.iaload, 1) := by decide +kernel
theorem d_X12_tells_97 : decode F_X12_tells.2.1 97 = .ok (.iconst 1, 1) := by decide +kernel
theorem d_X12_tells_98 : decode F_X12_tells.2.1 98 = .ok (.iadd, 1) := by decide +kernel
theorem d_X12_tells_99 : decode F_X12_tells.2.1 99 = .ok (.invokestatic 87, 3) := by decide +kernel
theorem d_X12_tells_102 : decode F_X12_tells.2.1 102 = .ok (.iastore, 1) := by decide +kernel
theorem d_X12_tells_103 : decode F_X12_tells.2.1 103 = .ok (.return_, 1) := by decide +kernel
def f_X12_tells_b5 (μ : Mem) (l1 : Int32) (l2 : Int32) (l3 : Int32) (l4 : Int32) : Option ((Int32 × Mem) ⊕ Mem) :=
if l4 < 4 then
some (.inr μ)
else
Option.bind (rd μ 265 2068 ((130 + l4) - 4)) fun t1 =>
Option.bind (wr μ 265 2068 (130 + l4) t1) fun μ2 =>
some (.inl ((l4 + (-1)), μ2))
def f_X12_tells_j41 (μ : Mem) (l1 : Int32) (l2 : Int32) (l3 : Int32) : Option Mem :=
Option.bind (rd μ 265 2068 3) fun t1 =>
Option.bind (wr μ 265 2068 130 t1) fun μ2 =>
Option.bind (wr μ2 265 2068 131 l1) fun μ3 =>
Option.bind (wr μ3 265 2068 132 l2) fun μ4 =>
Option.bind (wr μ4 265 2068 133 l3) fun μ5 =>
Option.bind (rd μ5 265 2068 6) fun t6 =>
Option.bind (f_J9_min_7cf53 μ5 60 (t6 + 1)) fun t7 =>
Option.bind (wr μ5 265 2068 6 t7) fun μ8 =>
some μ8
def f_X12_tells_l5 (μ : Mem) (l1 : Int32) (l2 : Int32) (l3 : Int32) (l4 : Int32) : Option Mem := Option.bind (loopN 10000 (fun z : (Int32 × Mem) => f_X12_tells_b5 z.2 l1 l2 l3 z.1) (l4, μ)) fun t : Mem => f_X12_tells_j41 t l1 l2 l3
def f_X12_tells (μ : Mem) (p1 : Int32) (p2 : Int32) (p3 : Int32) : Option Mem :=
f_X12_tells_l5 μ p1 p2 p3 239
theorem s_X12_tells_b5 {G : Gl} (hG : G.1.stackTraces = false) {C : Cx} {n : Nat} {μ : Mem} {l1 : Int32} {l2 : Int32} {l3 : Int32} {l4 : Int32} {y : ((Int32 × Mem) ⊕ Mem)} (hf : f_X12_tells_b5 μ l1 l2 l3 l4 = some y) (hK : (∀ z', y = .inl z' → ∀ n, V G C F_X12_tells 5 [some (.ref (G.2.1 + 264)), some (.int l1), some (.int l2), some (.int l3), some (.int z'.1)] [] (pic G z'.2) n 0 0) ∧ (∀ x', y = .inr x' → ∀ n, V G C F_X12_tells 41 [some (.ref (G.2.1 + 264)), some (.int l1), some (.int l2), some (.int l3), none] [] (pic G x') n 0 0)) : V G C F_X12_tells 5 [some (.ref (G.2.1 + 264)), some (.int l1), some (.int l2), some (.int l3), some (.int l4)] [] (pic G μ) n 0 0 := by
  unfold f_X12_tells_b5 at hf
  refine V_iload d_X12_tells_5 rfl ?_
  refine V_iconst (v := 4) d_X12_tells_7 ic_4 ?_
  refine V_icmp_lt (tgt := 41) d_X12_tells_8 (by decide) (fun c8 => ?_) (fun c8 => ?_)
  · replace hf := iteT c8 hf
    refine V_less (ls' := [some _, some _, some _, some _, none]) ⟨rfl, rfl, rfl, rfl, trivial⟩ ?_
    cases hf
    exact hK.2 _ rfl _
  · replace hf := iteF c8 hf
    refine V_aload_n d_X12_tells_11 rfl rfl ?_
    refine B_get k_264 fl_RX12_13 d_X12_tells_12 g_12_1 ?_
    refine V_sipush (v := 130) d_X12_tells_15 sp_130 ?_
    refine V_iload d_X12_tells_18 rfl ?_
    refine V_iadd d_X12_tells_20 ?_
    refine V_aload_n d_X12_tells_21 rfl rfl ?_
    refine B_get k_264 fl_RX12_13 d_X12_tells_22 g_12_1 ?_
    refine V_sipush (v := 130) d_X12_tells_25 sp_130 ?_
    refine V_iload d_X12_tells_28 rfl ?_
    refine V_iadd d_X12_tells_30 ?_
    refine V_iconst (v := 4) d_X12_tells_31 ic_4 ?_
    refine V_isub d_X12_tells_32 ?_
    obtain ⟨t1, ht1, hf⟩ := ob hf
    refine B_iald k_265 ht1 d_X12_tells_33 ?_
    obtain ⟨μ2, hμ2, hf⟩ := ob hf
    refine B_iast k_265 hμ2 d_X12_tells_34 ?_
    refine V_iinc (v := (l4 + (-1))) (ls' := [_, _, _, _, _]) d_X12_tells_35 rfl (by rw [ic_m1]) rfl ?_
    refine V_goto (tgt := 5) d_X12_tells_38 (by decide) ?_
    refine V_less (ls' := [some _, some _, some _, some _, some _]) ⟨rfl, rfl, rfl, rfl, rfl, trivial⟩ ?_
    cases hf
    exact hK.1 _ rfl _
theorem s_X12_tells_j41 {G : Gl} (hG : G.1.stackTraces = false) {C : Cx} {n : Nat} {μ : Mem} {l1 : Int32} {l2 : Int32} {l3 : Int32} {r : Mem} (hf : f_X12_tells_j41 μ l1 l2 l3 = some r) (hK : FinR G C F_X12_tells none none r) : V G C F_X12_tells 41 [some (.ref (G.2.1 + 264)), some (.int l1), some (.int l2), some (.int l3), none] [] (pic G μ) n 0 0 := by
  unfold f_X12_tells_j41 at hf
  refine V_aload_n d_X12_tells_41 rfl rfl ?_
  refine B_get k_264 fl_RX12_13 d_X12_tells_42 g_12_1 ?_
  refine V_sipush (v := 130) d_X12_tells_45 sp_130 ?_
  refine V_aload_n d_X12_tells_48 rfl rfl ?_
  refine B_get k_264 fl_RX12_13 d_X12_tells_49 g_12_1 ?_
  refine V_iconst (v := 3) d_X12_tells_52 ic_3 ?_
  obtain ⟨t1, ht1, hf⟩ := ob hf
  refine B_iald k_265 ht1 d_X12_tells_53 ?_
  obtain ⟨μ2, hμ2, hf⟩ := ob hf
  refine B_iast k_265 hμ2 d_X12_tells_54 ?_
  refine V_aload_n d_X12_tells_55 rfl rfl ?_
  refine B_get k_264 fl_RX12_13 d_X12_tells_56 g_12_1 ?_
  refine V_sipush (v := 131) d_X12_tells_59 sp_131 ?_
  refine V_iload_n d_X12_tells_62 rfl rfl ?_
  obtain ⟨μ3, hμ3, hf⟩ := ob hf
  refine B_iast k_265 hμ3 d_X12_tells_63 ?_
  refine V_aload_n d_X12_tells_64 rfl rfl ?_
  refine B_get k_264 fl_RX12_13 d_X12_tells_65 g_12_1 ?_
  refine V_sipush (v := 132) d_X12_tells_68 sp_132 ?_
  refine V_iload_n d_X12_tells_71 rfl rfl ?_
  obtain ⟨μ4, hμ4, hf⟩ := ob hf
  refine B_iast k_265 hμ4 d_X12_tells_72 ?_
  refine V_aload_n d_X12_tells_73 rfl rfl ?_
  refine B_get k_264 fl_RX12_13 d_X12_tells_74 g_12_1 ?_
  refine V_sipush (v := 133) d_X12_tells_77 sp_133 ?_
  refine V_iload_n d_X12_tells_80 rfl rfl ?_
  obtain ⟨μ5, hμ5, hf⟩ := ob hf
  refine B_iast k_265 hμ5 d_X12_tells_81 ?_
  refine V_aload_n d_X12_tells_82 rfl rfl ?_
  refine B_get k_264 fl_RX12_13 d_X12_tells_83 g_12_1 ?_
  refine V_bipush (v := 6) d_X12_tells_86 bp_6 ?_
  refine V_bipush (v := 60) d_X12_tells_88 bp_60 ?_
  refine V_aload_n d_X12_tells_90 rfl rfl ?_
  refine B_get k_264 fl_RX12_13 d_X12_tells_91 g_12_1 ?_
  refine V_bipush (v := 6) d_X12_tells_94 bp_6 ?_
  obtain ⟨t6, ht6, hf⟩ := ob hf
  refine B_iald k_265 ht6 d_X12_tells_96 ?_
  refine V_iconst (v := 1) d_X12_tells_97 ic_1 ?_
  refine V_iadd d_X12_tells_98 ?_
  obtain ⟨t7, ht7, hf⟩ := ob hf
  refine B_callS1 (s_J9_min_7cf53 hG ht7) m_J9_min_7cf53 ks_RX12_87 d_X12_tells_99 rfl (Nat.le_of_ble_eq_true rfl) ⟨rfl, rfl, Nat.le_of_ble_eq_true rfl, Nat.le_of_ble_eq_true rfl, Nat.le_of_ble_eq_true rfl⟩ (fun n => ?_)
  obtain ⟨μ8, hμ8, hf⟩ := ob hf
  refine B_iast k_265 hμ8 d_X12_tells_102 ?_
  cases hf
  exact R_v hK d_X12_tells_103 (Nat.le_of_ble_eq_true rfl) (Nat.le_of_ble_eq_true rfl)
theorem s_X12_tells_l5 {G : Gl} (hG : G.1.stackTraces = false) {C : Cx} {n : Nat} {μ : Mem} {l1 : Int32} {l2 : Int32} {l3 : Int32} {l4 : Int32} {r : Mem} (hf : f_X12_tells_l5 μ l1 l2 l3 l4 = some r) (hK : FinR G C F_X12_tells none none r) : V G C F_X12_tells 5 [some (.ref (G.2.1 + 264)), some (.int l1), some (.int l2), some (.int l3), some (.int l4)] [] (pic G μ) n 0 0 := by
  unfold f_X12_tells_l5 at hf
  obtain ⟨t, hl, hf⟩ := ob hf
  refine loopV (P := fun z => ∀ n, V G C F_X12_tells 5 [some (.ref (G.2.1 + 264)), some (.int l1), some (.int l2), some (.int l3), some (.int z.1)] [] (pic G z.2) n 0 0) (t := t) ?_ _ _ hl n
  intro z y' hy hI hT n
  refine s_X12_tells_b5 hG hy ⟨hI, fun x9 ex => ?_⟩
  have ex2 := hT x9 ex
  subst ex2
  intro n
  exact s_X12_tells_j41 hG hf hK
theorem s_X12_tells_e {G : Gl} (hG : G.1.stackTraces = false) {C : Cx} {n : Nat} {μ : Mem} {p1 : Int32} {p2 : Int32} {p3 : Int32} {r : Mem} (hf : f_X12_tells μ p1 p2 p3 = some r) (hK : FinR G C F_X12_tells none none r) : V G C F_X12_tells 0 [some (.ref (G.2.1 + 264)), some (.int p1), some (.int p2), some (.int p3), none] [] (pic G μ) n 0 0 := by
  unfold f_X12_tells at hf
  refine V_sipush (v := 239) d_X12_tells_0 sp_239 ?_
  refine V_istore (ls' := [_, _, _, _, _]) d_X12_tells_3 rfl rfl ?_
  refine V_less (ls' := [some _, some _, some _, some _, some _]) ⟨rfl, rfl, rfl, rfl, rfl, trivial⟩ ?_
  exact s_X12_tells_l5 hG hf hK
theorem s_X12_tells {G : Gl} (hG : G.1.stackTraces = false) {μ : Mem} {p1 : Int32} {p2 : Int32} {p3 : Int32} {r : Mem} (hf : f_X12_tells μ p1 p2 p3 = some r) : Rt G yX12_tells F_X12_tells none [.ref (G.2.1 + 264), .int p1, .int p2, .int p3] μ none r := fun n => Sd.of hG ⟨by decide +kernel, rfl, rfl⟩ rfl (Nat.le_of_ble_eq_true rfl) rfl (fun C hK => s_X12_tells_e hG hf hK)
theorem d_X12_isPaid_0 : decode F_X12_isPaid.2.1 0 = .ok (.aload_n 0, 1) := by decide +kernel
theorem d_X12_isPaid_1 : decode F_X12_isPaid.2.1 1 = .ok (.iload_n 1, 1) := by decide +kernel
theorem d_X12_isPaid_2 : decode F_X12_isPaid.2.1 2 = .ok (.iconst 2, 1) := by decide +kernel
theorem d_X12_isPaid_3 : decode F_X12_isPaid.2.1 3 = .ok (.invokevirtual 70, 3) := by decide +kernel
theorem d_X12_isPaid_6 : decode F_X12_isPaid.2.1 6 = .ok (.istore_n 3, 1) := by decide +kernel
theorem d_X12_isPaid_7 : decode F_X12_isPaid.2.1 7 = .ok (.aload_n 0, 1) := by decide +kernel
theorem d_X12_isPaid_8 : decode F_X12_isPaid.2.1 8 = .ok (.getfield 13, 3) := by decide +kernel
theorem d_X12_isPaid_11 : decode F_X12_isPaid.2.1 11 = .ok (.iload_n 2, 1) := by decide +kernel
theorem d_X12_isPaid_12 : decode F_X12_isPaid.2.1 12 = .ok (.iconst 0, 1) := by decide +kernel
theorem d_X12_isPaid_13 : decode F_X12_isPaid.2.1 13 = .ok (.invokestatic 63, 3) := by decide +kernel
theorem d_X12_isPaid_16 : decode F_X12_isPaid.2.1 16 = .ok (.dup2, 1) := by decide +kernel
theorem d_X12_isPaid_17 : decode F_X12_isPaid.2.1 17 = .ok (.iaload, 1) := by decide +kernel
theorem d_X12_isPaid_18 : decode F_X12_isPaid.2.1 18 = .ok (.iload_n 3, 1) := by decide +kernel
theorem d_X12_isPaid_19 : decode F_X12_isPaid.2.1 19 = .ok (.isub, 1) := by decide +kernel
theorem d_X12_isPaid_20 : decode F_X12_isPaid.2.1 20 = .ok (.iastore, 1) := by decide +kernel
theorem d_X12_isPaid_21 : decode F_X12_isPaid.2.1 21 = .ok (.aload_n 0, 1) := by decide +kernel
theorem d_X12_isPaid_22 : decode F_X12_isPaid.2.1 22 = .ok (.aload_n 0, 1) := by decide +kernel
theorem d_X12_isPaid_23 : decode F_X12_isPaid.2.1 23 = .ok (.iload_n 1, 1) := by decide +kernel
theorem d_X12_isPaid_24 : decode F_X12_isPaid.2.1 24 = .ok (.iconst 1, 1) := by decide +kernel
theorem d_X12_isPaid_25 : decode F_X12_isPaid.2.1 25 = .ok (.invokevirtual 70, 3) := by decide +kernel
theorem d_X12_isPaid_28 : decode F_X12_isPaid.2.1 28 = .ok (.iload_n 3, 1) := by decide +kernel
theorem d_X12_isPaid_29 : decode F_X12_isPaid.2.1 29 = .ok (.invokevirtual 332, 3) := by decide +kernel
theorem d_X12_isPaid_32 : decode F_X12_isPaid.2.1 32 = .ok (.aload_n 0, 1) := by decide +kernel
theorem d_X12_isPaid_33 : decode F_X12_isPaid.2.1 33 = .ok (.iload_n 1, 1) := by decide +kernel
theorem d_X12_isPaid_34 : decode F_X12_isPaid.2.1 34 = .ok (.invokevirtual 48, 3) := by decide +kernel
theorem d_X12_isPaid_37 : decode F_X12_isPaid.2.1 37 = .ok (.aload_n 0, 1) := by decide +kernel
theorem d_X12_isPaid_38 : decode F_X12_isPaid.2.1 38 = .ok (.iload_n 1, 1) := by decide +kernel
theorem d_X12_isPaid_39 : decode F_X12_isPaid.2.1 39 = .ok (.iconst 1, 1) := by decide +kernel
theorem d_X12_isPaid_40 : decode F_X12_isPaid.2.1 40 = .ok (.iload_n 3, 1) := by decide +kernel
theorem d_X12_isPaid_41 : decode F_X12_isPaid.2.1 41 = .ok (.invokevirtual 335, 3) := by decide +kernel
theorem d_X12_isPaid_44 : decode F_X12_isPaid.2.1 44 = .ok (.return_, 1) := by decide +kernel
def f_X12_isPaid (μ : Mem) (p1 : Int32) (p2 : Int32) : Option Mem :=
Option.bind (f_X12_ofLace μ p1 2) fun t1 =>
Option.bind (f_X12_at μ p2 0) fun t2 =>
Option.bind (rd μ 265 2068 t2) fun t3 =>
Option.bind (wr μ 265 2068 t2 (t3 - t1)) fun μ4 =>
Option.bind (f_X12_ofLace μ4 p1 1) fun t5 =>
Option.bind (f_X12_gets μ4 t5 t1) fun q6 =>
Option.bind (f_X12_comesBack q6 p1) fun q7 =>
Option.bind (f_X12_tells q7 p1 1 t1) fun q8 =>
some q8
theorem s_X12_isPaid_e {G : Gl} (hG : G.1.stackTraces = false) {C : Cx} {n : Nat} {μ : Mem} {p1 : Int32} {p2 : Int32} {r : Mem} (hf : f_X12_isPaid μ p1 p2 = some r) (hK : FinR G C F_X12_isPaid none none r) : V G C F_X12_isPaid 0 [some (.ref (G.2.1 + 264)), some (.int p1), some (.int p2), none] [] (pic G μ) n 0 0 := by
  unfold f_X12_isPaid at hf
  refine V_aload_n d_X12_isPaid_0 rfl rfl ?_
  refine V_iload_n d_X12_isPaid_1 rfl rfl ?_
  refine V_iconst (v := 2) d_X12_isPaid_2 ic_2 ?_
  obtain ⟨t1, ht1, hf⟩ := ob hf
  refine B_callV1 (s_X12_ofLace hG ht1) k_264 clX12 m_X12_ofLace kv_RX12_70 d_X12_isPaid_3 rfl (Nat.le_of_ble_eq_true rfl) ⟨rfl, rfl, Nat.le_of_ble_eq_true rfl, Nat.le_of_ble_eq_true rfl, Nat.le_of_ble_eq_true rfl⟩ (fun n => ?_)
  refine V_istore_n (ls' := [_, _, _, _]) d_X12_isPaid_6 rfl rfl rfl ?_
  refine V_aload_n d_X12_isPaid_7 rfl rfl ?_
  refine B_get k_264 fl_RX12_13 d_X12_isPaid_8 g_12_1 ?_
  refine V_iload_n d_X12_isPaid_11 rfl rfl ?_
  refine V_iconst (v := 0) d_X12_isPaid_12 ic_0 ?_
  obtain ⟨t2, ht2, hf⟩ := ob hf
  refine B_callS1 (s_X12_at hG ht2) m_X12_at ks_RX12_63 d_X12_isPaid_13 rfl (Nat.le_of_ble_eq_true rfl) ⟨rfl, rfl, Nat.le_of_ble_eq_true rfl, Nat.le_of_ble_eq_true rfl, Nat.le_of_ble_eq_true rfl⟩ (fun n => ?_)
  refine V_dup2 d_X12_isPaid_16 rfl rfl ?_
  obtain ⟨t3, ht3, hf⟩ := ob hf
  refine B_iald k_265 ht3 d_X12_isPaid_17 ?_
  refine V_iload_n d_X12_isPaid_18 rfl rfl ?_
  refine V_isub d_X12_isPaid_19 ?_
  obtain ⟨μ4, hμ4, hf⟩ := ob hf
  refine B_iast k_265 hμ4 d_X12_isPaid_20 ?_
  refine V_aload_n d_X12_isPaid_21 rfl rfl ?_
  refine V_aload_n d_X12_isPaid_22 rfl rfl ?_
  refine V_iload_n d_X12_isPaid_23 rfl rfl ?_
  refine V_iconst (v := 1) d_X12_isPaid_24 ic_1 ?_
  obtain ⟨t5, ht5, hf⟩ := ob hf
  refine B_callV1 (s_X12_ofLace hG ht5) k_264 clX12 m_X12_ofLace kv_RX12_70 d_X12_isPaid_25 rfl (Nat.le_of_ble_eq_true rfl) ⟨rfl, rfl, Nat.le_of_ble_eq_true rfl, Nat.le_of_ble_eq_true rfl, Nat.le_of_ble_eq_true rfl⟩ (fun n => ?_)
  refine V_iload_n d_X12_isPaid_28 rfl rfl ?_
  obtain ⟨q6, hq6, hf⟩ := ob hf
  refine B_callV0 (s_X12_gets hG hq6) k_264 clX12 m_X12_gets kv_RX12_332 d_X12_isPaid_29 rfl (Nat.le_of_ble_eq_true rfl) ⟨rfl, rfl, Nat.le_of_ble_eq_true rfl, Nat.le_of_ble_eq_true rfl, Nat.le_of_ble_eq_true rfl⟩ (fun n => ?_)
  refine V_aload_n d_X12_isPaid_32 rfl rfl ?_
  refine V_iload_n d_X12_isPaid_33 rfl rfl ?_
  obtain ⟨q7, hq7, hf⟩ := ob hf
  refine B_callV0 (s_X12_comesBack hG hq7) k_264 clX12 m_X12_comesBack kv_RX12_48 d_X12_isPaid_34 rfl (Nat.le_of_ble_eq_true rfl) ⟨rfl, rfl, Nat.le_of_ble_eq_true rfl, Nat.le_of_ble_eq_true rfl, Nat.le_of_ble_eq_true rfl⟩ (fun n => ?_)
  refine V_aload_n d_X12_isPaid_37 rfl rfl ?_
  refine V_iload_n d_X12_isPaid_38 rfl rfl ?_
  refine V_iconst (v := 1) d_X12_isPaid_39 ic_1 ?_
  refine V_iload_n d_X12_isPaid_40 rfl rfl ?_
  obtain ⟨q8, hq8, hf⟩ := ob hf
  refine B_callV0 (s_X12_tells hG hq8) k_264 clX12 m_X12_tells kv_RX12_335 d_X12_isPaid_41 rfl (Nat.le_of_ble_eq_true rfl) ⟨rfl, rfl, Nat.le_of_ble_eq_true rfl, Nat.le_of_ble_eq_true rfl, Nat.le_of_ble_eq_true rfl⟩ (fun n => ?_)
  cases hf
  exact R_v hK d_X12_isPaid_44 (Nat.le_of_ble_eq_true rfl) (Nat.le_of_ble_eq_true rfl)
theorem s_X12_isPaid {G : Gl} (hG : G.1.stackTraces = false) {μ : Mem} {p1 : Int32} {p2 : Int32} {r : Mem} (hf : f_X12_isPaid μ p1 p2 = some r) : Rt G yX12_isPaid F_X12_isPaid none [.ref (G.2.1 + 264), .int p1, .int p2] μ none r := fun n => Sd.of hG ⟨by decide +kernel, rfl, rfl⟩ rfl (Nat.le_of_ble_eq_true rfl) rfl (fun C hK => s_X12_isPaid_e hG hf hK)
theorem d_X12_isLostNow_0 : decode F_X12_isLostNow.2.1 0 = .ok (.aload_n 0, 1) := by decide +kernel
theorem d_X12_isLostNow_1 : decode F_X12_isLostNow.2.1 1 = .ok (.iload_n 1, 1) := by decide +kernel
theorem d_X12_isLostNow_2 : decode F_X12_isLostNow.2.1 2 = .ok (.iconst 2, 1) := by decide +kernel
theorem d_X12_isLostNow_3 : decode F_X12_isLostNow.2.1 3 = .ok (.invokevirtual 70, 3) := by decide +kernel
theorem d_X12_isLostNow_6 : decode F_X12_isLostNow.2.1 6 = .ok (.istore_n 2, 1) := by decide +kernel
theorem d_X12_isLostNow_7 : decode F_X12_isLostNow.2.1 7 = .ok (.aload_n 0, 1) := by decide +kernel
theorem d_X12_isLostNow_8 : decode F_X12_isLostNow.2.1 8 = .ok (.iload_n 1, 1) := by decide +kernel
theorem d_X12_isLostNow_9 : decode F_X12_isLostNow.2.1 9 = .ok (.iconst 2, 1) := by decide +kernel
theorem d_X12_isLostNow_10 : decode F_X12_isLostNow.2.1 10 = .ok (.aload_n 0, 1) := by decide +kernel
theorem d_X12_isLostNow_11 : decode F_X12_isLostNow.2.1 11 = .ok (.iload_n 1, 1) := by decide +kernel
theorem d_X12_isLostNow_12 : decode F_X12_isLostNow.2.1 12 = .ok (.iconst 1, 1) := by decide +kernel
theorem d_X12_isLostNow_13 : decode F_X12_isLostNow.2.1 13 = .ok (.invokevirtual 70, 3) := by decide +kernel
theorem d_X12_isLostNow_16 : decode F_X12_isLostNow.2.1 16 = .ok (.iconst 0, 1) := by decide +kernel
theorem d_X12_isLostNow_17 : decode F_X12_isLostNow.2.1 17 = .ok (.iconst 0, 1) := by decide +kernel
theorem d_X12_isLostNow_18 : decode F_X12_isLostNow.2.1 18 = .ok (.iconst 0, 1) := by decide +kernel
theorem d_X12_isLostNow_19 : decode F_X12_isLostNow.2.1 19 = .ok (.invokevirtual 80, 3) := by decide +kernel
theorem d_X12_isLostNow_22 : decode F_X12_isLostNow.2.1 22 = .ok (.aload_n 0, 1) := by decide +kernel
theorem d_X12_isLostNow_23 : decode F_X12_isLostNow.2.1 23 = .ok (.iload_n 1, 1) := by decide +kernel
theorem d_X12_isLostNow_24 : decode F_X12_isLostNow.2.1 24 = .ok (.iconst 2, 1) := by decide +kernel
theorem d_X12_isLostNow_25 : decode F_X12_isLostNow.2.1 25 = .ok (.iload_n 2, 1) := by decide +kernel
theorem d_X12_isLostNow_26 : decode F_X12_isLostNow.2.1 26 = .ok (.invokevirtual 335, 3) := by decide +kernel
theorem d_X12_isLostNow_29 : decode F_X12_isLostNow.2.1 29 = .ok (.return_, 1) := by decide +kernel
def f_X12_isLostNow (μ : Mem) (p1 : Int32) : Option Mem :=
Option.bind (f_X12_ofLace μ p1 2) fun t1 =>
Option.bind (f_X12_ofLace μ p1 1) fun t2 =>
Option.bind (f_X12_tellsLace μ p1 2 t2 0 0 0) fun q3 =>
Option.bind (f_X12_tells q3 p1 2 t1) fun q4 =>
some q4
theorem s_X12_isLostNow_e {G : Gl} (hG : G.1.stackTraces = false) {C : Cx} {n : Nat} {μ : Mem} {p1 : Int32} {r : Mem} (hf : f_X12_isLostNow μ p1 = some r) (hK : FinR G C F_X12_isLostNow none none r) : V G C F_X12_isLostNow 0 [some (.ref (G.2.1 + 264)), some (.int p1), none] [] (pic G μ) n 0 0 := by
  unfold f_X12_isLostNow at hf
  refine V_aload_n d_X12_isLostNow_0 rfl rfl ?_
  refine V_iload_n d_X12_isLostNow_1 rfl rfl ?_
  refine V_iconst (v := 2) d_X12_isLostNow_2 ic_2 ?_
  obtain ⟨t1, ht1, hf⟩ := ob hf
  refine B_callV1 (s_X12_ofLace hG ht1) k_264 clX12 m_X12_ofLace kv_RX12_70 d_X12_isLostNow_3 rfl (Nat.le_of_ble_eq_true rfl) ⟨rfl, rfl, Nat.le_of_ble_eq_true rfl, Nat.le_of_ble_eq_true rfl, Nat.le_of_ble_eq_true rfl⟩ (fun n => ?_)
  refine V_istore_n (ls' := [_, _, _]) d_X12_isLostNow_6 rfl rfl rfl ?_
  refine V_aload_n d_X12_isLostNow_7 rfl rfl ?_
  refine V_iload_n d_X12_isLostNow_8 rfl rfl ?_
  refine V_iconst (v := 2) d_X12_isLostNow_9 ic_2 ?_
  refine V_aload_n d_X12_isLostNow_10 rfl rfl ?_
  refine V_iload_n d_X12_isLostNow_11 rfl rfl ?_
  refine V_iconst (v := 1) d_X12_isLostNow_12 ic_1 ?_
  obtain ⟨t2, ht2, hf⟩ := ob hf
  refine B_callV1 (s_X12_ofLace hG ht2) k_264 clX12 m_X12_ofLace kv_RX12_70 d_X12_isLostNow_13 rfl (Nat.le_of_ble_eq_true rfl) ⟨rfl, rfl, Nat.le_of_ble_eq_true rfl, Nat.le_of_ble_eq_true rfl, Nat.le_of_ble_eq_true rfl⟩ (fun n => ?_)
  refine V_iconst (v := 0) d_X12_isLostNow_16 ic_0 ?_
  refine V_iconst (v := 0) d_X12_isLostNow_17 ic_0 ?_
  refine V_iconst (v := 0) d_X12_isLostNow_18 ic_0 ?_
  obtain ⟨q3, hq3, hf⟩ := ob hf
  refine B_callV0 (s_X12_tellsLace hG hq3) k_264 clX12 m_X12_tellsLace kv_RX12_80 d_X12_isLostNow_19 rfl (Nat.le_of_ble_eq_true rfl) ⟨rfl, rfl, Nat.le_of_ble_eq_true rfl, Nat.le_of_ble_eq_true rfl, Nat.le_of_ble_eq_true rfl⟩ (fun n => ?_)
  refine V_aload_n d_X12_isLostNow_22 rfl rfl ?_
  refine V_iload_n d_X12_isLostNow_23 rfl rfl ?_
  refine V_iconst (v := 2) d_X12_isLostNow_24 ic_2 ?_
  refine V_iload_n d_X12_isLostNow_25 rfl rfl ?_
  obtain ⟨q4, hq4, hf⟩ := ob hf
  refine B_callV0 (s_X12_tells hG hq4) k_264 clX12 m_X12_tells kv_RX12_335 d_X12_isLostNow_26 rfl (Nat.le_of_ble_eq_true rfl) ⟨rfl, rfl, Nat.le_of_ble_eq_true rfl, Nat.le_of_ble_eq_true rfl, Nat.le_of_ble_eq_true rfl⟩ (fun n => ?_)
  cases hf
  exact R_v hK d_X12_isLostNow_29 (Nat.le_of_ble_eq_true rfl) (Nat.le_of_ble_eq_true rfl)
theorem s_X12_isLostNow {G : Gl} (hG : G.1.stackTraces = false) {μ : Mem} {p1 : Int32} {r : Mem} (hf : f_X12_isLostNow μ p1 = some r) : Rt G yX12_isLostNow F_X12_isLostNow none [.ref (G.2.1 + 264), .int p1] μ none r := fun n => Sd.of hG ⟨by decide +kernel, rfl, rfl⟩ rfl (Nat.le_of_ble_eq_true rfl) rfl (fun C hK => s_X12_isLostNow_e hG hf hK)
theorem d_X12_rest_0 : decode F_X12_rest.2.1 0 = .ok (.aload_n 0, 1) := by decide +kernel
theorem d_X12_rest_1 : decode F_X12_rest.2.1 1 = .ok (.iconst 0, 1) := by decide +kernel
theorem d_X12_rest_2 : decode F_X12_rest.2.1 2 = .ok (.putfield 3, 3) := by decide +kernel
theorem d_X12_rest_5 : decode F_X12_rest.2.1 5 = .ok (.aload_n 0, 1) := by decide +kernel
theorem d_X12_rest_6 : decode F_X12_rest.2.1 6 = .ok (.aload_n 0, 1) := by decide +kernel
theorem d_X12_rest_7 : decode F_X12_rest.2.1 7 = .ok (.iload_n 1, 1) := by decide +kernel
theorem d_X12_rest_8 : decode F_X12_rest.2.1 8 = .ok (.invokevirtual 305, 3) := by decide +kernel
theorem d_X12_rest_11 : decode F_X12_rest.2.1 11 = .ok (.iconst 1, 1) := by decide +kernel
theorem d_X12_rest_12 : decode F_X12_rest.2.1 12 = .ok (.invokevirtual 263, 3) := by decide +kernel
theorem d_X12_rest_15 : decode F_X12_rest.2.1 15 = .ok (.ifCond .eq 5, 3) := by decide +kernel
theorem d_X12_rest_18 : decode F_X12_rest.2.1 18 = .ok (.iconst 0, 1) := by decide +kernel
theorem d_X12_rest_19 : decode F_X12_rest.2.1 19 = .ok (.ireturn, 1) := by decide +kernel
theorem d_X12_rest_20 : decode F_X12_rest.2.1 20 = .ok (.aload_n 0, 1) := by decide +kernel
theorem d_X12_rest_21 : decode F_X12_rest.2.1 21 = .ok (.invokevirtual 339, 3) := by decide +kernel
theorem d_X12_rest_24 : decode F_X12_rest.2.1 24 = .ok (.aload_n 0, 1) := by decide +kernel
theorem d_X12_rest_25 : decode F_X12_rest.2.1 25 = .ok (.iload_n 1, 1) := by decide +kernel
theorem d_X12_rest_26 : decode F_X12_rest.2.1 26 = .ok (.iconst 4, 1) := by decide +kernel
theorem d_X12_rest_27 : decode F_X12_rest.2.1 27 = .ok (.invokevirtual 84, 3) := by decide +kernel
theorem d_X12_rest_30 : decode F_X12_rest.2.1 30 = .ok (.istore_n 2, 1) := by decide +kernel
theorem d_X12_rest_31 : decode F_X12_rest.2.1 31 = .ok (.aload_n 0, 1) := by decide +kernel
theorem d_X12_rest_32 : decode F_X12_rest.2.1 32 = .ok (.getfield 13, 3) := by decide +kernel
theorem d_X12_rest_35 : decode F_X12_rest.2.1 35 = .ok (.iload_n 1, 1) := by decide +kernel
theorem d_X12_rest_36 : decode F_X12_rest.2.1 36 = .ok (.iconst 4, 1) := by decide +kernel
theorem d_X12_rest_37 : decode F_X12_rest.2.1 37 = .ok (.invokestatic 63, 3) := by decide +kernel
theorem d_X12_rest_40 : decode F_X12_rest.2.1 40 = .ok (.iconst 0, 1) := by decide +kernel
theorem d_X12_rest_41 : decode F_X12_rest.2.1 41 = .ok (.iastore, 1) := by decide +kernel
theorem d_X12_rest_42 : decode F_X12_rest.2.1 42 = .ok (.iload_n 2, 1) := by decide +kernel
theorem d_X12_rest_43 : decode F_X12_rest.2.1 43 = .ok (.ireturn, 1) := by decide +kernel
def f_X12_rest (μ : Mem) (p1 : Int32) : Option (Int32 × Mem) :=
Option.bind (f_X12_noPerson (mset μ 264 0 0) p1) fun t1 =>
Option.bind (f_X12_throwsIf (mset μ 264 0 0) t1 1) fun q2 =>
if q2.1 = true then
some (0, q2.2)
else
Option.bind (f_X12_remembers q2.2) fun q3 =>
Option.bind (f_X12_of q3 p1 4) fun t4 =>
Option.bind (f_X12_at q3 p1 4) fun t5 =>
Option.bind (wr q3 265 2068 t5 0) fun μ6 =>
some (t4, μ6)
theorem s_X12_rest_e {G : Gl} (hG : G.1.stackTraces = false) {C : Cx} {n : Nat} {μ : Mem} {p1 : Int32} {r : (Int32 × Mem)} (hf : f_X12_rest μ p1 = some r) (hK : FinR G C F_X12_rest (some .int) (some (.int r.1)) r.2) : V G C F_X12_rest 0 [some (.ref (G.2.1 + 264)), some (.int p1), none] [] (pic G μ) n 0 0 := by
  unfold f_X12_rest at hf
  refine V_aload_n d_X12_rest_0 rfl rfl ?_
  refine V_iconst (v := 0) d_X12_rest_1 ic_0 ?_
  refine B_putI k_264 fl_RX12_3 pt_12_0 (Nat.le_of_ble_eq_true rfl) p_12_0 d_X12_rest_2 ?_
  refine V_aload_n d_X12_rest_5 rfl rfl ?_
  refine V_aload_n d_X12_rest_6 rfl rfl ?_
  refine V_iload_n d_X12_rest_7 rfl rfl ?_
  obtain ⟨t1, ht1, hf⟩ := ob hf
  refine B_callV1 (s_X12_noPerson hG ht1) k_264 clX12 m_X12_noPerson kv_RX12_305 d_X12_rest_8 rfl (Nat.le_of_ble_eq_true rfl) ⟨rfl, rfl, Nat.le_of_ble_eq_true rfl, Nat.le_of_ble_eq_true rfl, Nat.le_of_ble_eq_true rfl⟩ (fun n => ?_)
  refine V_iconst (v := 1) d_X12_rest_11 ic_1 ?_
  obtain ⟨q2, hq2, hf⟩ := ob hf
  refine B_callV1 (s_X12_throwsIf hG hq2) k_264 clX12 m_X12_throwsIf kv_RX12_263 d_X12_rest_12 rfl (Nat.le_of_ble_eq_true rfl) ⟨rfl, rfl, Nat.le_of_ble_eq_true rfl, Nat.le_of_ble_eq_true rfl, Nat.le_of_ble_eq_true rfl⟩ (fun n => ?_)
  refine V_if_eq (tgt := 20) d_X12_rest_15 (by decide) (fun c15 => ?_) (fun c15 => ?_)
  · replace hf := iteF (b2i_nt (b2i_eq0 c15)) hf
    refine V_aload_n d_X12_rest_20 rfl rfl ?_
    obtain ⟨q3, hq3, hf⟩ := ob hf
    refine B_callV0 (s_X12_remembers hG hq3) k_264 clX12 m_X12_remembers kv_RX12_339 d_X12_rest_21 rfl (Nat.le_of_ble_eq_true rfl) ⟨rfl, rfl, Nat.le_of_ble_eq_true rfl, Nat.le_of_ble_eq_true rfl, Nat.le_of_ble_eq_true rfl⟩ (fun n => ?_)
    refine V_aload_n d_X12_rest_24 rfl rfl ?_
    refine V_iload_n d_X12_rest_25 rfl rfl ?_
    refine V_iconst (v := 4) d_X12_rest_26 ic_4 ?_
    obtain ⟨t4, ht4, hf⟩ := ob hf
    refine B_callV1 (s_X12_of hG ht4) k_264 clX12 m_X12_of kv_RX12_84 d_X12_rest_27 rfl (Nat.le_of_ble_eq_true rfl) ⟨rfl, rfl, Nat.le_of_ble_eq_true rfl, Nat.le_of_ble_eq_true rfl, Nat.le_of_ble_eq_true rfl⟩ (fun n => ?_)
    refine V_istore_n (ls' := [_, _, _]) d_X12_rest_30 rfl rfl rfl ?_
    refine V_aload_n d_X12_rest_31 rfl rfl ?_
    refine B_get k_264 fl_RX12_13 d_X12_rest_32 g_12_1 ?_
    refine V_iload_n d_X12_rest_35 rfl rfl ?_
    refine V_iconst (v := 4) d_X12_rest_36 ic_4 ?_
    obtain ⟨t5, ht5, hf⟩ := ob hf
    refine B_callS1 (s_X12_at hG ht5) m_X12_at ks_RX12_63 d_X12_rest_37 rfl (Nat.le_of_ble_eq_true rfl) ⟨rfl, rfl, Nat.le_of_ble_eq_true rfl, Nat.le_of_ble_eq_true rfl, Nat.le_of_ble_eq_true rfl⟩ (fun n => ?_)
    refine V_iconst (v := 0) d_X12_rest_40 ic_0 ?_
    obtain ⟨μ6, hμ6, hf⟩ := ob hf
    refine B_iast k_265 hμ6 d_X12_rest_41 ?_
    refine V_iload_n d_X12_rest_42 rfl rfl ?_
    cases hf
    exact R_i hK d_X12_rest_43 (Nat.le_of_ble_eq_true rfl) (Nat.le_of_ble_eq_true rfl)
  · replace hf := iteT (b2i_ne0 c15) hf
    refine V_iconst (v := 0) d_X12_rest_18 ic_0 ?_
    cases hf
    exact R_i hK d_X12_rest_19 (Nat.le_of_ble_eq_true rfl) (Nat.le_of_ble_eq_true rfl)
theorem s_X12_rest {G : Gl} (hG : G.1.stackTraces = false) {μ : Mem} {p1 : Int32} {r : (Int32 × Mem)} (hf : f_X12_rest μ p1 = some r) : Rt G yX12_rest F_X12_rest (some .int) [.ref (G.2.1 + 264), .int p1] μ (some (.int r.1)) r.2 := fun n => Sd.of hG ⟨by decide +kernel, rfl, rfl⟩ rfl (Nat.le_of_ble_eq_true rfl) rfl (fun C hK => s_X12_rest_e hG hf hK)
theorem d_X12_falls_0 : decode F_X12_falls.2.1 0 = .ok (.aload_n 0, 1) := by decide +kernel
theorem d_X12_falls_1 : decode F_X12_falls.2.1 1 = .ok (.getfield 13, 3) := by decide +kernel
theorem d_X12_falls_4 : decode F_X12_falls.2.1 4 = .ok (.iload_n 1, 1) := by decide +kernel
theorem d_X12_falls_5 : decode F_X12_falls.2.1 5 = .ok (.iconst 0, 1) := by decide +kernel
theorem d_X12_falls_6 : decode F_X12_falls.2.1 6 = .ok (.invokestatic 63, 3) := by decide +kernel
theorem d_X12_falls_9 : decode F_X12_falls.2.1 9 = .ok (.iconst 0, 1) := by decide +kernel
theorem d_X12_falls_10 : decode F_X12_falls.2.1 10 = .ok (.aload_n 0, 1) := by decide +kernel
theorem d_X12_falls_11 : decode F_X12_falls.2.1 11 = .ok (.iload_n 1, 1) := by decide +kernel
theorem d_X12_falls_12 : decode F_X12_falls.2.1 12 = .ok (.iconst 0, 1) := by decide +kernel
theorem d_X12_falls_13 : decode F_X12_falls.2.1 13 = .ok (.invokevirtual 84, 3) := by decide +kernel
theorem d_X12_falls_16 : decode F_X12_falls.2.1 16 = .ok (.aload_n 0, 1) := by decide +kernel
theorem d_X12_falls_17 : decode F_X12_falls.2.1 17 = .ok (.getfield 13, 3) := by decide +kernel
theorem d_X12_falls_20 : decode F_X12_falls.2.1 20 = .ok (.iconst 4, 1) := by decide +kernel
theorem d_X12_falls_21 : decode F_X12_falls.2.1 21 = .ok (.iaload, 1) := by decide +kernel
theorem d_X12_falls_22 : decode F_X12_falls.2.1 22 = .ok (.isub, 1) := by decide +kernel
theorem d_X12_falls_23 : decode F_X12_falls.2.1 23 = .ok (.invokestatic 293, 3) := by decide +kernel
theorem d_X12_falls_26 : decode F_X12_falls.2.1 26 = .ok (.iastore, 1) := by decide +kernel
theorem d_X12_falls_27 : decode F_X12_falls.2.1 27 = .ok (.aload_n 0, 1) := by decide +kernel
theorem d_X12_falls_28 : decode F_X12_falls.2.1 28 = .ok (.getfield 13, 3) := by decide +kernel
theorem d_X12_falls_31 : decode F_X12_falls.2.1 31 = .ok (.iload_n 1, 1) := by decide +kernel
theorem d_X12_falls_32 : decode F_X12_falls.2.1 32 = .ok (.iconst 4, 1) := by decide +kernel
theorem d_X12_falls_33 : decode F_X12_falls.2.1 33 = .ok (.invokestatic 63, 3) := by decide +kernel
theorem d_X12_falls_36 : decode F_X12_falls.2.1 36 = .ok (.bipush 9, 2) := by decide +kernel
theorem d_X12_falls_38 : decode F_X12_falls.2.1 38 = .ok (.aload_n 0, 1) := by decide +kernel
theorem d_X12_falls_39 : decode F_X12_falls.2.1 39 = .ok (.iload_n 1, 1) := by decide +kernel
theorem d_X12_falls_40 : decode F_X12_falls.2.1 40 = .ok (.iconst 4, 1) := by decide +kernel
theorem d_X12_falls_41 : decode F_X12_falls.2.1 41 = .ok (.invokevirtual 84, 3) := by decide +kernel
theorem d_X12_falls_44 : decode F_X12_falls.2.1 44 = .ok (.iconst 1, 1) := by decide +kernel
theorem d_X12_falls_45 : decode F_X12_falls.2.1 45 = .ok (.iadd, 1) := by decide +kernel
theorem d_X12_falls_46 : decode F_X12_falls.2.1 46 = .ok (.invokestatic 87, 3) := by decide +kernel
theorem d_X12_falls_49 : decode F_X12_falls.2.1 49 = .ok (.iastore, 1) := by decide +kernel
theorem d_X12_falls_50 : decode F_X12_falls.2.1 50 = .ok (.aload_n 0, 1) := by decide +kernel
theorem d_X12_falls_51 : decode F_X12_falls.2.1 51 = .ok (.getfield 13, 3) := by decide +kernel
theorem d_X12_falls_54 : decode F_X12_falls.2.1 54 = .ok (.iconst 5, 1) := by decide +kernel
theorem d_X12_falls_55 : decode F_X12_falls.2.1 55 = .ok (.dup2, 1) := by decide +kernel
theorem d_X12_falls_56 : decode F_X12_falls.2.1 56 = .ok (.iaload, 1) := by decide +kernel
theorem d_X12_falls_57 : decode F_X12_falls.2.1 57 = .ok (.iconst 1, 1) := by decide +kernel
theorem d_X12_falls_58 : decode F_X12_falls.2.1 58 = .ok (.iadd, 1) := by decide +kernel
theorem d_X12_falls_59 : decode F_X12_falls.2.1 59 = .ok (.iastore, 1) := by decide +kernel
theorem d_X12_falls_60 : decode F_X12_falls.2.1 60 = .ok (.return_, 1) := by decide +kernel
def f_X12_falls (μ : Mem) (p1 : Int32) : Option Mem :=
Option.bind (f_X12_at μ p1 0) fun t1 =>
Option.bind (f_X12_of μ p1 0) fun t2 =>
Option.bind (rd μ 265 2068 4) fun t3 =>
Option.bind (f_J9_max_7cf53 μ 0 (t2 - t3)) fun t4 =>
Option.bind (wr μ 265 2068 t1 t4) fun μ5 =>
Option.bind (f_X12_at μ5 p1 4) fun t6 =>
Option.bind (f_X12_of μ5 p1 4) fun t7 =>
Option.bind (f_J9_min_7cf53 μ5 9 (t7 + 1)) fun t8 =>
Option.bind (wr μ5 265 2068 t6 t8) fun μ9 =>
Option.bind (rd μ9 265 2068 5) fun t10 =>
Option.bind (wr μ9 265 2068 5 (t10 + 1)) fun μ11 =>
some μ11
theorem s_X12_falls_e {G : Gl} (hG : G.1.stackTraces = false) {C : Cx} {n : Nat} {μ : Mem} {p1 : Int32} {r : Mem} (hf : f_X12_falls μ p1 = some r) (hK : FinR G C F_X12_falls none none r) : V G C F_X12_falls 0 [some (.ref (G.2.1 + 264)), some (.int p1)] [] (pic G μ) n 0 0 := by
  unfold f_X12_falls at hf
  refine V_aload_n d_X12_falls_0 rfl rfl ?_
  refine B_get k_264 fl_RX12_13 d_X12_falls_1 g_12_1 ?_
  refine V_iload_n d_X12_falls_4 rfl rfl ?_
  refine V_iconst (v := 0) d_X12_falls_5 ic_0 ?_
  obtain ⟨t1, ht1, hf⟩ := ob hf
  refine B_callS1 (s_X12_at hG ht1) m_X12_at ks_RX12_63 d_X12_falls_6 rfl (Nat.le_of_ble_eq_true rfl) ⟨rfl, rfl, Nat.le_of_ble_eq_true rfl, Nat.le_of_ble_eq_true rfl, Nat.le_of_ble_eq_true rfl⟩ (fun n => ?_)
  refine V_iconst (v := 0) d_X12_falls_9 ic_0 ?_
  refine V_aload_n d_X12_falls_10 rfl rfl ?_
  refine V_iload_n d_X12_falls_11 rfl rfl ?_
  refine V_iconst (v := 0) d_X12_falls_12 ic_0 ?_
  obtain ⟨t2, ht2, hf⟩ := ob hf
  refine B_callV1 (s_X12_of hG ht2) k_264 clX12 m_X12_of kv_RX12_84 d_X12_falls_13 rfl (Nat.le_of_ble_eq_true rfl) ⟨rfl, rfl, Nat.le_of_ble_eq_true rfl, Nat.le_of_ble_eq_true rfl, Nat.le_of_ble_eq_true rfl⟩ (fun n => ?_)
  refine V_aload_n d_X12_falls_16 rfl rfl ?_
  refine B_get k_264 fl_RX12_13 d_X12_falls_17 g_12_1 ?_
  refine V_iconst (v := 4) d_X12_falls_20 ic_4 ?_
  obtain ⟨t3, ht3, hf⟩ := ob hf
  refine B_iald k_265 ht3 d_X12_falls_21 ?_
  refine V_isub d_X12_falls_22 ?_
  obtain ⟨t4, ht4, hf⟩ := ob hf
  refine B_callS1 (s_J9_max_7cf53 hG ht4) m_J9_max_7cf53 ks_RX12_293 d_X12_falls_23 rfl (Nat.le_of_ble_eq_true rfl) ⟨rfl, rfl, Nat.le_of_ble_eq_true rfl, Nat.le_of_ble_eq_true rfl, Nat.le_of_ble_eq_true rfl⟩ (fun n => ?_)
  obtain ⟨μ5, hμ5, hf⟩ := ob hf
  refine B_iast k_265 hμ5 d_X12_falls_26 ?_
  refine V_aload_n d_X12_falls_27 rfl rfl ?_
  refine B_get k_264 fl_RX12_13 d_X12_falls_28 g_12_1 ?_
  refine V_iload_n d_X12_falls_31 rfl rfl ?_
  refine V_iconst (v := 4) d_X12_falls_32 ic_4 ?_
  obtain ⟨t6, ht6, hf⟩ := ob hf
  refine B_callS1 (s_X12_at hG ht6) m_X12_at ks_RX12_63 d_X12_falls_33 rfl (Nat.le_of_ble_eq_true rfl) ⟨rfl, rfl, Nat.le_of_ble_eq_true rfl, Nat.le_of_ble_eq_true rfl, Nat.le_of_ble_eq_true rfl⟩ (fun n => ?_)
  refine V_bipush (v := 9) d_X12_falls_36 bp_9 ?_
  refine V_aload_n d_X12_falls_38 rfl rfl ?_
  refine V_iload_n d_X12_falls_39 rfl rfl ?_
  refine V_iconst (v := 4) d_X12_falls_40 ic_4 ?_
  obtain ⟨t7, ht7, hf⟩ := ob hf
  refine B_callV1 (s_X12_of hG ht7) k_264 clX12 m_X12_of kv_RX12_84 d_X12_falls_41 rfl (Nat.le_of_ble_eq_true rfl) ⟨rfl, rfl, Nat.le_of_ble_eq_true rfl, Nat.le_of_ble_eq_true rfl, Nat.le_of_ble_eq_true rfl⟩ (fun n => ?_)
  refine V_iconst (v := 1) d_X12_falls_44 ic_1 ?_
  refine V_iadd d_X12_falls_45 ?_
  obtain ⟨t8, ht8, hf⟩ := ob hf
  refine B_callS1 (s_J9_min_7cf53 hG ht8) m_J9_min_7cf53 ks_RX12_87 d_X12_falls_46 rfl (Nat.le_of_ble_eq_true rfl) ⟨rfl, rfl, Nat.le_of_ble_eq_true rfl, Nat.le_of_ble_eq_true rfl, Nat.le_of_ble_eq_true rfl⟩ (fun n => ?_)
  obtain ⟨μ9, hμ9, hf⟩ := ob hf
  refine B_iast k_265 hμ9 d_X12_falls_49 ?_
  refine V_aload_n d_X12_falls_50 rfl rfl ?_
  refine B_get k_264 fl_RX12_13 d_X12_falls_51 g_12_1 ?_
  refine V_iconst (v := 5) d_X12_falls_54 ic_5 ?_
  refine V_dup2 d_X12_falls_55 rfl rfl ?_
  obtain ⟨t10, ht10, hf⟩ := ob hf
  refine B_iald k_265 ht10 d_X12_falls_56 ?_
  refine V_iconst (v := 1) d_X12_falls_57 ic_1 ?_
  refine V_iadd d_X12_falls_58 ?_
  obtain ⟨μ11, hμ11, hf⟩ := ob hf
  refine B_iast k_265 hμ11 d_X12_falls_59 ?_
  cases hf
  exact R_v hK d_X12_falls_60 (Nat.le_of_ble_eq_true rfl) (Nat.le_of_ble_eq_true rfl)
theorem s_X12_falls {G : Gl} (hG : G.1.stackTraces = false) {μ : Mem} {p1 : Int32} {r : Mem} (hf : f_X12_falls μ p1 = some r) : Rt G yX12_falls F_X12_falls none [.ref (G.2.1 + 264), .int p1] μ none r := fun n => Sd.of hG ⟨by decide +kernel, rfl, rfl⟩ rfl (Nat.le_of_ble_eq_true rfl) rfl (fun C hK => s_X12_falls_e hG hf hK)
theorem d_J9_abs_0f7a4_0 : decode F_J9_abs_0f7a4.2.1 0 = .ok (.iload_n 0, 1) := by decide +kernel
theorem d_J9_abs_0f7a4_1 : decode F_J9_abs_0f7a4.2.1 1 = .ok (.ifCond .ge 8, 3) := by decide +kernel
theorem d_J9_abs_0f7a4_4 : decode F_J9_abs_0f7a4.2.1 4 = .ok (.iload_n 0, 1) := by decide +kernel
theorem d_J9_abs_0f7a4_5 : decode F_J9_abs_0f7a4.2.1 5 = .ok (.ineg, 1) := by decide +kernel
theorem d_J9_abs_0f7a4_6 : decode F_J9_abs_0f7a4.2.1 6 = .ok (.goto 4, 3) := by decide +kernel
theorem d_J9_abs_0f7a4_9 : decode F_J9_abs_0f7a4.2.1 9 = .ok (.iload_n 0, 1) := by decide +kernel
theorem d_J9_abs_0f7a4_10 : decode F_J9_abs_0f7a4.2.1 10 = .ok (.ireturn, 1) := by decide +kernel
def f_J9_abs_0f7a4 (μ : Mem) (p0 : Int32) : Option Int32 :=
some (if 0 ≤ p0 then p0 else (-p0))
theorem s_J9_abs_0f7a4_e {G : Gl} (hG : G.1.stackTraces = false) {C : Cx} {n : Nat} {μ : Mem} {p0 : Int32} {r : Int32} (hf : f_J9_abs_0f7a4 μ p0 = some r) (hK : FinR G C F_J9_abs_0f7a4 (some .int) (some (.int r)) μ) : V G C F_J9_abs_0f7a4 0 [some (.int p0)] [] (pic G μ) n 0 0 := by
  unfold f_J9_abs_0f7a4 at hf
  refine V_iload_n d_J9_abs_0f7a4_0 rfl rfl ?_
  have hJj1 : ∀ j1 : Int32, j1 = (if 0 ≤ p0 then p0 else (-p0)) → V G C F_J9_abs_0f7a4 10 [none] [.int j1] (pic G μ) n 0 0 := by
    intro j1 ej1
    subst ej1
    cases hf
    exact R_i hK d_J9_abs_0f7a4_10 (Nat.le_of_ble_eq_true rfl) (Nat.le_of_ble_eq_true rfl)
  refine V_if_ge (tgt := 9) d_J9_abs_0f7a4_1 (by decide) (fun c1 => ?_) (fun c1 => ?_)
  · refine V_iload_n d_J9_abs_0f7a4_9 rfl rfl ?_
    refine V_less (ls' := [none]) trivial ?_
    exact hJj1 p0 (by rw [if_pos c1])
  · refine V_iload_n d_J9_abs_0f7a4_4 rfl rfl ?_
    refine V_ineg d_J9_abs_0f7a4_5 ?_
    refine V_goto (tgt := 10) d_J9_abs_0f7a4_6 (by decide) ?_
    refine V_less (ls' := [none]) trivial ?_
    exact hJj1 (-p0) (by rw [if_neg c1])
theorem s_J9_abs_0f7a4 {G : Gl} (hG : G.1.stackTraces = false) {μ : Mem} {p0 : Int32} {r : Int32} (hf : f_J9_abs_0f7a4 μ p0 = some r) : Rt G yJ9_abs_0f7a4 F_J9_abs_0f7a4 (some .int) [.int p0] μ (some (.int r)) μ := fun n => Sd.ofJ hG ⟨by decide +kernel, rfl, rfl⟩ rfl (Nat.le_of_ble_eq_true rfl) rfl (fun C hK => s_J9_abs_0f7a4_e hG hf hK)
theorem d_X12_isCalled_0 : decode F_X12_isCalled.2.1 0 = .ok (.aload_n 0, 1) := by decide +kernel
theorem d_X12_isCalled_1 : decode F_X12_isCalled.2.1 1 = .ok (.iload_n 1, 1) := by decide +kernel
theorem d_X12_isCalled_2 : decode F_X12_isCalled.2.1 2 = .ok (.iconst 2, 1) := by decide +kernel
theorem d_X12_isCalled_3 : decode F_X12_isCalled.2.1 3 = .ok (.invokevirtual 70, 3) := by decide +kernel
theorem d_X12_isCalled_6 : decode F_X12_isCalled.2.1 6 = .ok (.istore_n 2, 1) := by decide +kernel
theorem d_X12_isCalled_7 : decode F_X12_isCalled.2.1 7 = .ok (.aload_n 0, 1) := by decide +kernel
theorem d_X12_isCalled_8 : decode F_X12_isCalled.2.1 8 = .ok (.iload_n 1, 1) := by decide +kernel
theorem d_X12_isCalled_9 : decode F_X12_isCalled.2.1 9 = .ok (.iconst 5, 1) := by decide +kernel
theorem d_X12_isCalled_10 : decode F_X12_isCalled.2.1 10 = .ok (.invokevirtual 70, 3) := by decide +kernel
theorem d_X12_isCalled_13 : decode F_X12_isCalled.2.1 13 = .ok (.istore_n 3, 1) := by decide +kernel
theorem d_X12_isCalled_14 : decode F_X12_isCalled.2.1 14 = .ok (.aload_n 0, 1) := by decide +kernel
theorem d_X12_isCalled_15 : decode F_X12_isCalled.2.1 15 = .ok (.iload_n 1, 1) := by decide +kernel
theorem d_X12_isCalled_16 : decode F_X12_isCalled.2.1 16 = .ok (.invokestatic 144, 3) := by decide +kernel
theorem d_X12_isCalled_19 : decode F_X12_isCalled.2.1 19 = .ok (.iconst 0, 1) := by decide +kernel
theorem d_X12_isCalled_20 : decode F_X12_isCalled.2.1 20 = .ok (.invokevirtual 84, 3) := by decide +kernel
theorem d_X12_isCalled_23 : decode F_X12_isCalled.2.1 23 = .ok (.iload_n 2, 1) := by decide +kernel
theorem d_X12_isCalled_24 : decode F_X12_isCalled.2.1 24 = .ok (.if_icmp .lt 15, 3) := by decide +kernel
theorem d_X12_isCalled_27 : decode F_X12_isCalled.2.1 27 = .ok (.aload_n 0, 1) := by decide +kernel
theorem d_X12_isCalled_28 : decode F_X12_isCalled.2.1 28 = .ok (.iload_n 1, 1) := by decide +kernel
theorem d_X12_isCalled_29 : decode F_X12_isCalled.2.1 29 = .ok (.iload_n 1, 1) := by decide +kernel
theorem d_X12_isCalled_30 : decode F_X12_isCalled.2.1 30 = .ok (.invokestatic 144, 3) := by decide +kernel
theorem d_X12_isCalled_33 : decode F_X12_isCalled.2.1 33 = .ok (.invokevirtual 342, 3) := by decide +kernel
theorem d_X12_isCalled_36 : decode F_X12_isCalled.2.1 36 = .ok (.goto 32, 3) := by decide +kernel
theorem d_X12_isCalled_39 : decode F_X12_isCalled.2.1 39 = .ok (.iload_n 3, 1) := by decide +kernel
theorem d_X12_isCalled_40 : decode F_X12_isCalled.2.1 40 = .ok (.iconst (-1), 1) := by decide +kernel
theorem d_X12_isCalled_41 : decode F_X12_isCalled.2.1 41 = .ok (.if_icmp .eq 22, 3) := by decide +kernel
theorem d_X12_isCalled_44 : decode F_X12_isCalled.2.1 44 = .ok (.aload_n 0, 1) := by decide +kernel
theorem d_X12_isCalled_45 : decode F_X12_isCalled.2.1 45 = .ok (.iload_n 3, 1) := by decide +kernel
theorem d_X12_isCalled_46 : decode F_X12_isCalled.2.1 46 = .ok (.iconst 0, 1) := by decide +kernel
theorem d_X12_isCalled_47 : decode F_X12_isCalled.2.1 47 = .ok (.invokevirtual 84, 3) := by decide +kernel
theorem d_X12_isCalled_50 : decode F_X12_isCalled.2.1 50 = .ok (.iload_n 2, 1) := by decide +kernel
theorem d_X12_isCalled_51 : decode F_X12_isCalled.2.1 51 = .ok (.if_icmp .lt 12, 3) := by decide +kernel
theorem d_X12_isCalled_54 : decode F_X12_isCalled.2.1 54 = .ok (.aload_n 0, 1) := by decide +kernel
theorem d_X12_isCalled_55 : decode F_X12_isCalled.2.1 55 = .ok (.iload_n 1, 1) := by decide +kernel
theorem d_X12_isCalled_56 : decode F_X12_isCalled.2.1 56 = .ok (.iload_n 3, 1) := by decide +kernel
theorem d_X12_isCalled_57 : decode F_X12_isCalled.2.1 57 = .ok (.invokevirtual 342, 3) := by decide +kernel
theorem d_X12_isCalled_60 : decode F_X12_isCalled.2.1 60 = .ok (.goto 8, 3) := by decide +kernel
theorem d_X12_isCalled_63 : decode F_X12_isCalled.2.1 63 = .ok (.aload_n 0, 1) := by decide +kernel
theorem d_X12_isCalled_64 : decode F_X12_isCalled.2.1 64 = .ok (.iload_n 1, 1) := by decide +kernel
theorem d_X12_isCalled_65 : decode F_X12_isCalled.2.1 65 = .ok (.invokevirtual 348, 3) := by decide +kernel
theorem d_X12_isCalled_68 : decode F_X12_isCalled.2.1 68 = .ok (.return_, 1) := by decide +kernel
def f_X12_isCalled_j68 (μ : Mem) : Option Mem :=
some μ
def f_X12_isCalled_j63 (μ : Mem) (l1 : Int32) : Option Mem :=
Option.bind (f_X12_isLostNow μ l1) fun q1 =>
f_X12_isCalled_j68 q1
def f_X12_isCalled (μ : Mem) (p1 : Int32) : Option Mem :=
Option.bind (f_X12_ofLace μ p1 2) fun t1 =>
Option.bind (f_X12_ofLace μ p1 5) fun t2 =>
Option.bind (f_X12_ownerOf μ p1) fun t3 =>
Option.bind (f_X12_of μ t3 0) fun t4 =>
if t4 < t1 then
if t2 = (-1) then
f_X12_isCalled_j63 μ p1
else
Option.bind (f_X12_of μ t2 0) fun t5 =>
if t5 < t1 then
f_X12_isCalled_j63 μ p1
else
Option.bind (f_X12_isPaid μ p1 t2) fun q6 =>
f_X12_isCalled_j68 q6
else
Option.bind (f_X12_ownerOf μ p1) fun t7 =>
Option.bind (f_X12_isPaid μ p1 t7) fun q8 =>
f_X12_isCalled_j68 q8
theorem s_X12_isCalled_j68 {G : Gl} (hG : G.1.stackTraces = false) {C : Cx} {n : Nat} {μ : Mem}  {r : Mem} (hf : f_X12_isCalled_j68 μ = some r) (hK : FinR G C F_X12_isCalled none none r) : V G C F_X12_isCalled 68 [none, none, none, none] [] (pic G μ) n 0 0 := by
  unfold f_X12_isCalled_j68 at hf
  cases hf
  exact R_v hK d_X12_isCalled_68 (Nat.le_of_ble_eq_true rfl) (Nat.le_of_ble_eq_true rfl)
theorem s_X12_isCalled_j63 {G : Gl} (hG : G.1.stackTraces = false) {C : Cx} {n : Nat} {μ : Mem} {l1 : Int32} {r : Mem} (hf : f_X12_isCalled_j63 μ l1 = some r) (hK : FinR G C F_X12_isCalled none none r) : V G C F_X12_isCalled 63 [some (.ref (G.2.1 + 264)), some (.int l1), none, none] [] (pic G μ) n 0 0 := by
  unfold f_X12_isCalled_j63 at hf
  refine V_aload_n d_X12_isCalled_63 rfl rfl ?_
  refine V_iload_n d_X12_isCalled_64 rfl rfl ?_
  obtain ⟨q1, hq1, hf⟩ := ob hf
  refine B_callV0 (s_X12_isLostNow hG hq1) k_264 clX12 m_X12_isLostNow kv_RX12_348 d_X12_isCalled_65 rfl (Nat.le_of_ble_eq_true rfl) ⟨rfl, rfl, Nat.le_of_ble_eq_true rfl, Nat.le_of_ble_eq_true rfl, Nat.le_of_ble_eq_true rfl⟩ (fun n => ?_)
  refine V_less (ls' := [none, none, none, none]) trivial ?_
  exact s_X12_isCalled_j68 hG hf hK
theorem s_X12_isCalled_e {G : Gl} (hG : G.1.stackTraces = false) {C : Cx} {n : Nat} {μ : Mem} {p1 : Int32} {r : Mem} (hf : f_X12_isCalled μ p1 = some r) (hK : FinR G C F_X12_isCalled none none r) : V G C F_X12_isCalled 0 [some (.ref (G.2.1 + 264)), some (.int p1), none, none] [] (pic G μ) n 0 0 := by
  unfold f_X12_isCalled at hf
  refine V_aload_n d_X12_isCalled_0 rfl rfl ?_
  refine V_iload_n d_X12_isCalled_1 rfl rfl ?_
  refine V_iconst (v := 2) d_X12_isCalled_2 ic_2 ?_
  obtain ⟨t1, ht1, hf⟩ := ob hf
  refine B_callV1 (s_X12_ofLace hG ht1) k_264 clX12 m_X12_ofLace kv_RX12_70 d_X12_isCalled_3 rfl (Nat.le_of_ble_eq_true rfl) ⟨rfl, rfl, Nat.le_of_ble_eq_true rfl, Nat.le_of_ble_eq_true rfl, Nat.le_of_ble_eq_true rfl⟩ (fun n => ?_)
  refine V_istore_n (ls' := [_, _, _, _]) d_X12_isCalled_6 rfl rfl rfl ?_
  refine V_aload_n d_X12_isCalled_7 rfl rfl ?_
  refine V_iload_n d_X12_isCalled_8 rfl rfl ?_
  refine V_iconst (v := 5) d_X12_isCalled_9 ic_5 ?_
  obtain ⟨t2, ht2, hf⟩ := ob hf
  refine B_callV1 (s_X12_ofLace hG ht2) k_264 clX12 m_X12_ofLace kv_RX12_70 d_X12_isCalled_10 rfl (Nat.le_of_ble_eq_true rfl) ⟨rfl, rfl, Nat.le_of_ble_eq_true rfl, Nat.le_of_ble_eq_true rfl, Nat.le_of_ble_eq_true rfl⟩ (fun n => ?_)
  refine V_istore_n (ls' := [_, _, _, _]) d_X12_isCalled_13 rfl rfl rfl ?_
  refine V_aload_n d_X12_isCalled_14 rfl rfl ?_
  refine V_iload_n d_X12_isCalled_15 rfl rfl ?_
  obtain ⟨t3, ht3, hf⟩ := ob hf
  refine B_callS1 (s_X12_ownerOf hG ht3) m_X12_ownerOf ks_RX12_144 d_X12_isCalled_16 rfl (Nat.le_of_ble_eq_true rfl) ⟨rfl, rfl, Nat.le_of_ble_eq_true rfl, Nat.le_of_ble_eq_true rfl, Nat.le_of_ble_eq_true rfl⟩ (fun n => ?_)
  refine V_iconst (v := 0) d_X12_isCalled_19 ic_0 ?_
  obtain ⟨t4, ht4, hf⟩ := ob hf
  refine B_callV1 (s_X12_of hG ht4) k_264 clX12 m_X12_of kv_RX12_84 d_X12_isCalled_20 rfl (Nat.le_of_ble_eq_true rfl) ⟨rfl, rfl, Nat.le_of_ble_eq_true rfl, Nat.le_of_ble_eq_true rfl, Nat.le_of_ble_eq_true rfl⟩ (fun n => ?_)
  refine V_iload_n d_X12_isCalled_23 rfl rfl ?_
  refine V_icmp_lt (tgt := 39) d_X12_isCalled_24 (by decide) (fun c24 => ?_) (fun c24 => ?_)
  · replace hf := iteT c24 hf
    refine V_iload_n d_X12_isCalled_39 rfl rfl ?_
    refine V_iconst (v := (-1)) d_X12_isCalled_40 ic_m1 ?_
    refine V_icmp_eq (tgt := 63) d_X12_isCalled_41 (by decide) (fun c41 => ?_) (fun c41 => ?_)
    · replace hf := iteT c41 hf
      refine V_less (ls' := [some _, some _, none, none]) ⟨rfl, rfl, trivial⟩ ?_
      exact s_X12_isCalled_j63 hG hf hK
    · replace hf := iteF c41 hf
      refine V_aload_n d_X12_isCalled_44 rfl rfl ?_
      refine V_iload_n d_X12_isCalled_45 rfl rfl ?_
      refine V_iconst (v := 0) d_X12_isCalled_46 ic_0 ?_
      obtain ⟨t5, ht5, hf⟩ := ob hf
      refine B_callV1 (s_X12_of hG ht5) k_264 clX12 m_X12_of kv_RX12_84 d_X12_isCalled_47 rfl (Nat.le_of_ble_eq_true rfl) ⟨rfl, rfl, Nat.le_of_ble_eq_true rfl, Nat.le_of_ble_eq_true rfl, Nat.le_of_ble_eq_true rfl⟩ (fun n => ?_)
      refine V_iload_n d_X12_isCalled_50 rfl rfl ?_
      refine V_icmp_lt (tgt := 63) d_X12_isCalled_51 (by decide) (fun c51 => ?_) (fun c51 => ?_)
      · replace hf := iteT c51 hf
        refine V_less (ls' := [some _, some _, none, none]) ⟨rfl, rfl, trivial⟩ ?_
        exact s_X12_isCalled_j63 hG hf hK
      · replace hf := iteF c51 hf
        refine V_aload_n d_X12_isCalled_54 rfl rfl ?_
        refine V_iload_n d_X12_isCalled_55 rfl rfl ?_
        refine V_iload_n d_X12_isCalled_56 rfl rfl ?_
        obtain ⟨q6, hq6, hf⟩ := ob hf
        refine B_callV0 (s_X12_isPaid hG hq6) k_264 clX12 m_X12_isPaid kv_RX12_342 d_X12_isCalled_57 rfl (Nat.le_of_ble_eq_true rfl) ⟨rfl, rfl, Nat.le_of_ble_eq_true rfl, Nat.le_of_ble_eq_true rfl, Nat.le_of_ble_eq_true rfl⟩ (fun n => ?_)
        refine V_goto (tgt := 68) d_X12_isCalled_60 (by decide) ?_
        refine V_less (ls' := [none, none, none, none]) trivial ?_
        exact s_X12_isCalled_j68 hG hf hK
  · replace hf := iteF c24 hf
    refine V_aload_n d_X12_isCalled_27 rfl rfl ?_
    refine V_iload_n d_X12_isCalled_28 rfl rfl ?_
    refine V_iload_n d_X12_isCalled_29 rfl rfl ?_
    obtain ⟨t7, ht7, hf⟩ := ob hf
    refine B_callS1 (s_X12_ownerOf hG ht7) m_X12_ownerOf ks_RX12_144 d_X12_isCalled_30 rfl (Nat.le_of_ble_eq_true rfl) ⟨rfl, rfl, Nat.le_of_ble_eq_true rfl, Nat.le_of_ble_eq_true rfl, Nat.le_of_ble_eq_true rfl⟩ (fun n => ?_)
    obtain ⟨q8, hq8, hf⟩ := ob hf
    refine B_callV0 (s_X12_isPaid hG hq8) k_264 clX12 m_X12_isPaid kv_RX12_342 d_X12_isCalled_33 rfl (Nat.le_of_ble_eq_true rfl) ⟨rfl, rfl, Nat.le_of_ble_eq_true rfl, Nat.le_of_ble_eq_true rfl, Nat.le_of_ble_eq_true rfl⟩ (fun n => ?_)
    refine V_goto (tgt := 68) d_X12_isCalled_36 (by decide) ?_
    refine V_less (ls' := [none, none, none, none]) trivial ?_
    exact s_X12_isCalled_j68 hG hf hK
theorem s_X12_isCalled {G : Gl} (hG : G.1.stackTraces = false) {μ : Mem} {p1 : Int32} {r : Mem} (hf : f_X12_isCalled μ p1 = some r) : Rt G yX12_isCalled F_X12_isCalled none [.ref (G.2.1 + 264), .int p1] μ none r := fun n => Sd.of hG ⟨by decide +kernel, rfl, rfl⟩ rfl (Nat.le_of_ble_eq_true rfl) rfl (fun C hK => s_X12_isCalled_e hG hf hK)
theorem d_X12_keepsAll_0 : decode F_X12_keepsAll.2.1 0 = .ok (.iconst 0, 1) := by decide +kernel
theorem d_X12_keepsAll_1 : decode F_X12_keepsAll.2.1 1 = .ok (.istore_n 1, 1) := by decide +kernel
theorem d_X12_keepsAll_2 : decode F_X12_keepsAll.2.1 2 = .ok (.iload_n 1, 1) := by decide +kernel
theorem d_X12_keepsAll_3 : decode F_X12_keepsAll.2.1 3 = .ok (.sipush 370, 3) := by decide +kernel
theorem d_X12_keepsAll_6 : decode F_X12_keepsAll.2.1 6 = .ok (.if_icmp .ge 21, 3) := by decide +kernel
theorem d_X12_keepsAll_9 : decode F_X12_keepsAll.2.1 9 = .ok (.aload_n 0, 1) := by decide +kernel
theorem d_X12_keepsAll_10 : decode F_X12_keepsAll.2.1 10 = .ok (.getfield 23, 3) := by decide +kernel
theorem d_X12_keepsAll_13 : decode F_X12_keepsAll.2.1 13 = .ok (.iload_n 1, 1) := by decide +kernel
theorem d_X12_keepsAll_14 : decode F_X12_keepsAll.2.1 14 = .ok (.aload_n 0, 1) := by decide +kernel
theorem d_X12_keepsAll_15 : decode F_X12_keepsAll.2.1 15 = .ok (.getfield 13, 3) := by decide +kernel
theorem d_X12_keepsAll_18 : decode F_X12_keepsAll.2.1 18 = .ok (.iload_n 1, 1) := by decide +kernel
theorem d_X12_keepsAll_19 : decode F_X12_keepsAll.2.1 19 = .ok (.iaload, 1) := by decide +kernel
theorem d_X12_keepsAll_20 : decode F_X12_keepsAll.2.1 20 = .ok (.iastore, 1) := by decide +kernel
theorem d_X12_keepsAll_21 : decode F_X12_keepsAll.2.1 21 = .ok (.iinc 1 1, 3) := by decide +kernel
theorem d_X12_keepsAll_24 : decode F_X12_keepsAll.2.1 24 = .ok (.goto (-22), 3) := by decide +kernel
theorem d_X12_keepsAll_27 : decode F_X12_keepsAll.2.1 27 = .ok (.return_, 1) := by decide +kernel
def f_X12_keepsAll_b2 (μ : Mem) (l1 : Int32) : Option ((Int32 × Mem) ⊕ Mem) :=
if 370 ≤ l1 then
some (.inr μ)
else
Option.bind (rd μ 265 2068 l1) fun t1 =>
Option.bind (wr μ 268 370 l1 t1) fun μ2 =>
some (.inl ((l1 + 1), μ2))
def f_X12_keepsAll_j27 (μ : Mem) : Option Mem :=
some μ
def f_X12_keepsAll_l2 (μ : Mem) (l1 : Int32) : Option Mem := Option.bind (loopN 10000 (fun z : (Int32 × Mem) => f_X12_keepsAll_b2 z.2 z.1) (l1, μ)) fun t : Mem => f_X12_keepsAll_j27 t
def f_X12_keepsAll (μ : Mem) : Option Mem :=
f_X12_keepsAll_l2 μ 0
theorem s_X12_keepsAll_b2 {G : Gl} (hG : G.1.stackTraces = false) {C : Cx} {n : Nat} {μ : Mem} {l1 : Int32} {y : ((Int32 × Mem) ⊕ Mem)} (hf : f_X12_keepsAll_b2 μ l1 = some y) (hK : (∀ z', y = .inl z' → ∀ n, V G C F_X12_keepsAll 2 [some (.ref (G.2.1 + 264)), some (.int z'.1)] [] (pic G z'.2) n 0 0) ∧ (∀ x', y = .inr x' → ∀ n, V G C F_X12_keepsAll 27 [none, none] [] (pic G x') n 0 0)) : V G C F_X12_keepsAll 2 [some (.ref (G.2.1 + 264)), some (.int l1)] [] (pic G μ) n 0 0 := by
  unfold f_X12_keepsAll_b2 at hf
  refine V_iload_n d_X12_keepsAll_2 rfl rfl ?_
  refine V_sipush (v := 370) d_X12_keepsAll_3 sp_370 ?_
  refine V_icmp_ge (tgt := 27) d_X12_keepsAll_6 (by decide) (fun c6 => ?_) (fun c6 => ?_)
  · replace hf := iteT c6 hf
    refine V_less (ls' := [none, none]) trivial ?_
    cases hf
    exact hK.2 _ rfl _
  · replace hf := iteF c6 hf
    refine V_aload_n d_X12_keepsAll_9 rfl rfl ?_
    refine B_get k_264 fl_RX12_23 d_X12_keepsAll_10 g_12_4 ?_
    refine V_iload_n d_X12_keepsAll_13 rfl rfl ?_
    refine V_aload_n d_X12_keepsAll_14 rfl rfl ?_
    refine B_get k_264 fl_RX12_13 d_X12_keepsAll_15 g_12_1 ?_
    refine V_iload_n d_X12_keepsAll_18 rfl rfl ?_
    obtain ⟨t1, ht1, hf⟩ := ob hf
    refine B_iald k_265 ht1 d_X12_keepsAll_19 ?_
    obtain ⟨μ2, hμ2, hf⟩ := ob hf
    refine B_iast k_268 hμ2 d_X12_keepsAll_20 ?_
    refine V_iinc (v := (l1 + 1)) (ls' := [_, _]) d_X12_keepsAll_21 rfl (by rw [ic_1]) rfl ?_
    refine V_goto (tgt := 2) d_X12_keepsAll_24 (by decide) ?_
    refine V_less (ls' := [some _, some _]) ⟨rfl, rfl, trivial⟩ ?_
    cases hf
    exact hK.1 _ rfl _
theorem s_X12_keepsAll_j27 {G : Gl} (hG : G.1.stackTraces = false) {C : Cx} {n : Nat} {μ : Mem}  {r : Mem} (hf : f_X12_keepsAll_j27 μ = some r) (hK : FinR G C F_X12_keepsAll none none r) : V G C F_X12_keepsAll 27 [none, none] [] (pic G μ) n 0 0 := by
  unfold f_X12_keepsAll_j27 at hf
  cases hf
  exact R_v hK d_X12_keepsAll_27 (Nat.le_of_ble_eq_true rfl) (Nat.le_of_ble_eq_true rfl)
theorem s_X12_keepsAll_l2 {G : Gl} (hG : G.1.stackTraces = false) {C : Cx} {n : Nat} {μ : Mem} {l1 : Int32} {r : Mem} (hf : f_X12_keepsAll_l2 μ l1 = some r) (hK : FinR G C F_X12_keepsAll none none r) : V G C F_X12_keepsAll 2 [some (.ref (G.2.1 + 264)), some (.int l1)] [] (pic G μ) n 0 0 := by
  unfold f_X12_keepsAll_l2 at hf
  obtain ⟨t, hl, hf⟩ := ob hf
  refine loopV (P := fun z => ∀ n, V G C F_X12_keepsAll 2 [some (.ref (G.2.1 + 264)), some (.int z.1)] [] (pic G z.2) n 0 0) (t := t) ?_ _ _ hl n
  intro z y' hy hI hT n
  refine s_X12_keepsAll_b2 hG hy ⟨hI, fun x9 ex => ?_⟩
  have ex2 := hT x9 ex
  subst ex2
  intro n
  exact s_X12_keepsAll_j27 hG hf hK
theorem s_X12_keepsAll_e {G : Gl} (hG : G.1.stackTraces = false) {C : Cx} {n : Nat} {μ : Mem}  {r : Mem} (hf : f_X12_keepsAll μ = some r) (hK : FinR G C F_X12_keepsAll none none r) : V G C F_X12_keepsAll 0 [some (.ref (G.2.1 + 264)), none] [] (pic G μ) n 0 0 := by
  unfold f_X12_keepsAll at hf
  refine V_iconst (v := 0) d_X12_keepsAll_0 ic_0 ?_
  refine V_istore_n (ls' := [_, _]) d_X12_keepsAll_1 rfl rfl rfl ?_
  refine V_less (ls' := [some _, some _]) ⟨rfl, rfl, trivial⟩ ?_
  exact s_X12_keepsAll_l2 hG hf hK
theorem s_X12_keepsAll {G : Gl} (hG : G.1.stackTraces = false) {μ : Mem} {r : Mem} (hf : f_X12_keepsAll μ = some r) : Rt G yX12_keepsAll F_X12_keepsAll none [.ref (G.2.1 + 264)] μ none r := fun n => Sd.of hG ⟨by decide +kernel, rfl, rfl⟩ rfl (Nat.le_of_ble_eq_true rfl) rfl (fun C hK => s_X12_keepsAll_e hG hf hK)
theorem d_X12_bringsBack_0 : decode F_X12_bringsBack.2.1 0 = .ok (.iconst 0, 1) := by decide +kernel
theorem d_X12_bringsBack_1 : decode F_X12_bringsBack.2.1 1 = .ok (.istore_n 1, 1) := by decide +kernel
theorem d_X12_bringsBack_2 : decode F_X12_bringsBack.2.1 2 = .ok (.iload_n 1, 1) := by decide +kernel
theorem d_X12_bringsBack_3 : decode F_X12_bringsBack.2.1 3 = .ok (.sipush 370, 3) := by decide +kernel
theorem d_X12_bringsBack_6 : decode F_X12_bringsBack.2.1 6 = .ok (.if_icmp .ge 21, 3) := by decide +kernel
theorem d_X12_bringsBack_9 : decode F_X12_bringsBack.2.1 9 = .ok (.aload_n 0, 1) := by decide +kernel
theorem d_X12_bringsBack_10 : decode F_X12_bringsBack.2.1 10 = .ok (.getfield 13, 3) := by decide +kernel
theorem d_X12_bringsBack_13 : decode F_X12_bringsBack.2.1 13 = .ok (.iload_n 1, 1) := by decide +kernel
theorem d_X12_bringsBack_14 : decode F_X12_bringsBack.2.1 14 = .ok (.aload_n 0, 1) := by decide +kernel
theorem d_X12_bringsBack_15 : decode F_X12_bringsBack.2.1 15 = .ok (.getfield 23, 3) := by decide +kernel
theorem d_X12_bringsBack_18 : decode F_X12_bringsBack.2.1 18 = .ok (.iload_n 1, 1) := by decide +kernel
theorem d_X12_bringsBack_19 : decode F_X12_bringsBack.2.1 19 = .ok (.iaload, 1) := by decide +kernel
theorem d_X12_bringsBack_20 : decode F_X12_bringsBack.2.1 20 = .ok (.iastore, 1) := by decide +kernel
theorem d_X12_bringsBack_21 : decode F_X12_bringsBack.2.1 21 = .ok (.iinc 1 1, 3) := by decide +kernel
theorem d_X12_bringsBack_24 : decode F_X12_bringsBack.2.1 24 = .ok (.goto (-22), 3) := by decide +kernel
theorem d_X12_bringsBack_27 : decode F_X12_bringsBack.2.1 27 = .ok (.return_, 1) := by decide +kernel
def f_X12_bringsBack_b2 (μ : Mem) (l1 : Int32) : Option ((Int32 × Mem) ⊕ Mem) :=
if 370 ≤ l1 then
some (.inr μ)
else
Option.bind (rd μ 268 370 l1) fun t1 =>
Option.bind (wr μ 265 2068 l1 t1) fun μ2 =>
some (.inl ((l1 + 1), μ2))
def f_X12_bringsBack_j27 (μ : Mem) : Option Mem :=
some μ
def f_X12_bringsBack_l2 (μ : Mem) (l1 : Int32) : Option Mem := Option.bind (loopN 10000 (fun z : (Int32 × Mem) => f_X12_bringsBack_b2 z.2 z.1) (l1, μ)) fun t : Mem => f_X12_bringsBack_j27 t
def f_X12_bringsBack (μ : Mem) : Option Mem :=
f_X12_bringsBack_l2 μ 0
theorem s_X12_bringsBack_b2 {G : Gl} (hG : G.1.stackTraces = false) {C : Cx} {n : Nat} {μ : Mem} {l1 : Int32} {y : ((Int32 × Mem) ⊕ Mem)} (hf : f_X12_bringsBack_b2 μ l1 = some y) (hK : (∀ z', y = .inl z' → ∀ n, V G C F_X12_bringsBack 2 [some (.ref (G.2.1 + 264)), some (.int z'.1)] [] (pic G z'.2) n 0 0) ∧ (∀ x', y = .inr x' → ∀ n, V G C F_X12_bringsBack 27 [none, none] [] (pic G x') n 0 0)) : V G C F_X12_bringsBack 2 [some (.ref (G.2.1 + 264)), some (.int l1)] [] (pic G μ) n 0 0 := by
  unfold f_X12_bringsBack_b2 at hf
  refine V_iload_n d_X12_bringsBack_2 rfl rfl ?_
  refine V_sipush (v := 370) d_X12_bringsBack_3 sp_370 ?_
  refine V_icmp_ge (tgt := 27) d_X12_bringsBack_6 (by decide) (fun c6 => ?_) (fun c6 => ?_)
  · replace hf := iteT c6 hf
    refine V_less (ls' := [none, none]) trivial ?_
    cases hf
    exact hK.2 _ rfl _
  · replace hf := iteF c6 hf
    refine V_aload_n d_X12_bringsBack_9 rfl rfl ?_
    refine B_get k_264 fl_RX12_13 d_X12_bringsBack_10 g_12_1 ?_
    refine V_iload_n d_X12_bringsBack_13 rfl rfl ?_
    refine V_aload_n d_X12_bringsBack_14 rfl rfl ?_
    refine B_get k_264 fl_RX12_23 d_X12_bringsBack_15 g_12_4 ?_
    refine V_iload_n d_X12_bringsBack_18 rfl rfl ?_
    obtain ⟨t1, ht1, hf⟩ := ob hf
    refine B_iald k_268 ht1 d_X12_bringsBack_19 ?_
    obtain ⟨μ2, hμ2, hf⟩ := ob hf
    refine B_iast k_265 hμ2 d_X12_bringsBack_20 ?_
    refine V_iinc (v := (l1 + 1)) (ls' := [_, _]) d_X12_bringsBack_21 rfl (by rw [ic_1]) rfl ?_
    refine V_goto (tgt := 2) d_X12_bringsBack_24 (by decide) ?_
    refine V_less (ls' := [some _, some _]) ⟨rfl, rfl, trivial⟩ ?_
    cases hf
    exact hK.1 _ rfl _
theorem s_X12_bringsBack_j27 {G : Gl} (hG : G.1.stackTraces = false) {C : Cx} {n : Nat} {μ : Mem}  {r : Mem} (hf : f_X12_bringsBack_j27 μ = some r) (hK : FinR G C F_X12_bringsBack none none r) : V G C F_X12_bringsBack 27 [none, none] [] (pic G μ) n 0 0 := by
  unfold f_X12_bringsBack_j27 at hf
  cases hf
  exact R_v hK d_X12_bringsBack_27 (Nat.le_of_ble_eq_true rfl) (Nat.le_of_ble_eq_true rfl)
theorem s_X12_bringsBack_l2 {G : Gl} (hG : G.1.stackTraces = false) {C : Cx} {n : Nat} {μ : Mem} {l1 : Int32} {r : Mem} (hf : f_X12_bringsBack_l2 μ l1 = some r) (hK : FinR G C F_X12_bringsBack none none r) : V G C F_X12_bringsBack 2 [some (.ref (G.2.1 + 264)), some (.int l1)] [] (pic G μ) n 0 0 := by
  unfold f_X12_bringsBack_l2 at hf
  obtain ⟨t, hl, hf⟩ := ob hf
  refine loopV (P := fun z => ∀ n, V G C F_X12_bringsBack 2 [some (.ref (G.2.1 + 264)), some (.int z.1)] [] (pic G z.2) n 0 0) (t := t) ?_ _ _ hl n
  intro z y' hy hI hT n
  refine s_X12_bringsBack_b2 hG hy ⟨hI, fun x9 ex => ?_⟩
  have ex2 := hT x9 ex
  subst ex2
  intro n
  exact s_X12_bringsBack_j27 hG hf hK
theorem s_X12_bringsBack_e {G : Gl} (hG : G.1.stackTraces = false) {C : Cx} {n : Nat} {μ : Mem}  {r : Mem} (hf : f_X12_bringsBack μ = some r) (hK : FinR G C F_X12_bringsBack none none r) : V G C F_X12_bringsBack 0 [some (.ref (G.2.1 + 264)), none] [] (pic G μ) n 0 0 := by
  unfold f_X12_bringsBack at hf
  refine V_iconst (v := 0) d_X12_bringsBack_0 ic_0 ?_
  refine V_istore_n (ls' := [_, _]) d_X12_bringsBack_1 rfl rfl rfl ?_
  refine V_less (ls' := [some _, some _]) ⟨rfl, rfl, trivial⟩ ?_
  exact s_X12_bringsBack_l2 hG hf hK
theorem s_X12_bringsBack {G : Gl} (hG : G.1.stackTraces = false) {μ : Mem} {r : Mem} (hf : f_X12_bringsBack μ = some r) : Rt G yX12_bringsBack F_X12_bringsBack none [.ref (G.2.1 + 264)] μ none r := fun n => Sd.of hG ⟨by decide +kernel, rfl, rfl⟩ rfl (Nat.le_of_ble_eq_true rfl) rfl (fun C hK => s_X12_bringsBack_e hG hf hK)
theorem d_X12_leastOf_0 : decode F_X12_leastOf.2.1 0 = .ok (.aload_n 0, 1) := by decide +kernel
theorem d_X12_leastOf_1 : decode F_X12_leastOf.2.1 1 = .ok (.getfield 45, 3) := by decide +kernel
theorem d_X12_leastOf_4 : decode F_X12_leastOf.2.1 4 = .ok (.iload_n 1, 1) := by decide +kernel
theorem d_X12_leastOf_5 : decode F_X12_leastOf.2.1 5 = .ok (.bipush 6, 2) := by decide +kernel
theorem d_X12_leastOf_7 : decode F_X12_leastOf.2.1 7 = .ok (.ishl, 1) := by decide +kernel
theorem d_X12_leastOf_8 : decode F_X12_leastOf.2.1 8 = .ok (.iload_n 2, 1) := by decide +kernel
theorem d_X12_leastOf_9 : decode F_X12_leastOf.2.1 9 = .ok (.iadd, 1) := by decide +kernel
theorem d_X12_leastOf_10 : decode F_X12_leastOf.2.1 10 = .ok (.iaload, 1) := by decide +kernel
theorem d_X12_leastOf_11 : decode F_X12_leastOf.2.1 11 = .ok (.ireturn, 1) := by decide +kernel
def f_X12_leastOf (μ : Mem) (p1 : Int32) (p2 : Int32) : Option Int32 :=
Option.bind (rd μ 274 448 ((p1 <<< (6 &&& 31)) + p2)) fun t1 =>
some t1
theorem s_X12_leastOf_e {G : Gl} (hG : G.1.stackTraces = false) {C : Cx} {n : Nat} {μ : Mem} {p1 : Int32} {p2 : Int32} {r : Int32} (hf : f_X12_leastOf μ p1 p2 = some r) (hK : FinR G C F_X12_leastOf (some .int) (some (.int r)) μ) : V G C F_X12_leastOf 0 [some (.ref (G.2.1 + 264)), some (.int p1), some (.int p2)] [] (pic G μ) n 0 0 := by
  unfold f_X12_leastOf at hf
  refine V_aload_n d_X12_leastOf_0 rfl rfl ?_
  refine B_get k_264 fl_RX12_45 d_X12_leastOf_1 g_12_19 ?_
  refine V_iload_n d_X12_leastOf_4 rfl rfl ?_
  refine V_bipush (v := 6) d_X12_leastOf_5 bp_6 ?_
  refine V_ishl d_X12_leastOf_7 ?_
  refine V_iload_n d_X12_leastOf_8 rfl rfl ?_
  refine V_iadd d_X12_leastOf_9 ?_
  obtain ⟨t1, ht1, hf⟩ := ob hf
  refine B_iald k_274 ht1 d_X12_leastOf_10 ?_
  cases hf
  exact R_i hK d_X12_leastOf_11 (Nat.le_of_ble_eq_true rfl) (Nat.le_of_ble_eq_true rfl)
theorem s_X12_leastOf {G : Gl} (hG : G.1.stackTraces = false) {μ : Mem} {p1 : Int32} {p2 : Int32} {r : Int32} (hf : f_X12_leastOf μ p1 p2 = some r) : Rt G yX12_leastOf F_X12_leastOf (some .int) [.ref (G.2.1 + 264), .int p1, .int p2] μ (some (.int r)) μ := fun n => Sd.of hG ⟨by decide +kernel, rfl, rfl⟩ rfl (Nat.le_of_ble_eq_true rfl) rfl (fun C hK => s_X12_leastOf_e hG hf hK)
theorem d_X12_leastBy_0 : decode F_X12_leastBy.2.1 0 = .ok (.ldc_w 373, 3) := by decide +kernel
theorem d_X12_leastBy_3 : decode F_X12_leastBy.2.1 3 = .ok (.aload_n 0, 1) := by decide +kernel
theorem d_X12_leastBy_4 : decode F_X12_leastBy.2.1 4 = .ok (.getfield 42, 3) := by decide +kernel
theorem d_X12_leastBy_7 : decode F_X12_leastBy.2.1 7 = .ok (.bipush 6, 2) := by decide +kernel
theorem d_X12_leastBy_9 : decode F_X12_leastBy.2.1 9 = .ok (.iload_n 1, 1) := by decide +kernel
theorem d_X12_leastBy_10 : decode F_X12_leastBy.2.1 10 = .ok (.imul, 1) := by decide +kernel
theorem d_X12_leastBy_11 : decode F_X12_leastBy.2.1 11 = .ok (.iload_n 3, 1) := by decide +kernel
theorem d_X12_leastBy_12 : decode F_X12_leastBy.2.1 12 = .ok (.iadd, 1) := by decide +kernel
theorem d_X12_leastBy_13 : decode F_X12_leastBy.2.1 13 = .ok (.iaload, 1) := by decide +kernel
theorem d_X12_leastBy_14 : decode F_X12_leastBy.2.1 14 = .ok (.aload_n 0, 1) := by decide +kernel
theorem d_X12_leastBy_15 : decode F_X12_leastBy.2.1 15 = .ok (.iload_n 1, 1) := by decide +kernel
theorem d_X12_leastBy_16 : decode F_X12_leastBy.2.1 16 = .ok (.iconst 1, 1) := by decide +kernel
theorem d_X12_leastBy_17 : decode F_X12_leastBy.2.1 17 = .ok (.iadd, 1) := by decide +kernel
theorem d_X12_leastBy_18 : decode F_X12_leastBy.2.1 18 = .ok (.iload_n 2, 1) := by decide +kernel
theorem d_X12_leastBy_19 : decode F_X12_leastBy.2.1 19 = .ok (.iconst 1, 1) := by decide +kernel
theorem d_X12_leastBy_20 : decode F_X12_leastBy.2.1 20 = .ok (.iload_n 3, 1) := by decide +kernel
theorem d_X12_leastBy_21 : decode F_X12_leastBy.2.1 21 = .ok (.ishl, 1) := by decide +kernel
theorem d_X12_leastBy_22 : decode F_X12_leastBy.2.1 22 = .ok (.ior, 1) := by decide +kernel
theorem d_X12_leastBy_23 : decode F_X12_leastBy.2.1 23 = .ok (.invokevirtual 377, 3) := by decide +kernel
theorem d_X12_leastBy_26 : decode F_X12_leastBy.2.1 26 = .ok (.iadd, 1) := by decide +kernel
theorem d_X12_leastBy_27 : decode F_X12_leastBy.2.1 27 = .ok (.invokestatic 87, 3) := by decide +kernel
theorem d_X12_leastBy_30 : decode F_X12_leastBy.2.1 30 = .ok (.ireturn, 1) := by decide +kernel
def f_X12_leastBy (μ : Mem) (p1 : Int32) (p2 : Int32) (p3 : Int32) : Option Int32 :=
Option.bind (rd μ 273 36 ((6 * p1) + p3)) fun t1 =>
Option.bind (f_X12_leastOf μ (p1 + 1) (p2 ||| (1 <<< (p3 &&& 31)))) fun t2 =>
Option.bind (f_J9_min_7cf53 μ 1000000 (t1 + t2)) fun t3 =>
some t3
theorem s_X12_leastBy_e {G : Gl} (hG : G.1.stackTraces = false) {C : Cx} {n : Nat} {μ : Mem} {p1 : Int32} {p2 : Int32} {p3 : Int32} {r : Int32} (hf : f_X12_leastBy μ p1 p2 p3 = some r) (hK : FinR G C F_X12_leastBy (some .int) (some (.int r)) μ) : V G C F_X12_leastBy 0 [some (.ref (G.2.1 + 264)), some (.int p1), some (.int p2), some (.int p3)] [] (pic G μ) n 0 0 := by
  unfold f_X12_leastBy at hf
  refine V_ldcw (v := 1000000) d_X12_leastBy_0 w_1900 ?_
  refine V_aload_n d_X12_leastBy_3 rfl rfl ?_
  refine B_get k_264 fl_RX12_42 d_X12_leastBy_4 g_12_18 ?_
  refine V_bipush (v := 6) d_X12_leastBy_7 bp_6 ?_
  refine V_iload_n d_X12_leastBy_9 rfl rfl ?_
  refine V_imul d_X12_leastBy_10 ?_
  refine V_iload_n d_X12_leastBy_11 rfl rfl ?_
  refine V_iadd d_X12_leastBy_12 ?_
  obtain ⟨t1, ht1, hf⟩ := ob hf
  refine B_iald k_273 ht1 d_X12_leastBy_13 ?_
  refine V_aload_n d_X12_leastBy_14 rfl rfl ?_
  refine V_iload_n d_X12_leastBy_15 rfl rfl ?_
  refine V_iconst (v := 1) d_X12_leastBy_16 ic_1 ?_
  refine V_iadd d_X12_leastBy_17 ?_
  refine V_iload_n d_X12_leastBy_18 rfl rfl ?_
  refine V_iconst (v := 1) d_X12_leastBy_19 ic_1 ?_
  refine V_iload_n d_X12_leastBy_20 rfl rfl ?_
  refine V_ishl d_X12_leastBy_21 ?_
  refine V_ior d_X12_leastBy_22 ?_
  obtain ⟨t2, ht2, hf⟩ := ob hf
  refine B_callV1 (s_X12_leastOf hG ht2) k_264 clX12 m_X12_leastOf kv_RX12_377 d_X12_leastBy_23 rfl (Nat.le_of_ble_eq_true rfl) ⟨rfl, rfl, Nat.le_of_ble_eq_true rfl, Nat.le_of_ble_eq_true rfl, Nat.le_of_ble_eq_true rfl⟩ (fun n => ?_)
  refine V_iadd d_X12_leastBy_26 ?_
  obtain ⟨t3, ht3, hf⟩ := ob hf
  refine B_callS1 (s_J9_min_7cf53 hG ht3) m_J9_min_7cf53 ks_RX12_87 d_X12_leastBy_27 rfl (Nat.le_of_ble_eq_true rfl) ⟨rfl, rfl, Nat.le_of_ble_eq_true rfl, Nat.le_of_ble_eq_true rfl, Nat.le_of_ble_eq_true rfl⟩ (fun n => ?_)
  cases hf
  exact R_i hK d_X12_leastBy_30 (Nat.le_of_ble_eq_true rfl) (Nat.le_of_ble_eq_true rfl)
theorem s_X12_leastBy {G : Gl} (hG : G.1.stackTraces = false) {μ : Mem} {p1 : Int32} {p2 : Int32} {p3 : Int32} {r : Int32} (hf : f_X12_leastBy μ p1 p2 p3 = some r) : Rt G yX12_leastBy F_X12_leastBy (some .int) [.ref (G.2.1 + 264), .int p1, .int p2, .int p3] μ (some (.int r)) μ := fun n => Sd.of hG ⟨by decide +kernel, rfl, rfl⟩ rfl (Nat.le_of_ble_eq_true rfl) rfl (fun C hK => s_X12_leastBy_e hG hf hK)
theorem d_X12_solvent_0 : decode F_X12_solvent.2.1 0 = .ok (.aload_n 0, 1) := by decide +kernel
theorem d_X12_solvent_1 : decode F_X12_solvent.2.1 1 = .ok (.iconst 0, 1) := by decide +kernel
theorem d_X12_solvent_2 : decode F_X12_solvent.2.1 2 = .ok (.putfield 3, 3) := by decide +kernel
theorem d_X12_solvent_5 : decode F_X12_solvent.2.1 5 = .ok (.iconst 0, 1) := by decide +kernel
theorem d_X12_solvent_6 : decode F_X12_solvent.2.1 6 = .ok (.istore_n 1, 1) := by decide +kernel
theorem d_X12_solvent_7 : decode F_X12_solvent.2.1 7 = .ok (.iconst 0, 1) := by decide +kernel
theorem d_X12_solvent_8 : decode F_X12_solvent.2.1 8 = .ok (.istore_n 2, 1) := by decide +kernel
theorem d_X12_solvent_9 : decode F_X12_solvent.2.1 9 = .ok (.iload_n 2, 1) := by decide +kernel
theorem d_X12_solvent_10 : decode F_X12_solvent.2.1 10 = .ok (.aload_n 0, 1) := by decide +kernel
theorem d_X12_solvent_11 : decode F_X12_solvent.2.1 11 = .ok (.invokevirtual 59, 3) := by decide +kernel
theorem d_X12_solvent_14 : decode F_X12_solvent.2.1 14 = .ok (.if_icmp .ge 33, 3) := by decide +kernel
theorem d_X12_solvent_17 : decode F_X12_solvent.2.1 17 = .ok (.iload_n 1, 1) := by decide +kernel
theorem d_X12_solvent_18 : decode F_X12_solvent.2.1 18 = .ok (.aload_n 0, 1) := by decide +kernel
theorem d_X12_solvent_19 : decode F_X12_solvent.2.1 19 = .ok (.iload_n 2, 1) := by decide +kernel
theorem d_X12_solvent_20 : decode F_X12_solvent.2.1 20 = .ok (.iconst 0, 1) := by decide +kernel
theorem d_X12_solvent_21 : decode F_X12_solvent.2.1 21 = .ok (.invokevirtual 84, 3) := by decide +kernel
theorem d_X12_solvent_24 : decode F_X12_solvent.2.1 24 = .ok (.aload_n 0, 1) := by decide +kernel
theorem d_X12_solvent_25 : decode F_X12_solvent.2.1 25 = .ok (.iload_n 2, 1) := by decide +kernel
theorem d_X12_solvent_26 : decode F_X12_solvent.2.1 26 = .ok (.invokevirtual 308, 3) := by decide +kernel
theorem d_X12_solvent_29 : decode F_X12_solvent.2.1 29 = .ok (.if_icmp .lt 9, 3) := by decide +kernel
theorem d_X12_solvent_32 : decode F_X12_solvent.2.1 32 = .ok (.iconst 1, 1) := by decide +kernel
theorem d_X12_solvent_33 : decode F_X12_solvent.2.1 33 = .ok (.iload_n 2, 1) := by decide +kernel
theorem d_X12_solvent_34 : decode F_X12_solvent.2.1 34 = .ok (.ishl, 1) := by decide +kernel
theorem d_X12_solvent_35 : decode F_X12_solvent.2.1 35 = .ok (.goto 4, 3) := by decide +kernel
theorem d_X12_solvent_38 : decode F_X12_solvent.2.1 38 = .ok (.iconst 0, 1) := by decide +kernel
theorem d_X12_solvent_39 : decode F_X12_solvent.2.1 39 = .ok (.ior, 1) := by decide +kernel
theorem d_X12_solvent_40 : decode F_X12_solvent.2.1 40 = .ok (.istore_n 1, 1) := by decide +kernel
theorem d_X12_solvent_41 : decode F_X12_solvent.2.1 41 = .ok (.iinc 2 1, 3) := by decide +kernel
theorem d_X12_solvent_44 : decode F_X12_solvent.2.1 44 = .ok (.goto (-35), 3) := by decide +kernel
theorem d_X12_solvent_47 : decode F_X12_solvent.2.1 47 = .ok (.iload_n 1, 1) := by decide +kernel
theorem d_X12_solvent_48 : decode F_X12_solvent.2.1 48 = .ok (.ireturn, 1) := by decide +kernel
def f_X12_solvent_b9 (μ : Mem) (l1 : Int32) (l2 : Int32) : Option ((Int32 × Int32) ⊕ Int32) :=
Option.bind (f_X12_people μ) fun t1 =>
if t1 ≤ l2 then
some (.inr l1)
else
Option.bind (f_X12_of μ l2 0) fun t2 =>
Option.bind (f_X12_owesOf μ l2) fun t3 =>
some (.inl ((l1 ||| (if t2 < t3 then 0 else (1 <<< (l2 &&& 31)))), (l2 + 1)))
def f_X12_solvent_j47 (μ : Mem) (l1 : Int32) : Option (Int32 × Mem) :=
some (l1, μ)
def f_X12_solvent_l9 (μ : Mem) (l1 : Int32) (l2 : Int32) : Option (Int32 × Mem) := Option.bind (loopN 10000 (fun z : (Int32 × Int32) => f_X12_solvent_b9 μ z.1 z.2) (l1, l2)) fun t : Int32 => f_X12_solvent_j47 μ t
def f_X12_solvent (μ : Mem) : Option (Int32 × Mem) :=
f_X12_solvent_l9 (mset μ 264 0 0) 0 0
theorem s_X12_solvent_b9 {G : Gl} (hG : G.1.stackTraces = false) {C : Cx} {n : Nat} {μ : Mem} {l1 : Int32} {l2 : Int32} {y : ((Int32 × Int32) ⊕ Int32)} (hf : f_X12_solvent_b9 μ l1 l2 = some y) (hK : (∀ z', y = .inl z' → ∀ n, V G C F_X12_solvent 9 [some (.ref (G.2.1 + 264)), some (.int z'.1), some (.int z'.2)] [] (pic G μ) n 0 0) ∧ (∀ x', y = .inr x' → ∀ n, V G C F_X12_solvent 47 [none, some (.int x'), none] [] (pic G μ) n 0 0)) : V G C F_X12_solvent 9 [some (.ref (G.2.1 + 264)), some (.int l1), some (.int l2)] [] (pic G μ) n 0 0 := by
  unfold f_X12_solvent_b9 at hf
  refine V_iload_n d_X12_solvent_9 rfl rfl ?_
  refine V_aload_n d_X12_solvent_10 rfl rfl ?_
  obtain ⟨t1, ht1, hf⟩ := ob hf
  refine B_callV1 (s_X12_people hG ht1) k_264 clX12 m_X12_people kv_RX12_59 d_X12_solvent_11 rfl (Nat.le_of_ble_eq_true rfl) ⟨rfl, rfl, Nat.le_of_ble_eq_true rfl, Nat.le_of_ble_eq_true rfl, Nat.le_of_ble_eq_true rfl⟩ (fun n => ?_)
  refine V_icmp_ge (tgt := 47) d_X12_solvent_14 (by decide) (fun c14 => ?_) (fun c14 => ?_)
  · replace hf := iteT c14 hf
    refine V_less (ls' := [none, some _, none]) ⟨rfl, trivial⟩ ?_
    cases hf
    exact hK.2 _ rfl _
  · replace hf := iteF c14 hf
    refine V_iload_n d_X12_solvent_17 rfl rfl ?_
    refine V_aload_n d_X12_solvent_18 rfl rfl ?_
    refine V_iload_n d_X12_solvent_19 rfl rfl ?_
    refine V_iconst (v := 0) d_X12_solvent_20 ic_0 ?_
    obtain ⟨t2, ht2, hf⟩ := ob hf
    refine B_callV1 (s_X12_of hG ht2) k_264 clX12 m_X12_of kv_RX12_84 d_X12_solvent_21 rfl (Nat.le_of_ble_eq_true rfl) ⟨rfl, rfl, Nat.le_of_ble_eq_true rfl, Nat.le_of_ble_eq_true rfl, Nat.le_of_ble_eq_true rfl⟩ (fun n => ?_)
    refine V_aload_n d_X12_solvent_24 rfl rfl ?_
    refine V_iload_n d_X12_solvent_25 rfl rfl ?_
    obtain ⟨t3, ht3, hf⟩ := ob hf
    refine B_callV1 (s_X12_owesOf hG ht3) k_264 clX12 m_X12_owesOf kv_RX12_308 d_X12_solvent_26 rfl (Nat.le_of_ble_eq_true rfl) ⟨rfl, rfl, Nat.le_of_ble_eq_true rfl, Nat.le_of_ble_eq_true rfl, Nat.le_of_ble_eq_true rfl⟩ (fun n => ?_)
    have hJj4 : ∀ j4 : Int32, j4 = (if t2 < t3 then 0 else (1 <<< (l2 &&& 31))) → V G C F_X12_solvent 39 [some (.ref (G.2.1 + 264)), none, some (.int l2)] [.int j4, .int l1] (pic G μ) n 0 0 := by
      intro j4 ej4
      subst ej4
      refine V_ior d_X12_solvent_39 ?_
      refine V_istore_n (ls' := [_, _, _]) d_X12_solvent_40 rfl rfl rfl ?_
      refine V_iinc (v := (l2 + 1)) (ls' := [_, _, _]) d_X12_solvent_41 rfl (by rw [ic_1]) rfl ?_
      refine V_goto (tgt := 9) d_X12_solvent_44 (by decide) ?_
      refine V_less (ls' := [some _, some _, some _]) ⟨rfl, rfl, rfl, trivial⟩ ?_
      cases hf
      exact hK.1 _ rfl _
    refine V_icmp_lt (tgt := 38) d_X12_solvent_29 (by decide) (fun c29 => ?_) (fun c29 => ?_)
    · refine V_iconst (v := 0) d_X12_solvent_38 ic_0 ?_
      refine V_less (ls' := [some _, none, some _]) ⟨rfl, rfl, trivial⟩ ?_
      exact hJj4 0 (by rw [if_pos c29])
    · refine V_iconst (v := 1) d_X12_solvent_32 ic_1 ?_
      refine V_iload_n d_X12_solvent_33 rfl rfl ?_
      refine V_ishl d_X12_solvent_34 ?_
      refine V_goto (tgt := 39) d_X12_solvent_35 (by decide) ?_
      refine V_less (ls' := [some _, none, some _]) ⟨rfl, rfl, trivial⟩ ?_
      exact hJj4 (1 <<< (l2 &&& 31)) (by rw [if_neg c29])
theorem s_X12_solvent_j47 {G : Gl} (hG : G.1.stackTraces = false) {C : Cx} {n : Nat} {μ : Mem} {l1 : Int32} {r : (Int32 × Mem)} (hf : f_X12_solvent_j47 μ l1 = some r) (hK : FinR G C F_X12_solvent (some .int) (some (.int r.1)) r.2) : V G C F_X12_solvent 47 [none, some (.int l1), none] [] (pic G μ) n 0 0 := by
  unfold f_X12_solvent_j47 at hf
  refine V_iload_n d_X12_solvent_47 rfl rfl ?_
  cases hf
  exact R_i hK d_X12_solvent_48 (Nat.le_of_ble_eq_true rfl) (Nat.le_of_ble_eq_true rfl)
theorem s_X12_solvent_l9 {G : Gl} (hG : G.1.stackTraces = false) {C : Cx} {n : Nat} {μ : Mem} {l1 : Int32} {l2 : Int32} {r : (Int32 × Mem)} (hf : f_X12_solvent_l9 μ l1 l2 = some r) (hK : FinR G C F_X12_solvent (some .int) (some (.int r.1)) r.2) : V G C F_X12_solvent 9 [some (.ref (G.2.1 + 264)), some (.int l1), some (.int l2)] [] (pic G μ) n 0 0 := by
  unfold f_X12_solvent_l9 at hf
  obtain ⟨t, hl, hf⟩ := ob hf
  refine loopV (P := fun z => ∀ n, V G C F_X12_solvent 9 [some (.ref (G.2.1 + 264)), some (.int z.1), some (.int z.2)] [] (pic G μ) n 0 0) (t := t) ?_ _ _ hl n
  intro z y' hy hI hT n
  refine s_X12_solvent_b9 hG hy ⟨hI, fun x9 ex => ?_⟩
  have ex2 := hT x9 ex
  subst ex2
  intro n
  exact s_X12_solvent_j47 hG hf hK
theorem s_X12_solvent_e {G : Gl} (hG : G.1.stackTraces = false) {C : Cx} {n : Nat} {μ : Mem}  {r : (Int32 × Mem)} (hf : f_X12_solvent μ = some r) (hK : FinR G C F_X12_solvent (some .int) (some (.int r.1)) r.2) : V G C F_X12_solvent 0 [some (.ref (G.2.1 + 264)), none, none] [] (pic G μ) n 0 0 := by
  unfold f_X12_solvent at hf
  refine V_aload_n d_X12_solvent_0 rfl rfl ?_
  refine V_iconst (v := 0) d_X12_solvent_1 ic_0 ?_
  refine B_putI k_264 fl_RX12_3 pt_12_0 (Nat.le_of_ble_eq_true rfl) p_12_0 d_X12_solvent_2 ?_
  refine V_iconst (v := 0) d_X12_solvent_5 ic_0 ?_
  refine V_istore_n (ls' := [_, _, _]) d_X12_solvent_6 rfl rfl rfl ?_
  refine V_iconst (v := 0) d_X12_solvent_7 ic_0 ?_
  refine V_istore_n (ls' := [_, _, _]) d_X12_solvent_8 rfl rfl rfl ?_
  refine V_less (ls' := [some _, some _, some _]) ⟨rfl, rfl, rfl, trivial⟩ ?_
  exact s_X12_solvent_l9 hG hf hK
theorem s_X12_solvent {G : Gl} (hG : G.1.stackTraces = false) {μ : Mem} {r : (Int32 × Mem)} (hf : f_X12_solvent μ = some r) : Rt G yX12_solvent F_X12_solvent (some .int) [.ref (G.2.1 + 264)] μ (some (.int r.1)) r.2 := fun n => Sd.of hG ⟨by decide +kernel, rfl, rfl⟩ rfl (Nat.le_of_ble_eq_true rfl) rfl (fun C hK => s_X12_solvent_e hG hf hK)
theorem d_X12_isRing_0 : decode F_X12_isRing.2.1 0 = .ok (.iconst 1, 1) := by decide +kernel
theorem d_X12_isRing_1 : decode F_X12_isRing.2.1 1 = .ok (.istore_n 2, 1) := by decide +kernel
theorem d_X12_isRing_2 : decode F_X12_isRing.2.1 2 = .ok (.iconst 0, 1) := by decide +kernel
theorem d_X12_isRing_3 : decode F_X12_isRing.2.1 3 = .ok (.istore_n 3, 1) := by decide +kernel
theorem d_X12_isRing_4 : decode F_X12_isRing.2.1 4 = .ok (.iload_n 3, 1) := by decide +kernel
theorem d_X12_isRing_5 : decode F_X12_isRing.2.1 5 = .ok (.aload_n 0, 1) := by decide +kernel
theorem d_X12_isRing_6 : decode F_X12_isRing.2.1 6 = .ok (.invokevirtual 59, 3) := by decide +kernel
theorem d_X12_isRing_9 : decode F_X12_isRing.2.1 9 = .ok (.if_icmp .ge 98, 3) := by decide +kernel
theorem d_X12_isRing_12 : decode F_X12_isRing.2.1 12 = .ok (.iconst 0, 1) := by decide +kernel
theorem d_X12_isRing_13 : decode F_X12_isRing.2.1 13 = .ok (.istore 4, 2) := by decide +kernel
theorem d_X12_isRing_15 : decode F_X12_isRing.2.1 15 = .ok (.iconst 0, 1) := by decide +kernel
theorem d_X12_isRing_16 : decode F_X12_isRing.2.1 16 = .ok (.istore 5, 2) := by decide +kernel
theorem d_X12_isRing_18 : decode F_X12_isRing.2.1 18 = .ok (.iload 5, 2) := by decide +kernel
theorem d_X12_isRing_20 : decode F_X12_isRing.2.1 20 = .ok (.aload_n 0, 1) := by decide +kernel
theorem d_X12_isRing_21 : decode F_X12_isRing.2.1 21 = .ok (.invokevirtual 77, 3) := by decide +kernel
theorem d_X12_isRing_24 : decode F_X12_isRing.2.1 24 = .ok (.if_icmp .ge 62, 3) := by decide +kernel
theorem d_X12_isRing_27 : decode F_X12_isRing.2.1 27 = .ok (.iload_n 1, 1) := by decide +kernel
theorem d_X12_isRing_28 : decode F_X12_isRing.2.1 28 = .ok (.iload 5, 2) := by decide +kernel
theorem d_X12_isRing_30 : decode F_X12_isRing.2.1 30 = .ok (.invokestatic 380, 3) := by decide +kernel
theorem d_X12_isRing_33 : decode F_X12_isRing.2.1 33 = .ok (.ifCond .eq 47, 3) := by decide +kernel
theorem d_X12_isRing_36 : decode F_X12_isRing.2.1 36 = .ok (.iload 4, 2) := by decide +kernel
theorem d_X12_isRing_38 : decode F_X12_isRing.2.1 38 = .ok (.aload_n 0, 1) := by decide +kernel
theorem d_X12_isRing_39 : decode F_X12_isRing.2.1 39 = .ok (.iload 5, 2) := by decide +kernel
theorem d_X12_isRing_41 : decode F_X12_isRing.2.1 41 = .ok (.iconst 2, 1) := by decide +kernel
theorem d_X12_isRing_42 : decode F_X12_isRing.2.1 42 = .ok (.invokevirtual 70, 3) := by decide +kernel
theorem d_X12_isRing_45 : decode F_X12_isRing.2.1 45 = .ok (.iload 5, 2) := by decide +kernel
theorem d_X12_isRing_47 : decode F_X12_isRing.2.1 47 = .ok (.invokestatic 144, 3) := by decide +kernel
theorem d_X12_isRing_50 : decode F_X12_isRing.2.1 50 = .ok (.iload_n 3, 1) := by decide +kernel
theorem d_X12_isRing_51 : decode F_X12_isRing.2.1 51 = .ok (.if_icmp .ne 7, 3) := by decide +kernel
theorem d_X12_isRing_54 : decode F_X12_isRing.2.1 54 = .ok (.iconst 1, 1) := by decide +kernel
theorem d_X12_isRing_55 : decode F_X12_isRing.2.1 55 = .ok (.goto 4, 3) := by decide +kernel
theorem d_X12_isRing_58 : decode F_X12_isRing.2.1 58 = .ok (.iconst 0, 1) := by decide +kernel
theorem d_X12_isRing_59 : decode F_X12_isRing.2.1 59 = .ok (.aload_n 0, 1) := by decide +kernel
theorem d_X12_isRing_60 : decode F_X12_isRing.2.1 60 = .ok (.iload 5, 2) := by decide +kernel
theorem d_X12_isRing_62 : decode F_X12_isRing.2.1 62 = .ok (.iconst 1, 1) := by decide +kernel
theorem d_X12_isRing_63 : decode F_X12_isRing.2.1 63 = .ok (.invokevirtual 70, 3) := by decide +kernel
theorem d_X12_isRing_66 : decode F_X12_isRing.2.1 66 = .ok (.iload_n 3, 1) := by decide +kernel
theorem d_X12_isRing_67 : decode F_X12_isRing.2.1 67 = .ok (.if_icmp .ne 7, 3) := by decide +kernel
theorem d_X12_isRing_70 : decode F_X12_isRing.2.1 70 = .ok (.iconst 1, 1) := by decide +kernel
theorem d_X12_isRing_71 : decode F_X12_isRing.2.1 71 = .ok (.goto 4, 3) := by decide +kernel
theorem d_X12_isRing_74 : decode F_X12_isRing.2.1 74 = .ok (.iconst 0, 1) := by decide +kernel
theorem d_X12_isRing_75 : decode F_X12_isRing.2.1 75 = .ok (.isub, 1) := by decide +kernel
theorem d_X12_isRing_76 : decode F_X12_isRing.2.1 76 = .ok (.imul, 1) := by decide +kernel
theorem d_X12_isRing_77 : decode F_X12_isRing.2.1 77 = .ok (.iadd, 1) := by decide +kernel
theorem d_X12_isRing_78 : decode F_X12_isRing.2.1 78 = .ok (.istore 4, 2) := by decide +kernel
theorem d_X12_isRing_80 : decode F_X12_isRing.2.1 80 = .ok (.iinc 5 1, 3) := by decide +kernel
theorem d_X12_isRing_83 : decode F_X12_isRing.2.1 83 = .ok (.goto (-65), 3) := by decide +kernel
theorem d_X12_isRing_86 : decode F_X12_isRing.2.1 86 = .ok (.iload_n 2, 1) := by decide +kernel
theorem d_X12_isRing_87 : decode F_X12_isRing.2.1 87 = .ok (.ifCond .eq 12, 3) := by decide +kernel
theorem d_X12_isRing_90 : decode F_X12_isRing.2.1 90 = .ok (.iload 4, 2) := by decide +kernel
theorem d_X12_isRing_92 : decode F_X12_isRing.2.1 92 = .ok (.ifCond .ne 7, 3) := by decide +kernel
theorem d_X12_isRing_95 : decode F_X12_isRing.2.1 95 = .ok (.iconst 1, 1) := by decide +kernel
theorem d_X12_isRing_96 : decode F_X12_isRing.2.1 96 = .ok (.goto 4, 3) := by decide +kernel
theorem d_X12_isRing_99 : decode F_X12_isRing.2.1 99 = .ok (.iconst 0, 1) := by decide +kernel
theorem d_X12_isRing_100 : decode F_X12_isRing.2.1 100 = .ok (.istore_n 2, 1) := by decide +kernel
theorem d_X12_isRing_101 : decode F_X12_isRing.2.1 101 = .ok (.iinc 3 1, 3) := by decide +kernel
theorem d_X12_isRing_104 : decode F_X12_isRing.2.1 104 = .ok (.goto (-100), 3) := by decide +kernel
theorem d_X12_isRing_107 : decode F_X12_isRing.2.1 107 = .ok (.iload_n 2, 1) := by decide +kernel
theorem d_X12_isRing_108 : decode F_X12_isRing.2.1 108 = .ok (.ireturn, 1) := by decide +kernel
def f_X12_isRing_j80_18 (μ : Mem) (l1 : Int32) (l2 : Bool) (l3 : Int32) (l4 : Int32) (l5 : Int32) : Option ((Int32 × Int32) ⊕ Int32) :=
some (.inl (l4, (l5 + 1)))
def f_X12_isRing_b18 (μ : Mem) (l1 : Int32) (l2 : Bool) (l3 : Int32) (l4 : Int32) (l5 : Int32) : Option ((Int32 × Int32) ⊕ Int32) :=
Option.bind (f_X12_laces μ) fun t1 =>
if t1 ≤ l5 then
some (.inr l4)
else
Option.bind (f_X12_has μ l1 l5) fun t2 =>
if t2 = true then
Option.bind (f_X12_ofLace μ l5 2) fun t3 =>
Option.bind (f_X12_ownerOf μ l5) fun t4 =>
Option.bind (f_X12_ofLace μ l5 1) fun t6 =>
f_X12_isRing_j80_18 μ l1 l2 l3 (l4 + (t3 * ((b2i (if t4 = l3 then true else false)) - (b2i (if t6 = l3 then true else false))))) l5
else
f_X12_isRing_j80_18 μ l1 l2 l3 l4 l5
def f_X12_isRing_j86_4 (μ : Mem) (l1 : Int32) (l2 : Bool) (l3 : Int32) (l4 : Int32) : Option ((Bool × Int32) ⊕ Bool) :=
some (.inl ((if l2 = true then (if l4 = 0 then true else false) else false), (l3 + 1)))
def f_X12_isRing_l18 (μ : Mem) (l1 : Int32) (l2 : Bool) (l3 : Int32) (l4 : Int32) (l5 : Int32) : Option ((Bool × Int32) ⊕ Bool) := Option.bind (loopN 10000 (fun z : (Int32 × Int32) => f_X12_isRing_b18 μ l1 l2 l3 z.1 z.2) (l4, l5)) fun t : Int32 => f_X12_isRing_j86_4 μ l1 l2 l3 t
def f_X12_isRing_b4 (μ : Mem) (l1 : Int32) (l2 : Bool) (l3 : Int32) : Option ((Bool × Int32) ⊕ Bool) :=
Option.bind (f_X12_people μ) fun t1 =>
if t1 ≤ l3 then
some (.inr l2)
else
f_X12_isRing_l18 μ l1 l2 l3 0 0
def f_X12_isRing_j107 (μ : Mem) (l2 : Bool) : Option Bool :=
some l2
def f_X12_isRing_l4 (μ : Mem) (l1 : Int32) (l2 : Bool) (l3 : Int32) : Option Bool := Option.bind (loopN 10000 (fun z : (Bool × Int32) => f_X12_isRing_b4 μ l1 z.1 z.2) (l2, l3)) fun t : Bool => f_X12_isRing_j107 μ t
def f_X12_isRing (μ : Mem) (p1 : Int32) : Option Bool :=
f_X12_isRing_l4 μ p1 true 0
theorem s_X12_isRing_j80_18 {G : Gl} (hG : G.1.stackTraces = false) {C : Cx} {n : Nat} {μ : Mem} {l1 : Int32} {l2 : Bool} {l3 : Int32} {l4 : Int32} {l5 : Int32} {y : ((Int32 × Int32) ⊕ Int32)} (hf : f_X12_isRing_j80_18 μ l1 l2 l3 l4 l5 = some y) (hK : (∀ z', y = .inl z' → ∀ n, V G C F_X12_isRing 18 [some (.ref (G.2.1 + 264)), some (.int l1), some (.int (b2i l2)), some (.int l3), some (.int z'.1), some (.int z'.2)] [] (pic G μ) n 0 0) ∧ (∀ x', y = .inr x' → ∀ n, V G C F_X12_isRing 86 [some (.ref (G.2.1 + 264)), some (.int l1), some (.int (b2i l2)), some (.int l3), some (.int x'), none] [] (pic G μ) n 0 0)) : V G C F_X12_isRing 80 [some (.ref (G.2.1 + 264)), some (.int l1), some (.int (b2i l2)), some (.int l3), some (.int l4), some (.int l5)] [] (pic G μ) n 0 0 := by
  unfold f_X12_isRing_j80_18 at hf
  refine V_iinc (v := (l5 + 1)) (ls' := [_, _, _, _, _, _]) d_X12_isRing_80 rfl (by rw [ic_1]) rfl ?_
  refine V_goto (tgt := 18) d_X12_isRing_83 (by decide) ?_
  refine V_less (ls' := [some _, some _, some _, some _, some _, some _]) ⟨rfl, rfl, rfl, rfl, rfl, rfl, trivial⟩ ?_
  cases hf
  exact hK.1 _ rfl _
theorem s_X12_isRing_b18 {G : Gl} (hG : G.1.stackTraces = false) {C : Cx} {n : Nat} {μ : Mem} {l1 : Int32} {l2 : Bool} {l3 : Int32} {l4 : Int32} {l5 : Int32} {y : ((Int32 × Int32) ⊕ Int32)} (hf : f_X12_isRing_b18 μ l1 l2 l3 l4 l5 = some y) (hK : (∀ z', y = .inl z' → ∀ n, V G C F_X12_isRing 18 [some (.ref (G.2.1 + 264)), some (.int l1), some (.int (b2i l2)), some (.int l3), some (.int z'.1), some (.int z'.2)] [] (pic G μ) n 0 0) ∧ (∀ x', y = .inr x' → ∀ n, V G C F_X12_isRing 86 [some (.ref (G.2.1 + 264)), some (.int l1), some (.int (b2i l2)), some (.int l3), some (.int x'), none] [] (pic G μ) n 0 0)) : V G C F_X12_isRing 18 [some (.ref (G.2.1 + 264)), some (.int l1), some (.int (b2i l2)), some (.int l3), some (.int l4), some (.int l5)] [] (pic G μ) n 0 0 := by
  unfold f_X12_isRing_b18 at hf
  refine V_iload d_X12_isRing_18 rfl ?_
  refine V_aload_n d_X12_isRing_20 rfl rfl ?_
  obtain ⟨t1, ht1, hf⟩ := ob hf
  refine B_callV1 (s_X12_laces hG ht1) k_264 clX12 m_X12_laces kv_RX12_77 d_X12_isRing_21 rfl (Nat.le_of_ble_eq_true rfl) ⟨rfl, rfl, Nat.le_of_ble_eq_true rfl, Nat.le_of_ble_eq_true rfl, Nat.le_of_ble_eq_true rfl⟩ (fun n => ?_)
  refine V_icmp_ge (tgt := 86) d_X12_isRing_24 (by decide) (fun c24 => ?_) (fun c24 => ?_)
  · replace hf := iteT c24 hf
    refine V_less (ls' := [some _, some _, some _, some _, some _, none]) ⟨rfl, rfl, rfl, rfl, rfl, trivial⟩ ?_
    cases hf
    exact hK.2 _ rfl _
  · replace hf := iteF c24 hf
    refine V_iload_n d_X12_isRing_27 rfl rfl ?_
    refine V_iload d_X12_isRing_28 rfl ?_
    obtain ⟨t2, ht2, hf⟩ := ob hf
    refine B_callS1 (s_X12_has hG ht2) m_X12_has ks_RX12_380 d_X12_isRing_30 rfl (Nat.le_of_ble_eq_true rfl) ⟨rfl, rfl, Nat.le_of_ble_eq_true rfl, Nat.le_of_ble_eq_true rfl, Nat.le_of_ble_eq_true rfl⟩ (fun n => ?_)
    refine V_if_eq (tgt := 80) d_X12_isRing_33 (by decide) (fun c33 => ?_) (fun c33 => ?_)
    · replace hf := iteF (b2i_nt (b2i_eq0 c33)) hf
      refine V_less (ls' := [some _, some _, some _, some _, some _, some _]) ⟨rfl, rfl, rfl, rfl, rfl, rfl, trivial⟩ ?_
      exact s_X12_isRing_j80_18 hG hf hK
    · replace hf := iteT (b2i_ne0 c33) hf
      refine V_iload d_X12_isRing_36 rfl ?_
      refine V_aload_n d_X12_isRing_38 rfl rfl ?_
      refine V_iload d_X12_isRing_39 rfl ?_
      refine V_iconst (v := 2) d_X12_isRing_41 ic_2 ?_
      obtain ⟨t3, ht3, hf⟩ := ob hf
      refine B_callV1 (s_X12_ofLace hG ht3) k_264 clX12 m_X12_ofLace kv_RX12_70 d_X12_isRing_42 rfl (Nat.le_of_ble_eq_true rfl) ⟨rfl, rfl, Nat.le_of_ble_eq_true rfl, Nat.le_of_ble_eq_true rfl, Nat.le_of_ble_eq_true rfl⟩ (fun n => ?_)
      refine V_iload d_X12_isRing_45 rfl ?_
      obtain ⟨t4, ht4, hf⟩ := ob hf
      refine B_callS1 (s_X12_ownerOf hG ht4) m_X12_ownerOf ks_RX12_144 d_X12_isRing_47 rfl (Nat.le_of_ble_eq_true rfl) ⟨rfl, rfl, Nat.le_of_ble_eq_true rfl, Nat.le_of_ble_eq_true rfl, Nat.le_of_ble_eq_true rfl⟩ (fun n => ?_)
      refine V_iload_n d_X12_isRing_50 rfl rfl ?_
      have hJj5 : ∀ j5 : Bool, j5 = (if t4 = l3 then true else false) → V G C F_X12_isRing 59 [some (.ref (G.2.1 + 264)), some (.int l1), some (.int (b2i l2)), some (.int l3), none, some (.int l5)] [.int (b2i j5), .int t3, .int l4] (pic G μ) n 0 0 := by
        intro j5 ej5
        subst ej5
        refine V_aload_n d_X12_isRing_59 rfl rfl ?_
        refine V_iload d_X12_isRing_60 rfl ?_
        refine V_iconst (v := 1) d_X12_isRing_62 ic_1 ?_
        obtain ⟨t6, ht6, hf⟩ := ob hf
        refine B_callV1 (s_X12_ofLace hG ht6) k_264 clX12 m_X12_ofLace kv_RX12_70 d_X12_isRing_63 rfl (Nat.le_of_ble_eq_true rfl) ⟨rfl, rfl, Nat.le_of_ble_eq_true rfl, Nat.le_of_ble_eq_true rfl, Nat.le_of_ble_eq_true rfl⟩ (fun n => ?_)
        refine V_iload_n d_X12_isRing_66 rfl rfl ?_
        have hJj7 : ∀ j7 : Bool, j7 = (if t6 = l3 then true else false) → V G C F_X12_isRing 75 [some (.ref (G.2.1 + 264)), some (.int l1), some (.int (b2i l2)), some (.int l3), none, some (.int l5)] [.int (b2i j7), .int (b2i (if t4 = l3 then true else false)), .int t3, .int l4] (pic G μ) n 0 0 := by
          intro j7 ej7
          subst ej7
          refine V_isub d_X12_isRing_75 ?_
          refine V_imul d_X12_isRing_76 ?_
          refine V_iadd d_X12_isRing_77 ?_
          refine V_istore (ls' := [_, _, _, _, _, _]) d_X12_isRing_78 rfl rfl ?_
          refine V_less (ls' := [some _, some _, some _, some _, some _, some _]) ⟨rfl, rfl, rfl, rfl, rfl, rfl, trivial⟩ ?_
          exact s_X12_isRing_j80_18 hG hf hK
        refine V_icmp_ne (tgt := 74) d_X12_isRing_67 (by decide) (fun c67 => ?_) (fun c67 => ?_)
        · refine V_iconst (v := 0) d_X12_isRing_74 ic_0 ?_
          refine V_less (ls' := [some _, some _, some _, some _, none, some _]) ⟨rfl, rfl, rfl, rfl, rfl, trivial⟩ ?_
          exact hJj7 false (by rw [if_neg c67])
        · refine V_iconst (v := 1) d_X12_isRing_70 ic_1 ?_
          refine V_goto (tgt := 75) d_X12_isRing_71 (by decide) ?_
          refine V_less (ls' := [some _, some _, some _, some _, none, some _]) ⟨rfl, rfl, rfl, rfl, rfl, trivial⟩ ?_
          exact hJj7 true (by rw [if_pos c67])
      refine V_icmp_ne (tgt := 58) d_X12_isRing_51 (by decide) (fun c51 => ?_) (fun c51 => ?_)
      · refine V_iconst (v := 0) d_X12_isRing_58 ic_0 ?_
        refine V_less (ls' := [some _, some _, some _, some _, none, some _]) ⟨rfl, rfl, rfl, rfl, rfl, trivial⟩ ?_
        exact hJj5 false (by rw [if_neg c51])
      · refine V_iconst (v := 1) d_X12_isRing_54 ic_1 ?_
        refine V_goto (tgt := 59) d_X12_isRing_55 (by decide) ?_
        refine V_less (ls' := [some _, some _, some _, some _, none, some _]) ⟨rfl, rfl, rfl, rfl, rfl, trivial⟩ ?_
        exact hJj5 true (by rw [if_pos c51])
theorem s_X12_isRing_j86_4 {G : Gl} (hG : G.1.stackTraces = false) {C : Cx} {n : Nat} {μ : Mem} {l1 : Int32} {l2 : Bool} {l3 : Int32} {l4 : Int32} {y : ((Bool × Int32) ⊕ Bool)} (hf : f_X12_isRing_j86_4 μ l1 l2 l3 l4 = some y) (hK : (∀ z', y = .inl z' → ∀ n, V G C F_X12_isRing 4 [some (.ref (G.2.1 + 264)), some (.int l1), some (.int (b2i z'.1)), some (.int z'.2), none, none] [] (pic G μ) n 0 0) ∧ (∀ x', y = .inr x' → ∀ n, V G C F_X12_isRing 107 [none, none, some (.int (b2i x')), none, none, none] [] (pic G μ) n 0 0)) : V G C F_X12_isRing 86 [some (.ref (G.2.1 + 264)), some (.int l1), some (.int (b2i l2)), some (.int l3), some (.int l4), none] [] (pic G μ) n 0 0 := by
  unfold f_X12_isRing_j86_4 at hf
  refine V_iload_n d_X12_isRing_86 rfl rfl ?_
  have hJj1 : ∀ j1 : Bool, j1 = (if l2 = true then (if l4 = 0 then true else false) else false) → V G C F_X12_isRing 100 [some (.ref (G.2.1 + 264)), some (.int l1), none, some (.int l3), none, none] [.int (b2i j1)] (pic G μ) n 0 0 := by
    intro j1 ej1
    subst ej1
    refine V_istore_n (ls' := [_, _, _, _, _, _]) d_X12_isRing_100 rfl rfl rfl ?_
    refine V_iinc (v := (l3 + 1)) (ls' := [_, _, _, _, _, _]) d_X12_isRing_101 rfl (by rw [ic_1]) rfl ?_
    refine V_goto (tgt := 4) d_X12_isRing_104 (by decide) ?_
    refine V_less (ls' := [some _, some _, some _, some _, none, none]) ⟨rfl, rfl, rfl, rfl, trivial⟩ ?_
    cases hf
    exact hK.1 _ rfl _
  refine V_if_eq (tgt := 99) d_X12_isRing_87 (by decide) (fun c87 => ?_) (fun c87 => ?_)
  · refine V_iconst (v := 0) d_X12_isRing_99 ic_0 ?_
    refine V_less (ls' := [some _, some _, none, some _, none, none]) ⟨rfl, rfl, rfl, trivial⟩ ?_
    exact hJj1 false (by rw [if_neg (b2i_nt (b2i_eq0 c87))])
  · refine V_iload d_X12_isRing_90 rfl ?_
    refine V_if_ne (tgt := 99) d_X12_isRing_92 (by decide) (fun c92 => ?_) (fun c92 => ?_)
    · refine V_iconst (v := 0) d_X12_isRing_99 ic_0 ?_
      refine V_less (ls' := [some _, some _, none, some _, none, none]) ⟨rfl, rfl, rfl, trivial⟩ ?_
      exact hJj1 false (by rw [if_pos (b2i_ne0 c87), if_neg c92])
    · refine V_iconst (v := 1) d_X12_isRing_95 ic_1 ?_
      refine V_goto (tgt := 100) d_X12_isRing_96 (by decide) ?_
      refine V_less (ls' := [some _, some _, none, some _, none, none]) ⟨rfl, rfl, rfl, trivial⟩ ?_
      exact hJj1 true (by rw [if_pos (b2i_ne0 c87), if_pos c92])
theorem s_X12_isRing_l18 {G : Gl} (hG : G.1.stackTraces = false) {C : Cx} {n : Nat} {μ : Mem} {l1 : Int32} {l2 : Bool} {l3 : Int32} {l4 : Int32} {l5 : Int32} {y : ((Bool × Int32) ⊕ Bool)} (hf : f_X12_isRing_l18 μ l1 l2 l3 l4 l5 = some y) (hK : (∀ z', y = .inl z' → ∀ n, V G C F_X12_isRing 4 [some (.ref (G.2.1 + 264)), some (.int l1), some (.int (b2i z'.1)), some (.int z'.2), none, none] [] (pic G μ) n 0 0) ∧ (∀ x', y = .inr x' → ∀ n, V G C F_X12_isRing 107 [none, none, some (.int (b2i x')), none, none, none] [] (pic G μ) n 0 0)) : V G C F_X12_isRing 18 [some (.ref (G.2.1 + 264)), some (.int l1), some (.int (b2i l2)), some (.int l3), some (.int l4), some (.int l5)] [] (pic G μ) n 0 0 := by
  unfold f_X12_isRing_l18 at hf
  obtain ⟨t, hl, hf⟩ := ob hf
  refine loopV (P := fun z => ∀ n, V G C F_X12_isRing 18 [some (.ref (G.2.1 + 264)), some (.int l1), some (.int (b2i l2)), some (.int l3), some (.int z.1), some (.int z.2)] [] (pic G μ) n 0 0) (t := t) ?_ _ _ hl n
  intro z y' hy hI hT n
  refine s_X12_isRing_b18 hG hy ⟨hI, fun x9 ex => ?_⟩
  have ex2 := hT x9 ex
  subst ex2
  intro n
  exact s_X12_isRing_j86_4 hG hf hK
theorem s_X12_isRing_b4 {G : Gl} (hG : G.1.stackTraces = false) {C : Cx} {n : Nat} {μ : Mem} {l1 : Int32} {l2 : Bool} {l3 : Int32} {y : ((Bool × Int32) ⊕ Bool)} (hf : f_X12_isRing_b4 μ l1 l2 l3 = some y) (hK : (∀ z', y = .inl z' → ∀ n, V G C F_X12_isRing 4 [some (.ref (G.2.1 + 264)), some (.int l1), some (.int (b2i z'.1)), some (.int z'.2), none, none] [] (pic G μ) n 0 0) ∧ (∀ x', y = .inr x' → ∀ n, V G C F_X12_isRing 107 [none, none, some (.int (b2i x')), none, none, none] [] (pic G μ) n 0 0)) : V G C F_X12_isRing 4 [some (.ref (G.2.1 + 264)), some (.int l1), some (.int (b2i l2)), some (.int l3), none, none] [] (pic G μ) n 0 0 := by
  unfold f_X12_isRing_b4 at hf
  refine V_iload_n d_X12_isRing_4 rfl rfl ?_
  refine V_aload_n d_X12_isRing_5 rfl rfl ?_
  obtain ⟨t1, ht1, hf⟩ := ob hf
  refine B_callV1 (s_X12_people hG ht1) k_264 clX12 m_X12_people kv_RX12_59 d_X12_isRing_6 rfl (Nat.le_of_ble_eq_true rfl) ⟨rfl, rfl, Nat.le_of_ble_eq_true rfl, Nat.le_of_ble_eq_true rfl, Nat.le_of_ble_eq_true rfl⟩ (fun n => ?_)
  refine V_icmp_ge (tgt := 107) d_X12_isRing_9 (by decide) (fun c9 => ?_) (fun c9 => ?_)
  · replace hf := iteT c9 hf
    refine V_less (ls' := [none, none, some _, none, none, none]) ⟨rfl, trivial⟩ ?_
    cases hf
    exact hK.2 _ rfl _
  · replace hf := iteF c9 hf
    refine V_iconst (v := 0) d_X12_isRing_12 ic_0 ?_
    refine V_istore (ls' := [_, _, _, _, _, _]) d_X12_isRing_13 rfl rfl ?_
    refine V_iconst (v := 0) d_X12_isRing_15 ic_0 ?_
    refine V_istore (ls' := [_, _, _, _, _, _]) d_X12_isRing_16 rfl rfl ?_
    refine V_less (ls' := [some _, some _, some _, some _, some _, some _]) ⟨rfl, rfl, rfl, rfl, rfl, rfl, trivial⟩ ?_
    exact s_X12_isRing_l18 hG hf hK
theorem s_X12_isRing_j107 {G : Gl} (hG : G.1.stackTraces = false) {C : Cx} {n : Nat} {μ : Mem} {l2 : Bool} {r : Bool} (hf : f_X12_isRing_j107 μ l2 = some r) (hK : FinR G C F_X12_isRing (some .boolean) (some (.int (b2i r))) μ) : V G C F_X12_isRing 107 [none, none, some (.int (b2i l2)), none, none, none] [] (pic G μ) n 0 0 := by
  unfold f_X12_isRing_j107 at hf
  refine V_iload_n d_X12_isRing_107 rfl rfl ?_
  cases hf
  exact R_z hK d_X12_isRing_108 (Nat.le_of_ble_eq_true rfl) (Nat.le_of_ble_eq_true rfl)
theorem s_X12_isRing_l4 {G : Gl} (hG : G.1.stackTraces = false) {C : Cx} {n : Nat} {μ : Mem} {l1 : Int32} {l2 : Bool} {l3 : Int32} {r : Bool} (hf : f_X12_isRing_l4 μ l1 l2 l3 = some r) (hK : FinR G C F_X12_isRing (some .boolean) (some (.int (b2i r))) μ) : V G C F_X12_isRing 4 [some (.ref (G.2.1 + 264)), some (.int l1), some (.int (b2i l2)), some (.int l3), none, none] [] (pic G μ) n 0 0 := by
  unfold f_X12_isRing_l4 at hf
  obtain ⟨t, hl, hf⟩ := ob hf
  refine loopV (P := fun z => ∀ n, V G C F_X12_isRing 4 [some (.ref (G.2.1 + 264)), some (.int l1), some (.int (b2i z.1)), some (.int z.2), none, none] [] (pic G μ) n 0 0) (t := t) ?_ _ _ hl n
  intro z y' hy hI hT n
  refine s_X12_isRing_b4 hG hy ⟨hI, fun x9 ex => ?_⟩
  have ex2 := hT x9 ex
  subst ex2
  intro n
  exact s_X12_isRing_j107 hG hf hK
theorem s_X12_isRing_e {G : Gl} (hG : G.1.stackTraces = false) {C : Cx} {n : Nat} {μ : Mem} {p1 : Int32} {r : Bool} (hf : f_X12_isRing μ p1 = some r) (hK : FinR G C F_X12_isRing (some .boolean) (some (.int (b2i r))) μ) : V G C F_X12_isRing 0 [some (.ref (G.2.1 + 264)), some (.int p1), none, none, none, none] [] (pic G μ) n 0 0 := by
  unfold f_X12_isRing at hf
  refine V_iconst (v := 1) d_X12_isRing_0 ic_1 ?_
  refine V_istore_n (ls' := [_, _, _, _, _, _]) d_X12_isRing_1 rfl rfl rfl ?_
  refine V_iconst (v := 0) d_X12_isRing_2 ic_0 ?_
  refine V_istore_n (ls' := [_, _, _, _, _, _]) d_X12_isRing_3 rfl rfl rfl ?_
  refine V_less (ls' := [some _, some _, some _, some _, none, none]) ⟨rfl, rfl, rfl, rfl, trivial⟩ ?_
  exact s_X12_isRing_l4 hG hf hK
theorem s_X12_isRing {G : Gl} (hG : G.1.stackTraces = false) {μ : Mem} {p1 : Int32} {r : Bool} (hf : f_X12_isRing μ p1 = some r) : Rt G yX12_isRing F_X12_isRing (some .boolean) [.ref (G.2.1 + 264), .int p1] μ (some (.int (b2i r))) μ := fun n => Sd.of hG ⟨by decide +kernel, rfl, rfl⟩ rfl (Nat.le_of_ble_eq_true rfl) rfl (fun C hK => s_X12_isRing_e hG hf hK)
theorem d_X12_rings_0 : decode F_X12_rings.2.1 0 = .ok (.aload_n 0, 1) := by decide +kernel
theorem d_X12_rings_1 : decode F_X12_rings.2.1 1 = .ok (.iconst 0, 1) := by decide +kernel
theorem d_X12_rings_2 : decode F_X12_rings.2.1 2 = .ok (.putfield 3, 3) := by decide +kernel
theorem d_X12_rings_5 : decode F_X12_rings.2.1 5 = .ok (.aload_n 0, 1) := by decide +kernel
theorem d_X12_rings_6 : decode F_X12_rings.2.1 6 = .ok (.invokevirtual 389, 3) := by decide +kernel
theorem d_X12_rings_9 : decode F_X12_rings.2.1 9 = .ok (.istore_n 1, 1) := by decide +kernel
theorem d_X12_rings_10 : decode F_X12_rings.2.1 10 = .ok (.iconst 0, 1) := by decide +kernel
theorem d_X12_rings_11 : decode F_X12_rings.2.1 11 = .ok (.istore_n 2, 1) := by decide +kernel
theorem d_X12_rings_12 : decode F_X12_rings.2.1 12 = .ok (.iconst 1, 1) := by decide +kernel
theorem d_X12_rings_13 : decode F_X12_rings.2.1 13 = .ok (.istore_n 3, 1) := by decide +kernel
theorem d_X12_rings_14 : decode F_X12_rings.2.1 14 = .ok (.iload_n 3, 1) := by decide +kernel
theorem d_X12_rings_15 : decode F_X12_rings.2.1 15 = .ok (.iload_n 1, 1) := by decide +kernel
theorem d_X12_rings_16 : decode F_X12_rings.2.1 16 = .ok (.if_icmp .gt 33, 3) := by decide +kernel
theorem d_X12_rings_19 : decode F_X12_rings.2.1 19 = .ok (.iload_n 2, 1) := by decide +kernel
theorem d_X12_rings_20 : decode F_X12_rings.2.1 20 = .ok (.iload_n 3, 1) := by decide +kernel
theorem d_X12_rings_21 : decode F_X12_rings.2.1 21 = .ok (.iload_n 1, 1) := by decide +kernel
theorem d_X12_rings_22 : decode F_X12_rings.2.1 22 = .ok (.iconst (-1), 1) := by decide +kernel
theorem d_X12_rings_23 : decode F_X12_rings.2.1 23 = .ok (.ixor, 1) := by decide +kernel
theorem d_X12_rings_24 : decode F_X12_rings.2.1 24 = .ok (.iand, 1) := by decide +kernel
theorem d_X12_rings_25 : decode F_X12_rings.2.1 25 = .ok (.ifCond .ne 15, 3) := by decide +kernel
theorem d_X12_rings_28 : decode F_X12_rings.2.1 28 = .ok (.aload_n 0, 1) := by decide +kernel
theorem d_X12_rings_29 : decode F_X12_rings.2.1 29 = .ok (.iload_n 3, 1) := by decide +kernel
theorem d_X12_rings_30 : decode F_X12_rings.2.1 30 = .ok (.invokevirtual 392, 3) := by decide +kernel
theorem d_X12_rings_33 : decode F_X12_rings.2.1 33 = .ok (.ifCond .eq 7, 3) := by decide +kernel
theorem d_X12_rings_36 : decode F_X12_rings.2.1 36 = .ok (.iconst 1, 1) := by decide +kernel
theorem d_X12_rings_37 : decode F_X12_rings.2.1 37 = .ok (.goto 4, 3) := by decide +kernel
theorem d_X12_rings_40 : decode F_X12_rings.2.1 40 = .ok (.iconst 0, 1) := by decide +kernel
theorem d_X12_rings_41 : decode F_X12_rings.2.1 41 = .ok (.iadd, 1) := by decide +kernel
theorem d_X12_rings_42 : decode F_X12_rings.2.1 42 = .ok (.istore_n 2, 1) := by decide +kernel
theorem d_X12_rings_43 : decode F_X12_rings.2.1 43 = .ok (.iinc 3 1, 3) := by decide +kernel
theorem d_X12_rings_46 : decode F_X12_rings.2.1 46 = .ok (.goto (-32), 3) := by decide +kernel
theorem d_X12_rings_49 : decode F_X12_rings.2.1 49 = .ok (.iload_n 2, 1) := by decide +kernel
theorem d_X12_rings_50 : decode F_X12_rings.2.1 50 = .ok (.ireturn, 1) := by decide +kernel
def f_X12_rings_j41_14 (μ : Mem) (l1 : Int32) (l3 : Int32) (k0 : Int32) (k1 : Bool) : Option ((Int32 × Int32) ⊕ Int32) :=
some (.inl ((k0 + (b2i k1)), (l3 + 1)))
def f_X12_rings_j40_14 (μ : Mem) (l1 : Int32) (l3 : Int32) (k0 : Int32) : Option ((Int32 × Int32) ⊕ Int32) :=
f_X12_rings_j41_14 μ l1 l3 k0 false
def f_X12_rings_b14 (μ : Mem) (l1 : Int32) (l2 : Int32) (l3 : Int32) : Option ((Int32 × Int32) ⊕ Int32) :=
if l1 < l3 then
some (.inr l2)
else
if (l3 &&& (l1 ^^^ (-1))) = 0 then
Option.bind (f_X12_isRing μ l3) fun t1 =>
some (.inl ((l2 + (b2i (if t1 = true then true else false))), (l3 + 1)))
else
f_X12_rings_j40_14 μ l1 l3 l2
def f_X12_rings_j49 (μ : Mem) (l2 : Int32) : Option (Int32 × Mem) :=
some (l2, μ)
def f_X12_rings_l14 (μ : Mem) (l1 : Int32) (l2 : Int32) (l3 : Int32) : Option (Int32 × Mem) := Option.bind (loopN 10000 (fun z : (Int32 × Int32) => f_X12_rings_b14 μ l1 z.1 z.2) (l2, l3)) fun t : Int32 => f_X12_rings_j49 μ t
def f_X12_rings (μ : Mem) : Option (Int32 × Mem) :=
Option.bind (f_X12_pledgedOnes (mset μ 264 0 0)) fun t1 =>
f_X12_rings_l14 (mset μ 264 0 0) t1 0 1
theorem s_X12_rings_j41_14 {G : Gl} (hG : G.1.stackTraces = false) {C : Cx} {n : Nat} {μ : Mem} {l1 : Int32} {l3 : Int32} {k0 : Int32} {k1 : Bool} {y : ((Int32 × Int32) ⊕ Int32)} (hf : f_X12_rings_j41_14 μ l1 l3 k0 k1 = some y) (hK : (∀ z', y = .inl z' → ∀ n, V G C F_X12_rings 14 [some (.ref (G.2.1 + 264)), some (.int l1), some (.int z'.1), some (.int z'.2)] [] (pic G μ) n 0 0) ∧ (∀ x', y = .inr x' → ∀ n, V G C F_X12_rings 49 [none, none, some (.int x'), none] [] (pic G μ) n 0 0)) : V G C F_X12_rings 41 [some (.ref (G.2.1 + 264)), some (.int l1), none, some (.int l3)] [.int (b2i k1), .int k0] (pic G μ) n 0 0 := by
  unfold f_X12_rings_j41_14 at hf
  refine V_iadd d_X12_rings_41 ?_
  refine V_istore_n (ls' := [_, _, _, _]) d_X12_rings_42 rfl rfl rfl ?_
  refine V_iinc (v := (l3 + 1)) (ls' := [_, _, _, _]) d_X12_rings_43 rfl (by rw [ic_1]) rfl ?_
  refine V_goto (tgt := 14) d_X12_rings_46 (by decide) ?_
  refine V_less (ls' := [some _, some _, some _, some _]) ⟨rfl, rfl, rfl, rfl, trivial⟩ ?_
  cases hf
  exact hK.1 _ rfl _
theorem s_X12_rings_j40_14 {G : Gl} (hG : G.1.stackTraces = false) {C : Cx} {n : Nat} {μ : Mem} {l1 : Int32} {l3 : Int32} {k0 : Int32} {y : ((Int32 × Int32) ⊕ Int32)} (hf : f_X12_rings_j40_14 μ l1 l3 k0 = some y) (hK : (∀ z', y = .inl z' → ∀ n, V G C F_X12_rings 14 [some (.ref (G.2.1 + 264)), some (.int l1), some (.int z'.1), some (.int z'.2)] [] (pic G μ) n 0 0) ∧ (∀ x', y = .inr x' → ∀ n, V G C F_X12_rings 49 [none, none, some (.int x'), none] [] (pic G μ) n 0 0)) : V G C F_X12_rings 40 [some (.ref (G.2.1 + 264)), some (.int l1), none, some (.int l3)] [.int k0] (pic G μ) n 0 0 := by
  unfold f_X12_rings_j40_14 at hf
  refine V_iconst (v := 0) d_X12_rings_40 ic_0 ?_
  refine V_less (ls' := [some _, some _, none, some _]) ⟨rfl, rfl, rfl, trivial⟩ ?_
  exact s_X12_rings_j41_14 hG hf hK
theorem s_X12_rings_b14 {G : Gl} (hG : G.1.stackTraces = false) {C : Cx} {n : Nat} {μ : Mem} {l1 : Int32} {l2 : Int32} {l3 : Int32} {y : ((Int32 × Int32) ⊕ Int32)} (hf : f_X12_rings_b14 μ l1 l2 l3 = some y) (hK : (∀ z', y = .inl z' → ∀ n, V G C F_X12_rings 14 [some (.ref (G.2.1 + 264)), some (.int l1), some (.int z'.1), some (.int z'.2)] [] (pic G μ) n 0 0) ∧ (∀ x', y = .inr x' → ∀ n, V G C F_X12_rings 49 [none, none, some (.int x'), none] [] (pic G μ) n 0 0)) : V G C F_X12_rings 14 [some (.ref (G.2.1 + 264)), some (.int l1), some (.int l2), some (.int l3)] [] (pic G μ) n 0 0 := by
  unfold f_X12_rings_b14 at hf
  refine V_iload_n d_X12_rings_14 rfl rfl ?_
  refine V_iload_n d_X12_rings_15 rfl rfl ?_
  refine V_icmp_gt (tgt := 49) d_X12_rings_16 (by decide) (fun c16 => ?_) (fun c16 => ?_)
  · replace hf := iteT c16 hf
    refine V_less (ls' := [none, none, some _, none]) ⟨rfl, trivial⟩ ?_
    cases hf
    exact hK.2 _ rfl _
  · replace hf := iteF c16 hf
    refine V_iload_n d_X12_rings_19 rfl rfl ?_
    refine V_iload_n d_X12_rings_20 rfl rfl ?_
    refine V_iload_n d_X12_rings_21 rfl rfl ?_
    refine V_iconst (v := (-1)) d_X12_rings_22 ic_m1 ?_
    refine V_ixor d_X12_rings_23 ?_
    refine V_iand d_X12_rings_24 ?_
    refine V_if_ne (tgt := 40) d_X12_rings_25 (by decide) (fun c25 => ?_) (fun c25 => ?_)
    · replace hf := iteF c25 hf
      refine V_less (ls' := [some _, some _, none, some _]) ⟨rfl, rfl, rfl, trivial⟩ ?_
      exact s_X12_rings_j40_14 hG hf hK
    · replace hf := iteT c25 hf
      refine V_aload_n d_X12_rings_28 rfl rfl ?_
      refine V_iload_n d_X12_rings_29 rfl rfl ?_
      obtain ⟨t1, ht1, hf⟩ := ob hf
      refine B_callV1 (s_X12_isRing hG ht1) k_264 clX12 m_X12_isRing kv_RX12_392 d_X12_rings_30 rfl (Nat.le_of_ble_eq_true rfl) ⟨rfl, rfl, Nat.le_of_ble_eq_true rfl, Nat.le_of_ble_eq_true rfl, Nat.le_of_ble_eq_true rfl⟩ (fun n => ?_)
      have hJj2 : ∀ j2 : Bool, j2 = (if t1 = true then true else false) → V G C F_X12_rings 41 [some (.ref (G.2.1 + 264)), some (.int l1), none, some (.int l3)] [.int (b2i j2), .int l2] (pic G μ) n 0 0 := by
        intro j2 ej2
        subst ej2
        refine V_iadd d_X12_rings_41 ?_
        refine V_istore_n (ls' := [_, _, _, _]) d_X12_rings_42 rfl rfl rfl ?_
        refine V_iinc (v := (l3 + 1)) (ls' := [_, _, _, _]) d_X12_rings_43 rfl (by rw [ic_1]) rfl ?_
        refine V_goto (tgt := 14) d_X12_rings_46 (by decide) ?_
        refine V_less (ls' := [some _, some _, some _, some _]) ⟨rfl, rfl, rfl, rfl, trivial⟩ ?_
        cases hf
        exact hK.1 _ rfl _
      refine V_if_eq (tgt := 40) d_X12_rings_33 (by decide) (fun c33 => ?_) (fun c33 => ?_)
      · refine V_iconst (v := 0) d_X12_rings_40 ic_0 ?_
        refine V_less (ls' := [some _, some _, none, some _]) ⟨rfl, rfl, rfl, trivial⟩ ?_
        exact hJj2 false (by rw [if_neg (b2i_nt (b2i_eq0 c33))])
      · refine V_iconst (v := 1) d_X12_rings_36 ic_1 ?_
        refine V_goto (tgt := 41) d_X12_rings_37 (by decide) ?_
        refine V_less (ls' := [some _, some _, none, some _]) ⟨rfl, rfl, rfl, trivial⟩ ?_
        exact hJj2 true (by rw [if_pos (b2i_ne0 c33)])
theorem s_X12_rings_j49 {G : Gl} (hG : G.1.stackTraces = false) {C : Cx} {n : Nat} {μ : Mem} {l2 : Int32} {r : (Int32 × Mem)} (hf : f_X12_rings_j49 μ l2 = some r) (hK : FinR G C F_X12_rings (some .int) (some (.int r.1)) r.2) : V G C F_X12_rings 49 [none, none, some (.int l2), none] [] (pic G μ) n 0 0 := by
  unfold f_X12_rings_j49 at hf
  refine V_iload_n d_X12_rings_49 rfl rfl ?_
  cases hf
  exact R_i hK d_X12_rings_50 (Nat.le_of_ble_eq_true rfl) (Nat.le_of_ble_eq_true rfl)
theorem s_X12_rings_l14 {G : Gl} (hG : G.1.stackTraces = false) {C : Cx} {n : Nat} {μ : Mem} {l1 : Int32} {l2 : Int32} {l3 : Int32} {r : (Int32 × Mem)} (hf : f_X12_rings_l14 μ l1 l2 l3 = some r) (hK : FinR G C F_X12_rings (some .int) (some (.int r.1)) r.2) : V G C F_X12_rings 14 [some (.ref (G.2.1 + 264)), some (.int l1), some (.int l2), some (.int l3)] [] (pic G μ) n 0 0 := by
  unfold f_X12_rings_l14 at hf
  obtain ⟨t, hl, hf⟩ := ob hf
  refine loopV (P := fun z => ∀ n, V G C F_X12_rings 14 [some (.ref (G.2.1 + 264)), some (.int l1), some (.int z.1), some (.int z.2)] [] (pic G μ) n 0 0) (t := t) ?_ _ _ hl n
  intro z y' hy hI hT n
  refine s_X12_rings_b14 hG hy ⟨hI, fun x9 ex => ?_⟩
  have ex2 := hT x9 ex
  subst ex2
  intro n
  exact s_X12_rings_j49 hG hf hK
theorem s_X12_rings_e {G : Gl} (hG : G.1.stackTraces = false) {C : Cx} {n : Nat} {μ : Mem}  {r : (Int32 × Mem)} (hf : f_X12_rings μ = some r) (hK : FinR G C F_X12_rings (some .int) (some (.int r.1)) r.2) : V G C F_X12_rings 0 [some (.ref (G.2.1 + 264)), none, none, none] [] (pic G μ) n 0 0 := by
  unfold f_X12_rings at hf
  refine V_aload_n d_X12_rings_0 rfl rfl ?_
  refine V_iconst (v := 0) d_X12_rings_1 ic_0 ?_
  refine B_putI k_264 fl_RX12_3 pt_12_0 (Nat.le_of_ble_eq_true rfl) p_12_0 d_X12_rings_2 ?_
  refine V_aload_n d_X12_rings_5 rfl rfl ?_
  obtain ⟨t1, ht1, hf⟩ := ob hf
  refine B_callV1 (s_X12_pledgedOnes hG ht1) k_264 clX12 m_X12_pledgedOnes kv_RX12_389 d_X12_rings_6 rfl (Nat.le_of_ble_eq_true rfl) ⟨rfl, rfl, Nat.le_of_ble_eq_true rfl, Nat.le_of_ble_eq_true rfl, Nat.le_of_ble_eq_true rfl⟩ (fun n => ?_)
  refine V_istore_n (ls' := [_, _, _, _]) d_X12_rings_9 rfl rfl rfl ?_
  refine V_iconst (v := 0) d_X12_rings_10 ic_0 ?_
  refine V_istore_n (ls' := [_, _, _, _]) d_X12_rings_11 rfl rfl rfl ?_
  refine V_iconst (v := 1) d_X12_rings_12 ic_1 ?_
  refine V_istore_n (ls' := [_, _, _, _]) d_X12_rings_13 rfl rfl rfl ?_
  refine V_less (ls' := [some _, some _, some _, some _]) ⟨rfl, rfl, rfl, rfl, trivial⟩ ?_
  exact s_X12_rings_l14 hG hf hK
theorem s_X12_rings {G : Gl} (hG : G.1.stackTraces = false) {μ : Mem} {r : (Int32 × Mem)} (hf : f_X12_rings μ = some r) : Rt G yX12_rings F_X12_rings (some .int) [.ref (G.2.1 + 264)] μ (some (.int r.1)) r.2 := fun n => Sd.of hG ⟨by decide +kernel, rfl, rfl⟩ rfl (Nat.le_of_ble_eq_true rfl) rfl (fun C hK => s_X12_rings_e hG hf hK)
theorem d_X12_untie_0 : decode F_X12_untie.2.1 0 = .ok (.aload_n 0, 1) := by decide +kernel
theorem d_X12_untie_1 : decode F_X12_untie.2.1 1 = .ok (.iconst 0, 1) := by decide +kernel
theorem d_X12_untie_2 : decode F_X12_untie.2.1 2 = .ok (.putfield 3, 3) := by decide +kernel
theorem d_X12_untie_5 : decode F_X12_untie.2.1 5 = .ok (.aload_n 0, 1) := by decide +kernel
theorem d_X12_untie_6 : decode F_X12_untie.2.1 6 = .ok (.invokevirtual 389, 3) := by decide +kernel
theorem d_X12_untie_9 : decode F_X12_untie.2.1 9 = .ok (.istore_n 2, 1) := by decide +kernel
theorem d_X12_untie_10 : decode F_X12_untie.2.1 10 = .ok (.iconst 0, 1) := by decide +kernel
theorem d_X12_untie_11 : decode F_X12_untie.2.1 11 = .ok (.istore_n 3, 1) := by decide +kernel
theorem d_X12_untie_12 : decode F_X12_untie.2.1 12 = .ok (.iconst 1, 1) := by decide +kernel
theorem d_X12_untie_13 : decode F_X12_untie.2.1 13 = .ok (.istore 4, 2) := by decide +kernel
theorem d_X12_untie_15 : decode F_X12_untie.2.1 15 = .ok (.iload 4, 2) := by decide +kernel
theorem d_X12_untie_17 : decode F_X12_untie.2.1 17 = .ok (.iload_n 2, 1) := by decide +kernel
theorem d_X12_untie_18 : decode F_X12_untie.2.1 18 = .ok (.if_icmp .gt 42, 3) := by decide +kernel
theorem d_X12_untie_21 : decode F_X12_untie.2.1 21 = .ok (.iload 4, 2) := by decide +kernel
theorem d_X12_untie_23 : decode F_X12_untie.2.1 23 = .ok (.iload_n 2, 1) := by decide +kernel
theorem d_X12_untie_24 : decode F_X12_untie.2.1 24 = .ok (.iconst (-1), 1) := by decide +kernel
theorem d_X12_untie_25 : decode F_X12_untie.2.1 25 = .ok (.ixor, 1) := by decide +kernel
theorem d_X12_untie_26 : decode F_X12_untie.2.1 26 = .ok (.iand, 1) := by decide +kernel
theorem d_X12_untie_27 : decode F_X12_untie.2.1 27 = .ok (.ifCond .ne 27, 3) := by decide +kernel
theorem d_X12_untie_30 : decode F_X12_untie.2.1 30 = .ok (.iload 4, 2) := by decide +kernel
theorem d_X12_untie_32 : decode F_X12_untie.2.1 32 = .ok (.invokestatic 272, 3) := by decide +kernel
theorem d_X12_untie_35 : decode F_X12_untie.2.1 35 = .ok (.iload_n 3, 1) := by decide +kernel
theorem d_X12_untie_36 : decode F_X12_untie.2.1 36 = .ok (.invokestatic 272, 3) := by decide +kernel
theorem d_X12_untie_39 : decode F_X12_untie.2.1 39 = .ok (.if_icmp .le 15, 3) := by decide +kernel
theorem d_X12_untie_42 : decode F_X12_untie.2.1 42 = .ok (.aload_n 0, 1) := by decide +kernel
theorem d_X12_untie_43 : decode F_X12_untie.2.1 43 = .ok (.iload 4, 2) := by decide +kernel
theorem d_X12_untie_45 : decode F_X12_untie.2.1 45 = .ok (.invokevirtual 392, 3) := by decide +kernel
theorem d_X12_untie_48 : decode F_X12_untie.2.1 48 = .ok (.ifCond .eq 6, 3) := by decide +kernel
theorem d_X12_untie_51 : decode F_X12_untie.2.1 51 = .ok (.iload 4, 2) := by decide +kernel
theorem d_X12_untie_53 : decode F_X12_untie.2.1 53 = .ok (.istore_n 3, 1) := by decide +kernel
theorem d_X12_untie_54 : decode F_X12_untie.2.1 54 = .ok (.iinc 4 1, 3) := by decide +kernel
theorem d_X12_untie_57 : decode F_X12_untie.2.1 57 = .ok (.goto (-42), 3) := by decide +kernel
theorem d_X12_untie_60 : decode F_X12_untie.2.1 60 = .ok (.iload_n 1, 1) := by decide +kernel
theorem d_X12_untie_61 : decode F_X12_untie.2.1 61 = .ok (.ifCond .eq 10, 3) := by decide +kernel
theorem d_X12_untie_64 : decode F_X12_untie.2.1 64 = .ok (.iload_n 3, 1) := by decide +kernel
theorem d_X12_untie_65 : decode F_X12_untie.2.1 65 = .ok (.invokestatic 272, 3) := by decide +kernel
theorem d_X12_untie_68 : decode F_X12_untie.2.1 68 = .ok (.goto 4, 3) := by decide +kernel
theorem d_X12_untie_71 : decode F_X12_untie.2.1 71 = .ok (.iload_n 3, 1) := by decide +kernel
theorem d_X12_untie_72 : decode F_X12_untie.2.1 72 = .ok (.ireturn, 1) := by decide +kernel
def f_X12_untie_j54_15 (μ : Mem) (l1 : Bool) (l2 : Int32) (l3 : Int32) (l4 : Int32) : Option ((Int32 × Int32) ⊕ Int32) :=
some (.inl (l3, (l4 + 1)))
def f_X12_untie_b15 (μ : Mem) (l1 : Bool) (l2 : Int32) (l3 : Int32) (l4 : Int32) : Option ((Int32 × Int32) ⊕ Int32) :=
if l2 < l4 then
some (.inr l3)
else
if (l4 &&& (l2 ^^^ (-1))) = 0 then
Option.bind (f_J6_bitCount_0f7a4 μ l4) fun t1 =>
Option.bind (f_J6_bitCount_0f7a4 μ l3) fun t2 =>
if t1 ≤ t2 then
f_X12_untie_j54_15 μ l1 l2 l3 l4
else
Option.bind (f_X12_isRing μ l4) fun t3 =>
some (.inl ((if t3 = true then l4 else l3), (l4 + 1)))
else
f_X12_untie_j54_15 μ l1 l2 l3 l4
def f_X12_untie_j72 (μ : Mem) (k0 : Int32) : Option (Int32 × Mem) :=
some (k0, μ)
def f_X12_untie_j60 (μ : Mem) (l1 : Bool) (l3 : Int32) : Option (Int32 × Mem) :=
if l1 = true then
Option.bind (f_J6_bitCount_0f7a4 μ l3) fun t1 =>
f_X12_untie_j72 μ t1
else
f_X12_untie_j72 μ l3
def f_X12_untie_l15 (μ : Mem) (l1 : Bool) (l2 : Int32) (l3 : Int32) (l4 : Int32) : Option (Int32 × Mem) := Option.bind (loopN 10000 (fun z : (Int32 × Int32) => f_X12_untie_b15 μ l1 l2 z.1 z.2) (l3, l4)) fun t : Int32 => f_X12_untie_j60 μ l1 t
def f_X12_untie (μ : Mem) (p1 : Bool) : Option (Int32 × Mem) :=
Option.bind (f_X12_pledgedOnes (mset μ 264 0 0)) fun t1 =>
f_X12_untie_l15 (mset μ 264 0 0) p1 t1 0 1
theorem s_X12_untie_j54_15 {G : Gl} (hG : G.1.stackTraces = false) {C : Cx} {n : Nat} {μ : Mem} {l1 : Bool} {l2 : Int32} {l3 : Int32} {l4 : Int32} {y : ((Int32 × Int32) ⊕ Int32)} (hf : f_X12_untie_j54_15 μ l1 l2 l3 l4 = some y) (hK : (∀ z', y = .inl z' → ∀ n, V G C F_X12_untie 15 [some (.ref (G.2.1 + 264)), some (.int (b2i l1)), some (.int l2), some (.int z'.1), some (.int z'.2)] [] (pic G μ) n 0 0) ∧ (∀ x', y = .inr x' → ∀ n, V G C F_X12_untie 60 [none, some (.int (b2i l1)), none, some (.int x'), none] [] (pic G μ) n 0 0)) : V G C F_X12_untie 54 [some (.ref (G.2.1 + 264)), some (.int (b2i l1)), some (.int l2), some (.int l3), some (.int l4)] [] (pic G μ) n 0 0 := by
  unfold f_X12_untie_j54_15 at hf
  refine V_iinc (v := (l4 + 1)) (ls' := [_, _, _, _, _]) d_X12_untie_54 rfl (by rw [ic_1]) rfl ?_
  refine V_goto (tgt := 15) d_X12_untie_57 (by decide) ?_
  refine V_less (ls' := [some _, some _, some _, some _, some _]) ⟨rfl, rfl, rfl, rfl, rfl, trivial⟩ ?_
  cases hf
  exact hK.1 _ rfl _
theorem s_X12_untie_b15 {G : Gl} (hG : G.1.stackTraces = false) {C : Cx} {n : Nat} {μ : Mem} {l1 : Bool} {l2 : Int32} {l3 : Int32} {l4 : Int32} {y : ((Int32 × Int32) ⊕ Int32)} (hf : f_X12_untie_b15 μ l1 l2 l3 l4 = some y) (hK : (∀ z', y = .inl z' → ∀ n, V G C F_X12_untie 15 [some (.ref (G.2.1 + 264)), some (.int (b2i l1)), some (.int l2), some (.int z'.1), some (.int z'.2)] [] (pic G μ) n 0 0) ∧ (∀ x', y = .inr x' → ∀ n, V G C F_X12_untie 60 [none, some (.int (b2i l1)), none, some (.int x'), none] [] (pic G μ) n 0 0)) : V G C F_X12_untie 15 [some (.ref (G.2.1 + 264)), some (.int (b2i l1)), some (.int l2), some (.int l3), some (.int l4)] [] (pic G μ) n 0 0 := by
  unfold f_X12_untie_b15 at hf
  refine V_iload d_X12_untie_15 rfl ?_
  refine V_iload_n d_X12_untie_17 rfl rfl ?_
  refine V_icmp_gt (tgt := 60) d_X12_untie_18 (by decide) (fun c18 => ?_) (fun c18 => ?_)
  · replace hf := iteT c18 hf
    refine V_less (ls' := [none, some _, none, some _, none]) ⟨rfl, rfl, trivial⟩ ?_
    cases hf
    exact hK.2 _ rfl _
  · replace hf := iteF c18 hf
    refine V_iload d_X12_untie_21 rfl ?_
    refine V_iload_n d_X12_untie_23 rfl rfl ?_
    refine V_iconst (v := (-1)) d_X12_untie_24 ic_m1 ?_
    refine V_ixor d_X12_untie_25 ?_
    refine V_iand d_X12_untie_26 ?_
    refine V_if_ne (tgt := 54) d_X12_untie_27 (by decide) (fun c27 => ?_) (fun c27 => ?_)
    · replace hf := iteF c27 hf
      refine V_less (ls' := [some _, some _, some _, some _, some _]) ⟨rfl, rfl, rfl, rfl, rfl, trivial⟩ ?_
      exact s_X12_untie_j54_15 hG hf hK
    · replace hf := iteT c27 hf
      refine V_iload d_X12_untie_30 rfl ?_
      obtain ⟨t1, ht1, hf⟩ := ob hf
      refine B_callS1 (s_J6_bitCount_0f7a4 hG ht1) m_J6_bitCount_0f7a4 ks_RX12_272 d_X12_untie_32 rfl (Nat.le_of_ble_eq_true rfl) ⟨rfl, rfl, Nat.le_of_ble_eq_true rfl, Nat.le_of_ble_eq_true rfl, Nat.le_of_ble_eq_true rfl⟩ (fun n => ?_)
      refine V_iload_n d_X12_untie_35 rfl rfl ?_
      obtain ⟨t2, ht2, hf⟩ := ob hf
      refine B_callS1 (s_J6_bitCount_0f7a4 hG ht2) m_J6_bitCount_0f7a4 ks_RX12_272 d_X12_untie_36 rfl (Nat.le_of_ble_eq_true rfl) ⟨rfl, rfl, Nat.le_of_ble_eq_true rfl, Nat.le_of_ble_eq_true rfl, Nat.le_of_ble_eq_true rfl⟩ (fun n => ?_)
      refine V_icmp_le (tgt := 54) d_X12_untie_39 (by decide) (fun c39 => ?_) (fun c39 => ?_)
      · replace hf := iteT c39 hf
        refine V_less (ls' := [some _, some _, some _, some _, some _]) ⟨rfl, rfl, rfl, rfl, rfl, trivial⟩ ?_
        exact s_X12_untie_j54_15 hG hf hK
      · replace hf := iteF c39 hf
        refine V_aload_n d_X12_untie_42 rfl rfl ?_
        refine V_iload d_X12_untie_43 rfl ?_
        obtain ⟨t3, ht3, hf⟩ := ob hf
        refine B_callV1 (s_X12_isRing hG ht3) k_264 clX12 m_X12_isRing kv_RX12_392 d_X12_untie_45 rfl (Nat.le_of_ble_eq_true rfl) ⟨rfl, rfl, Nat.le_of_ble_eq_true rfl, Nat.le_of_ble_eq_true rfl, Nat.le_of_ble_eq_true rfl⟩ (fun n => ?_)
        have hJj4 : ∀ j4 : Int32, j4 = (if t3 = true then l4 else l3) → V G C F_X12_untie 54 [some (.ref (G.2.1 + 264)), some (.int (b2i l1)), some (.int l2), some (.int j4), some (.int l4)] [] (pic G μ) n 0 0 := by
          intro j4 ej4
          subst ej4
          refine V_iinc (v := (l4 + 1)) (ls' := [_, _, _, _, _]) d_X12_untie_54 rfl (by rw [ic_1]) rfl ?_
          refine V_goto (tgt := 15) d_X12_untie_57 (by decide) ?_
          refine V_less (ls' := [some _, some _, some _, some _, some _]) ⟨rfl, rfl, rfl, rfl, rfl, trivial⟩ ?_
          cases hf
          exact hK.1 _ rfl _
        refine V_if_eq (tgt := 54) d_X12_untie_48 (by decide) (fun c48 => ?_) (fun c48 => ?_)
        · refine V_less (ls' := [some _, some _, some _, some _, some _]) ⟨rfl, rfl, rfl, rfl, rfl, trivial⟩ ?_
          exact hJj4 l3 (by rw [if_neg (b2i_nt (b2i_eq0 c48))])
        · refine V_iload d_X12_untie_51 rfl ?_
          refine V_istore_n (ls' := [_, _, _, _, _]) d_X12_untie_53 rfl rfl rfl ?_
          refine V_less (ls' := [some _, some _, some _, some _, some _]) ⟨rfl, rfl, rfl, rfl, rfl, trivial⟩ ?_
          exact hJj4 l4 (by rw [if_pos (b2i_ne0 c48)])
theorem s_X12_untie_j72 {G : Gl} (hG : G.1.stackTraces = false) {C : Cx} {n : Nat} {μ : Mem} {k0 : Int32} {r : (Int32 × Mem)} (hf : f_X12_untie_j72 μ k0 = some r) (hK : FinR G C F_X12_untie (some .int) (some (.int r.1)) r.2) : V G C F_X12_untie 72 [none, none, none, none, none] [.int k0] (pic G μ) n 0 0 := by
  unfold f_X12_untie_j72 at hf
  cases hf
  exact R_i hK d_X12_untie_72 (Nat.le_of_ble_eq_true rfl) (Nat.le_of_ble_eq_true rfl)
theorem s_X12_untie_j60 {G : Gl} (hG : G.1.stackTraces = false) {C : Cx} {n : Nat} {μ : Mem} {l1 : Bool} {l3 : Int32} {r : (Int32 × Mem)} (hf : f_X12_untie_j60 μ l1 l3 = some r) (hK : FinR G C F_X12_untie (some .int) (some (.int r.1)) r.2) : V G C F_X12_untie 60 [none, some (.int (b2i l1)), none, some (.int l3), none] [] (pic G μ) n 0 0 := by
  unfold f_X12_untie_j60 at hf
  refine V_iload_n d_X12_untie_60 rfl rfl ?_
  refine V_if_eq (tgt := 71) d_X12_untie_61 (by decide) (fun c61 => ?_) (fun c61 => ?_)
  · replace hf := iteF (b2i_nt (b2i_eq0 c61)) hf
    refine V_iload_n d_X12_untie_71 rfl rfl ?_
    refine V_less (ls' := [none, none, none, none, none]) trivial ?_
    exact s_X12_untie_j72 hG hf hK
  · replace hf := iteT (b2i_ne0 c61) hf
    refine V_iload_n d_X12_untie_64 rfl rfl ?_
    obtain ⟨t1, ht1, hf⟩ := ob hf
    refine B_callS1 (s_J6_bitCount_0f7a4 hG ht1) m_J6_bitCount_0f7a4 ks_RX12_272 d_X12_untie_65 rfl (Nat.le_of_ble_eq_true rfl) ⟨rfl, rfl, Nat.le_of_ble_eq_true rfl, Nat.le_of_ble_eq_true rfl, Nat.le_of_ble_eq_true rfl⟩ (fun n => ?_)
    refine V_goto (tgt := 72) d_X12_untie_68 (by decide) ?_
    refine V_less (ls' := [none, none, none, none, none]) trivial ?_
    exact s_X12_untie_j72 hG hf hK
theorem s_X12_untie_l15 {G : Gl} (hG : G.1.stackTraces = false) {C : Cx} {n : Nat} {μ : Mem} {l1 : Bool} {l2 : Int32} {l3 : Int32} {l4 : Int32} {r : (Int32 × Mem)} (hf : f_X12_untie_l15 μ l1 l2 l3 l4 = some r) (hK : FinR G C F_X12_untie (some .int) (some (.int r.1)) r.2) : V G C F_X12_untie 15 [some (.ref (G.2.1 + 264)), some (.int (b2i l1)), some (.int l2), some (.int l3), some (.int l4)] [] (pic G μ) n 0 0 := by
  unfold f_X12_untie_l15 at hf
  obtain ⟨t, hl, hf⟩ := ob hf
  refine loopV (P := fun z => ∀ n, V G C F_X12_untie 15 [some (.ref (G.2.1 + 264)), some (.int (b2i l1)), some (.int l2), some (.int z.1), some (.int z.2)] [] (pic G μ) n 0 0) (t := t) ?_ _ _ hl n
  intro z y' hy hI hT n
  refine s_X12_untie_b15 hG hy ⟨hI, fun x9 ex => ?_⟩
  have ex2 := hT x9 ex
  subst ex2
  intro n
  exact s_X12_untie_j60 hG hf hK
theorem s_X12_untie_e {G : Gl} (hG : G.1.stackTraces = false) {C : Cx} {n : Nat} {μ : Mem} {p1 : Bool} {r : (Int32 × Mem)} (hf : f_X12_untie μ p1 = some r) (hK : FinR G C F_X12_untie (some .int) (some (.int r.1)) r.2) : V G C F_X12_untie 0 [some (.ref (G.2.1 + 264)), some (.int (b2i p1)), none, none, none] [] (pic G μ) n 0 0 := by
  unfold f_X12_untie at hf
  refine V_aload_n d_X12_untie_0 rfl rfl ?_
  refine V_iconst (v := 0) d_X12_untie_1 ic_0 ?_
  refine B_putI k_264 fl_RX12_3 pt_12_0 (Nat.le_of_ble_eq_true rfl) p_12_0 d_X12_untie_2 ?_
  refine V_aload_n d_X12_untie_5 rfl rfl ?_
  obtain ⟨t1, ht1, hf⟩ := ob hf
  refine B_callV1 (s_X12_pledgedOnes hG ht1) k_264 clX12 m_X12_pledgedOnes kv_RX12_389 d_X12_untie_6 rfl (Nat.le_of_ble_eq_true rfl) ⟨rfl, rfl, Nat.le_of_ble_eq_true rfl, Nat.le_of_ble_eq_true rfl, Nat.le_of_ble_eq_true rfl⟩ (fun n => ?_)
  refine V_istore_n (ls' := [_, _, _, _, _]) d_X12_untie_9 rfl rfl rfl ?_
  refine V_iconst (v := 0) d_X12_untie_10 ic_0 ?_
  refine V_istore_n (ls' := [_, _, _, _, _]) d_X12_untie_11 rfl rfl rfl ?_
  refine V_iconst (v := 1) d_X12_untie_12 ic_1 ?_
  refine V_istore (ls' := [_, _, _, _, _]) d_X12_untie_13 rfl rfl ?_
  refine V_less (ls' := [some _, some _, some _, some _, some _]) ⟨rfl, rfl, rfl, rfl, rfl, trivial⟩ ?_
  exact s_X12_untie_l15 hG hf hK
theorem s_X12_untie {G : Gl} (hG : G.1.stackTraces = false) {μ : Mem} {p1 : Bool} {r : (Int32 × Mem)} (hf : f_X12_untie μ p1 = some r) : Rt G yX12_untie F_X12_untie (some .int) [.ref (G.2.1 + 264), .int (b2i p1)] μ (some (.int r.1)) r.2 := fun n => Sd.of hG ⟨by decide +kernel, rfl, rfl⟩ rfl (Nat.le_of_ble_eq_true rfl) rfl (fun C hK => s_X12_untie_e hG hf hK)
theorem d_X12_holdersOf_0 : decode F_X12_holdersOf.2.1 0 = .ok (.iconst 0, 1) := by decide +kernel
theorem d_X12_holdersOf_1 : decode F_X12_holdersOf.2.1 1 = .ok (.istore_n 2, 1) := by decide +kernel
theorem d_X12_holdersOf_2 : decode F_X12_holdersOf.2.1 2 = .ok (.iconst 0, 1) := by decide +kernel
theorem d_X12_holdersOf_3 : decode F_X12_holdersOf.2.1 3 = .ok (.istore_n 3, 1) := by decide +kernel
theorem d_X12_holdersOf_4 : decode F_X12_holdersOf.2.1 4 = .ok (.iload_n 3, 1) := by decide +kernel
theorem d_X12_holdersOf_5 : decode F_X12_holdersOf.2.1 5 = .ok (.aload_n 0, 1) := by decide +kernel
theorem d_X12_holdersOf_6 : decode F_X12_holdersOf.2.1 6 = .ok (.invokevirtual 77, 3) := by decide +kernel
theorem d_X12_holdersOf_9 : decode F_X12_holdersOf.2.1 9 = .ok (.if_icmp .ge 43, 3) := by decide +kernel
theorem d_X12_holdersOf_12 : decode F_X12_holdersOf.2.1 12 = .ok (.iload_n 2, 1) := by decide +kernel
theorem d_X12_holdersOf_13 : decode F_X12_holdersOf.2.1 13 = .ok (.aload_n 0, 1) := by decide +kernel
theorem d_X12_holdersOf_14 : decode F_X12_holdersOf.2.1 14 = .ok (.iload_n 3, 1) := by decide +kernel
theorem d_X12_holdersOf_15 : decode F_X12_holdersOf.2.1 15 = .ok (.invokevirtual 296, 3) := by decide +kernel
theorem d_X12_holdersOf_18 : decode F_X12_holdersOf.2.1 18 = .ok (.ifCond .eq 25, 3) := by decide +kernel
theorem d_X12_holdersOf_21 : decode F_X12_holdersOf.2.1 21 = .ok (.iload_n 1, 1) := by decide +kernel
theorem d_X12_holdersOf_22 : decode F_X12_holdersOf.2.1 22 = .ok (.iload_n 3, 1) := by decide +kernel
theorem d_X12_holdersOf_23 : decode F_X12_holdersOf.2.1 23 = .ok (.invokestatic 144, 3) := by decide +kernel
theorem d_X12_holdersOf_26 : decode F_X12_holdersOf.2.1 26 = .ok (.invokestatic 380, 3) := by decide +kernel
theorem d_X12_holdersOf_29 : decode F_X12_holdersOf.2.1 29 = .ok (.ifCond .eq 14, 3) := by decide +kernel
theorem d_X12_holdersOf_32 : decode F_X12_holdersOf.2.1 32 = .ok (.iconst 1, 1) := by decide +kernel
theorem d_X12_holdersOf_33 : decode F_X12_holdersOf.2.1 33 = .ok (.aload_n 0, 1) := by decide +kernel
theorem d_X12_holdersOf_34 : decode F_X12_holdersOf.2.1 34 = .ok (.iload_n 3, 1) := by decide +kernel
theorem d_X12_holdersOf_35 : decode F_X12_holdersOf.2.1 35 = .ok (.iconst 1, 1) := by decide +kernel
theorem d_X12_holdersOf_36 : decode F_X12_holdersOf.2.1 36 = .ok (.invokevirtual 70, 3) := by decide +kernel
theorem d_X12_holdersOf_39 : decode F_X12_holdersOf.2.1 39 = .ok (.ishl, 1) := by decide +kernel
theorem d_X12_holdersOf_40 : decode F_X12_holdersOf.2.1 40 = .ok (.goto 4, 3) := by decide +kernel
theorem d_X12_holdersOf_43 : decode F_X12_holdersOf.2.1 43 = .ok (.iconst 0, 1) := by decide +kernel
theorem d_X12_holdersOf_44 : decode F_X12_holdersOf.2.1 44 = .ok (.ior, 1) := by decide +kernel
theorem d_X12_holdersOf_45 : decode F_X12_holdersOf.2.1 45 = .ok (.istore_n 2, 1) := by decide +kernel
theorem d_X12_holdersOf_46 : decode F_X12_holdersOf.2.1 46 = .ok (.iinc 3 1, 3) := by decide +kernel
theorem d_X12_holdersOf_49 : decode F_X12_holdersOf.2.1 49 = .ok (.goto (-45), 3) := by decide +kernel
theorem d_X12_holdersOf_52 : decode F_X12_holdersOf.2.1 52 = .ok (.iload_n 2, 1) := by decide +kernel
theorem d_X12_holdersOf_53 : decode F_X12_holdersOf.2.1 53 = .ok (.ireturn, 1) := by decide +kernel
def f_X12_holdersOf_j44_4 (μ : Mem) (l1 : Int32) (l3 : Int32) (k0 : Int32) (k1 : Int32) : Option ((Int32 × Int32) ⊕ Int32) :=
some (.inl ((k0 ||| k1), (l3 + 1)))
def f_X12_holdersOf_j43_4 (μ : Mem) (l1 : Int32) (l3 : Int32) (k0 : Int32) : Option ((Int32 × Int32) ⊕ Int32) :=
f_X12_holdersOf_j44_4 μ l1 l3 k0 0
def f_X12_holdersOf_b4 (μ : Mem) (l1 : Int32) (l2 : Int32) (l3 : Int32) : Option ((Int32 × Int32) ⊕ Int32) :=
Option.bind (f_X12_laces μ) fun t1 =>
if t1 ≤ l3 then
some (.inr l2)
else
Option.bind (f_X12_isPledged μ l3) fun t2 =>
if t2 = true then
Option.bind (f_X12_ownerOf μ l3) fun t3 =>
Option.bind (f_X12_has μ l1 t3) fun t4 =>
if t4 = true then
Option.bind (f_X12_ofLace μ l3 1) fun t5 =>
f_X12_holdersOf_j44_4 μ l1 l3 l2 (1 <<< (t5 &&& 31))
else
f_X12_holdersOf_j43_4 μ l1 l3 l2
else
f_X12_holdersOf_j43_4 μ l1 l3 l2
def f_X12_holdersOf_j52 (μ : Mem) (l2 : Int32) : Option Int32 :=
some l2
def f_X12_holdersOf_l4 (μ : Mem) (l1 : Int32) (l2 : Int32) (l3 : Int32) : Option Int32 := Option.bind (loopN 10000 (fun z : (Int32 × Int32) => f_X12_holdersOf_b4 μ l1 z.1 z.2) (l2, l3)) fun t : Int32 => f_X12_holdersOf_j52 μ t
def f_X12_holdersOf (μ : Mem) (p1 : Int32) : Option Int32 :=
f_X12_holdersOf_l4 μ p1 0 0
theorem s_X12_holdersOf_j44_4 {G : Gl} (hG : G.1.stackTraces = false) {C : Cx} {n : Nat} {μ : Mem} {l1 : Int32} {l3 : Int32} {k0 : Int32} {k1 : Int32} {y : ((Int32 × Int32) ⊕ Int32)} (hf : f_X12_holdersOf_j44_4 μ l1 l3 k0 k1 = some y) (hK : (∀ z', y = .inl z' → ∀ n, V G C F_X12_holdersOf 4 [some (.ref (G.2.1 + 264)), some (.int l1), some (.int z'.1), some (.int z'.2)] [] (pic G μ) n 0 0) ∧ (∀ x', y = .inr x' → ∀ n, V G C F_X12_holdersOf 52 [none, none, some (.int x'), none] [] (pic G μ) n 0 0)) : V G C F_X12_holdersOf 44 [some (.ref (G.2.1 + 264)), some (.int l1), none, some (.int l3)] [.int k1, .int k0] (pic G μ) n 0 0 := by
  unfold f_X12_holdersOf_j44_4 at hf
  refine V_ior d_X12_holdersOf_44 ?_
  refine V_istore_n (ls' := [_, _, _, _]) d_X12_holdersOf_45 rfl rfl rfl ?_
  refine V_iinc (v := (l3 + 1)) (ls' := [_, _, _, _]) d_X12_holdersOf_46 rfl (by rw [ic_1]) rfl ?_
  refine V_goto (tgt := 4) d_X12_holdersOf_49 (by decide) ?_
  refine V_less (ls' := [some _, some _, some _, some _]) ⟨rfl, rfl, rfl, rfl, trivial⟩ ?_
  cases hf
  exact hK.1 _ rfl _
theorem s_X12_holdersOf_j43_4 {G : Gl} (hG : G.1.stackTraces = false) {C : Cx} {n : Nat} {μ : Mem} {l1 : Int32} {l3 : Int32} {k0 : Int32} {y : ((Int32 × Int32) ⊕ Int32)} (hf : f_X12_holdersOf_j43_4 μ l1 l3 k0 = some y) (hK : (∀ z', y = .inl z' → ∀ n, V G C F_X12_holdersOf 4 [some (.ref (G.2.1 + 264)), some (.int l1), some (.int z'.1), some (.int z'.2)] [] (pic G μ) n 0 0) ∧ (∀ x', y = .inr x' → ∀ n, V G C F_X12_holdersOf 52 [none, none, some (.int x'), none] [] (pic G μ) n 0 0)) : V G C F_X12_holdersOf 43 [some (.ref (G.2.1 + 264)), some (.int l1), none, some (.int l3)] [.int k0] (pic G μ) n 0 0 := by
  unfold f_X12_holdersOf_j43_4 at hf
  refine V_iconst (v := 0) d_X12_holdersOf_43 ic_0 ?_
  refine V_less (ls' := [some _, some _, none, some _]) ⟨rfl, rfl, rfl, trivial⟩ ?_
  exact s_X12_holdersOf_j44_4 hG hf hK
theorem s_X12_holdersOf_b4 {G : Gl} (hG : G.1.stackTraces = false) {C : Cx} {n : Nat} {μ : Mem} {l1 : Int32} {l2 : Int32} {l3 : Int32} {y : ((Int32 × Int32) ⊕ Int32)} (hf : f_X12_holdersOf_b4 μ l1 l2 l3 = some y) (hK : (∀ z', y = .inl z' → ∀ n, V G C F_X12_holdersOf 4 [some (.ref (G.2.1 + 264)), some (.int l1), some (.int z'.1), some (.int z'.2)] [] (pic G μ) n 0 0) ∧ (∀ x', y = .inr x' → ∀ n, V G C F_X12_holdersOf 52 [none, none, some (.int x'), none] [] (pic G μ) n 0 0)) : V G C F_X12_holdersOf 4 [some (.ref (G.2.1 + 264)), some (.int l1), some (.int l2), some (.int l3)] [] (pic G μ) n 0 0 := by
  unfold f_X12_holdersOf_b4 at hf
  refine V_iload_n d_X12_holdersOf_4 rfl rfl ?_
  refine V_aload_n d_X12_holdersOf_5 rfl rfl ?_
  obtain ⟨t1, ht1, hf⟩ := ob hf
  refine B_callV1 (s_X12_laces hG ht1) k_264 clX12 m_X12_laces kv_RX12_77 d_X12_holdersOf_6 rfl (Nat.le_of_ble_eq_true rfl) ⟨rfl, rfl, Nat.le_of_ble_eq_true rfl, Nat.le_of_ble_eq_true rfl, Nat.le_of_ble_eq_true rfl⟩ (fun n => ?_)
  refine V_icmp_ge (tgt := 52) d_X12_holdersOf_9 (by decide) (fun c9 => ?_) (fun c9 => ?_)
  · replace hf := iteT c9 hf
    refine V_less (ls' := [none, none, some _, none]) ⟨rfl, trivial⟩ ?_
    cases hf
    exact hK.2 _ rfl _
  · replace hf := iteF c9 hf
    refine V_iload_n d_X12_holdersOf_12 rfl rfl ?_
    refine V_aload_n d_X12_holdersOf_13 rfl rfl ?_
    refine V_iload_n d_X12_holdersOf_14 rfl rfl ?_
    obtain ⟨t2, ht2, hf⟩ := ob hf
    refine B_callV1 (s_X12_isPledged hG ht2) k_264 clX12 m_X12_isPledged kv_RX12_296 d_X12_holdersOf_15 rfl (Nat.le_of_ble_eq_true rfl) ⟨rfl, rfl, Nat.le_of_ble_eq_true rfl, Nat.le_of_ble_eq_true rfl, Nat.le_of_ble_eq_true rfl⟩ (fun n => ?_)
    refine V_if_eq (tgt := 43) d_X12_holdersOf_18 (by decide) (fun c18 => ?_) (fun c18 => ?_)
    · replace hf := iteF (b2i_nt (b2i_eq0 c18)) hf
      refine V_less (ls' := [some _, some _, none, some _]) ⟨rfl, rfl, rfl, trivial⟩ ?_
      exact s_X12_holdersOf_j43_4 hG hf hK
    · replace hf := iteT (b2i_ne0 c18) hf
      refine V_iload_n d_X12_holdersOf_21 rfl rfl ?_
      refine V_iload_n d_X12_holdersOf_22 rfl rfl ?_
      obtain ⟨t3, ht3, hf⟩ := ob hf
      refine B_callS1 (s_X12_ownerOf hG ht3) m_X12_ownerOf ks_RX12_144 d_X12_holdersOf_23 rfl (Nat.le_of_ble_eq_true rfl) ⟨rfl, rfl, Nat.le_of_ble_eq_true rfl, Nat.le_of_ble_eq_true rfl, Nat.le_of_ble_eq_true rfl⟩ (fun n => ?_)
      obtain ⟨t4, ht4, hf⟩ := ob hf
      refine B_callS1 (s_X12_has hG ht4) m_X12_has ks_RX12_380 d_X12_holdersOf_26 rfl (Nat.le_of_ble_eq_true rfl) ⟨rfl, rfl, Nat.le_of_ble_eq_true rfl, Nat.le_of_ble_eq_true rfl, Nat.le_of_ble_eq_true rfl⟩ (fun n => ?_)
      refine V_if_eq (tgt := 43) d_X12_holdersOf_29 (by decide) (fun c29 => ?_) (fun c29 => ?_)
      · replace hf := iteF (b2i_nt (b2i_eq0 c29)) hf
        refine V_less (ls' := [some _, some _, none, some _]) ⟨rfl, rfl, rfl, trivial⟩ ?_
        exact s_X12_holdersOf_j43_4 hG hf hK
      · replace hf := iteT (b2i_ne0 c29) hf
        refine V_iconst (v := 1) d_X12_holdersOf_32 ic_1 ?_
        refine V_aload_n d_X12_holdersOf_33 rfl rfl ?_
        refine V_iload_n d_X12_holdersOf_34 rfl rfl ?_
        refine V_iconst (v := 1) d_X12_holdersOf_35 ic_1 ?_
        obtain ⟨t5, ht5, hf⟩ := ob hf
        refine B_callV1 (s_X12_ofLace hG ht5) k_264 clX12 m_X12_ofLace kv_RX12_70 d_X12_holdersOf_36 rfl (Nat.le_of_ble_eq_true rfl) ⟨rfl, rfl, Nat.le_of_ble_eq_true rfl, Nat.le_of_ble_eq_true rfl, Nat.le_of_ble_eq_true rfl⟩ (fun n => ?_)
        refine V_ishl d_X12_holdersOf_39 ?_
        refine V_goto (tgt := 44) d_X12_holdersOf_40 (by decide) ?_
        refine V_less (ls' := [some _, some _, none, some _]) ⟨rfl, rfl, rfl, trivial⟩ ?_
        exact s_X12_holdersOf_j44_4 hG hf hK
theorem s_X12_holdersOf_j52 {G : Gl} (hG : G.1.stackTraces = false) {C : Cx} {n : Nat} {μ : Mem} {l2 : Int32} {r : Int32} (hf : f_X12_holdersOf_j52 μ l2 = some r) (hK : FinR G C F_X12_holdersOf (some .int) (some (.int r)) μ) : V G C F_X12_holdersOf 52 [none, none, some (.int l2), none] [] (pic G μ) n 0 0 := by
  unfold f_X12_holdersOf_j52 at hf
  refine V_iload_n d_X12_holdersOf_52 rfl rfl ?_
  cases hf
  exact R_i hK d_X12_holdersOf_53 (Nat.le_of_ble_eq_true rfl) (Nat.le_of_ble_eq_true rfl)
theorem s_X12_holdersOf_l4 {G : Gl} (hG : G.1.stackTraces = false) {C : Cx} {n : Nat} {μ : Mem} {l1 : Int32} {l2 : Int32} {l3 : Int32} {r : Int32} (hf : f_X12_holdersOf_l4 μ l1 l2 l3 = some r) (hK : FinR G C F_X12_holdersOf (some .int) (some (.int r)) μ) : V G C F_X12_holdersOf 4 [some (.ref (G.2.1 + 264)), some (.int l1), some (.int l2), some (.int l3)] [] (pic G μ) n 0 0 := by
  unfold f_X12_holdersOf_l4 at hf
  obtain ⟨t, hl, hf⟩ := ob hf
  refine loopV (P := fun z => ∀ n, V G C F_X12_holdersOf 4 [some (.ref (G.2.1 + 264)), some (.int l1), some (.int z.1), some (.int z.2)] [] (pic G μ) n 0 0) (t := t) ?_ _ _ hl n
  intro z y' hy hI hT n
  refine s_X12_holdersOf_b4 hG hy ⟨hI, fun x9 ex => ?_⟩
  have ex2 := hT x9 ex
  subst ex2
  intro n
  exact s_X12_holdersOf_j52 hG hf hK
theorem s_X12_holdersOf_e {G : Gl} (hG : G.1.stackTraces = false) {C : Cx} {n : Nat} {μ : Mem} {p1 : Int32} {r : Int32} (hf : f_X12_holdersOf μ p1 = some r) (hK : FinR G C F_X12_holdersOf (some .int) (some (.int r)) μ) : V G C F_X12_holdersOf 0 [some (.ref (G.2.1 + 264)), some (.int p1), none, none] [] (pic G μ) n 0 0 := by
  unfold f_X12_holdersOf at hf
  refine V_iconst (v := 0) d_X12_holdersOf_0 ic_0 ?_
  refine V_istore_n (ls' := [_, _, _, _]) d_X12_holdersOf_1 rfl rfl rfl ?_
  refine V_iconst (v := 0) d_X12_holdersOf_2 ic_0 ?_
  refine V_istore_n (ls' := [_, _, _, _]) d_X12_holdersOf_3 rfl rfl rfl ?_
  refine V_less (ls' := [some _, some _, some _, some _]) ⟨rfl, rfl, rfl, rfl, trivial⟩ ?_
  exact s_X12_holdersOf_l4 hG hf hK
theorem s_X12_holdersOf {G : Gl} (hG : G.1.stackTraces = false) {μ : Mem} {p1 : Int32} {r : Int32} (hf : f_X12_holdersOf μ p1 = some r) : Rt G yX12_holdersOf F_X12_holdersOf (some .int) [.ref (G.2.1 + 264), .int p1] μ (some (.int r)) μ := fun n => Sd.of hG ⟨by decide +kernel, rfl, rfl⟩ rfl (Nat.le_of_ble_eq_true rfl) rfl (fun C hK => s_X12_holdersOf_e hG hf hK)
