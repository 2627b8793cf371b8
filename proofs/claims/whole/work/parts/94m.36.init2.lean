theorem d_X11_init_0 : decode cX11_init 0 = .ok (.aload_n 0, 1) := by decide +kernel
theorem d_X11_init_1 : decode cX11_init 1 = .ok (.invokespecial 1, 3) := by decide +kernel
theorem d_X11_init_4 : decode cX11_init 4 = .ok (.aload_n 0, 1) := by decide +kernel
theorem d_X11_init_5 : decode cX11_init 5 = .ok (.new 7, 3) := by decide +kernel
theorem d_X11_init_8 : decode cX11_init 8 = .ok (.dup, 1) := by decide +kernel
theorem d_X11_init_9 : decode cX11_init 9 = .ok (.invokespecial 9, 3) := by decide +kernel
theorem d_X11_init_12 : decode cX11_init 12 = .ok (.putfield 10, 3) := by decide +kernel
theorem d_X11_init_15 : decode cX11_init 15 = .ok (.aload_n 0, 1) := by decide +kernel
theorem d_X11_init_16 : decode cX11_init 16 = .ok (.new 16, 3) := by decide +kernel
theorem d_X11_init_19 : decode cX11_init 19 = .ok (.dup, 1) := by decide +kernel
theorem d_X11_init_20 : decode cX11_init 20 = .ok (.invokespecial 18, 3) := by decide +kernel
theorem d_X11_init_23 : decode cX11_init 23 = .ok (.putfield 19, 3) := by decide +kernel
theorem d_X11_init_26 : decode cX11_init 26 = .ok (.aload_n 0, 1) := by decide +kernel
theorem d_X11_init_27 : decode cX11_init 27 = .ok (.new 16, 3) := by decide +kernel
theorem d_X11_init_30 : decode cX11_init 30 = .ok (.dup, 1) := by decide +kernel
theorem d_X11_init_31 : decode cX11_init 31 = .ok (.invokespecial 18, 3) := by decide +kernel
theorem d_X11_init_34 : decode cX11_init 34 = .ok (.putfield 23, 3) := by decide +kernel
theorem d_X11_init_37 : decode cX11_init 37 = .ok (.aload_n 0, 1) := by decide +kernel
theorem d_X11_init_38 : decode cX11_init 38 = .ok (.new 16, 3) := by decide +kernel
theorem d_X11_init_41 : decode cX11_init 41 = .ok (.dup, 1) := by decide +kernel
theorem d_X11_init_42 : decode cX11_init 42 = .ok (.invokespecial 18, 3) := by decide +kernel
theorem d_X11_init_45 : decode cX11_init 45 = .ok (.putfield 26, 3) := by decide +kernel
theorem d_X11_init_48 : decode cX11_init 48 = .ok (.aload_n 0, 1) := by decide +kernel
theorem d_X11_init_49 : decode cX11_init 49 = .ok (.new 29, 3) := by decide +kernel
theorem d_X11_init_52 : decode cX11_init 52 = .ok (.dup, 1) := by decide +kernel
theorem d_X11_init_53 : decode cX11_init 53 = .ok (.invokespecial 31, 3) := by decide +kernel
theorem d_X11_init_56 : decode cX11_init 56 = .ok (.putfield 32, 3) := by decide +kernel
theorem d_X11_init_59 : decode cX11_init 59 = .ok (.aload_n 0, 1) := by decide +kernel
theorem d_X11_init_60 : decode cX11_init 60 = .ok (.new 29, 3) := by decide +kernel
theorem d_X11_init_63 : decode cX11_init 63 = .ok (.dup, 1) := by decide +kernel
theorem d_X11_init_64 : decode cX11_init 64 = .ok (.invokespecial 31, 3) := by decide +kernel
theorem d_X11_init_67 : decode cX11_init 67 = .ok (.putfield 36, 3) := by decide +kernel
theorem d_X11_init_70 : decode cX11_init 70 = .ok (.aload_n 0, 1) := by decide +kernel
theorem d_X11_init_71 : decode cX11_init 71 = .ok (.new 29, 3) := by decide +kernel
theorem d_X11_init_74 : decode cX11_init 74 = .ok (.dup, 1) := by decide +kernel
theorem d_X11_init_75 : decode cX11_init 75 = .ok (.invokespecial 31, 3) := by decide +kernel
theorem d_X11_init_78 : decode cX11_init 78 = .ok (.putfield 39, 3) := by decide +kernel
theorem d_X11_init_81 : decode cX11_init 81 = .ok (.aload_n 0, 1) := by decide +kernel
theorem d_X11_init_82 : decode cX11_init 82 = .ok (.new 42, 3) := by decide +kernel
theorem d_X11_init_85 : decode cX11_init 85 = .ok (.dup, 1) := by decide +kernel
theorem d_X11_init_86 : decode cX11_init 86 = .ok (.aload_n 0, 1) := by decide +kernel
theorem d_X11_init_87 : decode cX11_init 87 = .ok (.getfield 10, 3) := by decide +kernel
theorem d_X11_init_90 : decode cX11_init 90 = .ok (.aload_n 0, 1) := by decide +kernel
theorem d_X11_init_91 : decode cX11_init 91 = .ok (.getfield 23, 3) := by decide +kernel
theorem d_X11_init_94 : decode cX11_init 94 = .ok (.invokespecial 44, 3) := by decide +kernel
theorem d_X11_init_97 : decode cX11_init 97 = .ok (.putfield 47, 3) := by decide +kernel
theorem d_X11_init_100 : decode cX11_init 100 = .ok (.aload_n 0, 1) := by decide +kernel
theorem d_X11_init_101 : decode cX11_init 101 = .ok (.new 51, 3) := by decide +kernel
theorem d_X11_init_104 : decode cX11_init 104 = .ok (.dup, 1) := by decide +kernel
theorem d_X11_init_105 : decode cX11_init 105 = .ok (.aload_n 0, 1) := by decide +kernel
theorem d_X11_init_106 : decode cX11_init 106 = .ok (.getfield 10, 3) := by decide +kernel
theorem d_X11_init_109 : decode cX11_init 109 = .ok (.aload_n 0, 1) := by decide +kernel
theorem d_X11_init_110 : decode cX11_init 110 = .ok (.getfield 36, 3) := by decide +kernel
theorem d_X11_init_113 : decode cX11_init 113 = .ok (.invokespecial 53, 3) := by decide +kernel
theorem d_X11_init_116 : decode cX11_init 116 = .ok (.putfield 56, 3) := by decide +kernel
theorem d_X11_init_119 : decode cX11_init 119 = .ok (.aload_n 0, 1) := by decide +kernel
theorem d_X11_init_120 : decode cX11_init 120 = .ok (.new 60, 3) := by decide +kernel
theorem d_X11_init_123 : decode cX11_init 123 = .ok (.dup, 1) := by decide +kernel
theorem d_X11_init_124 : decode cX11_init 124 = .ok (.invokespecial 62, 3) := by decide +kernel
theorem d_X11_init_127 : decode cX11_init 127 = .ok (.putfield 63, 3) := by decide +kernel
theorem d_X11_init_130 : decode cX11_init 130 = .ok (.aload_n 0, 1) := by decide +kernel
theorem d_X11_init_131 : decode cX11_init 131 = .ok (.new 67, 3) := by decide +kernel
theorem d_X11_init_134 : decode cX11_init 134 = .ok (.dup, 1) := by decide +kernel
theorem d_X11_init_135 : decode cX11_init 135 = .ok (.invokespecial 69, 3) := by decide +kernel
theorem d_X11_init_138 : decode cX11_init 138 = .ok (.putfield 70, 3) := by decide +kernel
theorem d_X11_init_141 : decode cX11_init 141 = .ok (.aload_n 0, 1) := by decide +kernel
theorem d_X11_init_142 : decode cX11_init 142 = .ok (.new 74, 3) := by decide +kernel
theorem d_X11_init_145 : decode cX11_init 145 = .ok (.dup, 1) := by decide +kernel
theorem d_X11_init_146 : decode cX11_init 146 = .ok (.invokespecial 76, 3) := by decide +kernel
theorem d_X11_init_149 : decode cX11_init 149 = .ok (.putfield 77, 3) := by decide +kernel
theorem d_X11_init_152 : decode cX11_init 152 = .ok (.aload_n 0, 1) := by decide +kernel
theorem d_X11_init_153 : decode cX11_init 153 = .ok (.new 81, 3) := by decide +kernel
theorem d_X11_init_156 : decode cX11_init 156 = .ok (.dup, 1) := by decide +kernel
theorem d_X11_init_157 : decode cX11_init 157 = .ok (.aload_n 0, 1) := by decide +kernel
theorem d_X11_init_158 : decode cX11_init 158 = .ok (.getfield 10, 3) := by decide +kernel
theorem d_X11_init_161 : decode cX11_init 161 = .ok (.invokespecial 83, 3) := by decide +kernel
theorem d_X11_init_164 : decode cX11_init 164 = .ok (.putfield 86, 3) := by decide +kernel
theorem d_X11_init_167 : decode cX11_init 167 = .ok (.aload_n 0, 1) := by decide +kernel
theorem d_X11_init_168 : decode cX11_init 168 = .ok (.iconst 0, 1) := by decide +kernel
theorem d_X11_init_169 : decode cX11_init 169 = .ok (.putfield 90, 3) := by decide +kernel
theorem d_X11_init_172 : decode cX11_init 172 = .ok (.return_, 1) := by decide +kernel
def ar_X11 (G : Gl) (j : Nat) : va_E := (pic G mu0 (j + 1)).getD (.inr (0, []))
theorem acts_conv {G : Gl} {h : Hm} {fs fs' : List Value} {k : Nat} (hk : k = 73 := by rfl) : ∀ b e, stg h 0 11 fs' 255 (ar_X11 G) b = some e → ∃ e', hup (actP G (stg h 0 11 fs k (ar_X11 G)) [.ref (G.2.1 + 75), .int 0, .int 0] 12 true) 0 (.inr (11, fs')) b = some e' ∧ ∀ H, va_at (gD G) classes (G.2.1 + b, e') H → va_at (gD G) classes (G.2.1 + b, e) H := by
  intro b e hb
  subst hk
  unfold hup
  by_cases h1 : b = 0
  · subst h1
    exact ⟨_, rfl, by rw [← Option.some.inj hb]; exact fun H h9 => h9⟩
  · rw [if_neg h1]
    unfold stg at hb
    rw [if_neg h1] at hb
    by_cases h2 : 0 < b ∧ b < 0 + 1 + 255
    · rw [if_pos h2] at hb
      by_cases h3 : b = 75
      · subst h3
        refine ⟨_, rfl, fun H h9 => ?_⟩
        rw [← Option.some.inj hb]
        have h8 : H[G.2.1 + 75]? = some (vp_cell _ _) := h9
        show H[G.2.1 + 75]? = some (vp_cell _ _)
        rw [h8]
        congr 1
      · refine ⟨e, ?_, fun H h9 => h9⟩
        unfold actP
        by_cases h4 : b = 74
        · subst h4
          rw [if_pos rfl, ← hb]
          rfl
        · rw [if_neg h4, if_neg h3]
          have hp : some (ar_X11 G (b - 1)) = pic G mu0 b := by
            unfold ar_X11
            rw [show b - 1 + 1 = b by omega]
            have hk9 : b < 276 := by omega
            have hl9 : kdL.length = 276 := by decide +kernel
            obtain ⟨q, hq⟩ : ∃ q, kdL[b]? = some q := ⟨_, List.getElem?_eq_getElem (by omega)⟩
            rw [pic_at hq]
            rfl
          by_cases h5 : b < 74
          · rw [if_pos h5]
            unfold stg
            rw [if_neg h1, if_pos (by omega)]
            exact hb
          · rw [if_neg h5, if_pos (by omega), ← hp]
            exact hb
    · rw [if_neg h2, if_neg (by omega)] at hb
      cases hb
theorem s_X11_init {G : Gl} (hG : G.1.stackTraces = false) {h : Hm} : Sd G yX11_init F_X11_init (.code yX11_init F_X11_init.2.1 F_X11_init.2.2.1 none) [.ref (G.2.1 + 0)] (stg h 0 11 [.null, .null, .null, .null, .null, .null, .null, .null, .null, .null, .null, .null, .null, .int 0] 0 (ar_X11 G)) 1 (fun r9 h9 n9 => r9 = none ∧ h9 = stg h 0 11 [.ref (G.2.1 + (0 + 1 + 0)), .ref (G.2.1 + (0 + 1 + 2)), .ref (G.2.1 + (0 + 1 + 17)), .ref (G.2.1 + (0 + 1 + 32)), .ref (G.2.1 + (0 + 1 + 47)), .ref (G.2.1 + (0 + 1 + 55)), .ref (G.2.1 + (0 + 1 + 63)), .ref (G.2.1 + (0 + 1 + 71)), .ref (G.2.1 + (0 + 1 + 72)), .ref (G.2.1 + (0 + 1 + 73)), .ref (G.2.1 + (0 + 1 + 255)), .ref (G.2.1 + (0 + 1 + 258)), .ref (G.2.1 + (0 + 1 + 261)), .int 0] 263 (ar_X11 G) ∧ n9 = 264) (fun _ _ _ => False) := Sd.ofI hG ⟨by decide +kernel, rfl, rfl⟩ rfl rfl (Nat.le_of_ble_eq_true rfl) rfl (fun C hK hI => by
  refine V_n (n' := 0 + 1 + 0) rfl ?_
  refine V_aload_n d_X11_init_0 rfl rfl ?_
  refine V_objI w_34 w_35 w_36 d_X11_init_1 (Nat.le_of_ble_eq_true rfl) ?_
  refine V_aload_n d_X11_init_4 rfl rfl ?_
  refine V_n (n' := 0 + 1 + 0) rfl ?_
  refine V_new nw_RX11_7 d_X11_init_5 (Nat.le_of_ble_eq_true rfl) (Nat.le_of_ble_eq_true rfl) ?_
  refine V_dup d_X11_init_8 rfl ?_
  refine V_sub (stg_obj (arj := (ar_X8_init G))) ?_
  refine V_callIN (As := []) (s_X8_init hG) m_X8_init ⟨⟨"LaceBonds", List.mem_of_getElem? (i := 0) rfl⟩, w_40⟩ rfl d_X11_init_9 rfl (Nat.le_of_ble_eq_true rfl) ⟨Nat.le_of_ble_eq_true rfl, Nat.le_of_ble_eq_true rfl, Nat.le_of_ble_eq_true rfl⟩ (fun r9 h9 n9 q9 => ?_)
  obtain ⟨rfl, rfl, rfl⟩ := q9
  have har0 : ∀ j, j < 1 → ar_X11 G (0 + 1 + j) = (ar_X8_init G) j := fun j hj => by
    rcases (show j = 0 by omega) with rfl
    · rfl
  refine CI_end (st := []) (k := 0) (mj := 1) hI rfl har0 fl_RX11_10 pf_RX11_11_0 d_X11_init_12 rfl rfl (Nat.le_of_ble_eq_true rfl) ?_
  refine V_aload_n d_X11_init_15 rfl rfl ?_
  refine V_n (n' := 0 + 1 + 2) rfl ?_
  refine V_new nw_RX11_16 d_X11_init_16 (Nat.le_of_ble_eq_true rfl) (Nat.le_of_ble_eq_true rfl) ?_
  refine V_dup d_X11_init_19 rfl ?_
  refine V_sub (stg_obj (arj := (ar_X2_init G (0 + 1 + 2)))) ?_
  refine V_callIN (As := []) (s_X2_init hG) m_X2_init ⟨⟨"LaceBonds", List.mem_of_getElem? (i := 1) rfl⟩, w_70⟩ rfl d_X11_init_20 rfl (Nat.le_of_ble_eq_true rfl) ⟨Nat.le_of_ble_eq_true rfl, Nat.le_of_ble_eq_true rfl, Nat.le_of_ble_eq_true rfl⟩ (fun r9 h9 n9 q9 => ?_)
  obtain ⟨rfl, rfl, rfl⟩ := q9
  have har2 : ∀ j, j < 14 → ar_X11 G (2 + 1 + j) = (ar_X2_init G (0 + 1 + 2)) j := fun j hj => by
    rcases (show j = 0 ∨ j = 1 ∨ j = 2 ∨ j = 3 ∨ j = 4 ∨ j = 5 ∨ j = 6 ∨ j = 7 ∨ j = 8 ∨ j = 9 ∨ j = 10 ∨ j = 11 ∨ j = 12 ∨ j = 13 by omega) with rfl | rfl | rfl | rfl | rfl | rfl | rfl | rfl | rfl | rfl | rfl | rfl | rfl | rfl
    · rfl
    · rfl
    · rfl
    · rfl
    · rfl
    · rfl
    · rfl
    · rfl
    · rfl
    · rfl
    · rfl
    · rfl
    · rfl
    · rfl
  refine CI_end (st := []) (k := 2) (mj := 14) hI rfl har2 fl_RX11_19 pf_RX11_11_1 d_X11_init_23 rfl rfl (Nat.le_of_ble_eq_true rfl) ?_
  refine V_aload_n d_X11_init_26 rfl rfl ?_
  refine V_n (n' := 0 + 1 + 17) rfl ?_
  refine V_new nw_RX11_16 d_X11_init_27 (Nat.le_of_ble_eq_true rfl) (Nat.le_of_ble_eq_true rfl) ?_
  refine V_dup d_X11_init_30 rfl ?_
  refine V_sub (stg_obj (arj := (ar_X2_init G (0 + 1 + 17)))) ?_
  refine V_callIN (As := []) (s_X2_init hG) m_X2_init ⟨⟨"LaceBonds", List.mem_of_getElem? (i := 1) rfl⟩, w_70⟩ rfl d_X11_init_31 rfl (Nat.le_of_ble_eq_true rfl) ⟨Nat.le_of_ble_eq_true rfl, Nat.le_of_ble_eq_true rfl, Nat.le_of_ble_eq_true rfl⟩ (fun r9 h9 n9 q9 => ?_)
  obtain ⟨rfl, rfl, rfl⟩ := q9
  have har17 : ∀ j, j < 14 → ar_X11 G (17 + 1 + j) = (ar_X2_init G (0 + 1 + 17)) j := fun j hj => by
    rcases (show j = 0 ∨ j = 1 ∨ j = 2 ∨ j = 3 ∨ j = 4 ∨ j = 5 ∨ j = 6 ∨ j = 7 ∨ j = 8 ∨ j = 9 ∨ j = 10 ∨ j = 11 ∨ j = 12 ∨ j = 13 by omega) with rfl | rfl | rfl | rfl | rfl | rfl | rfl | rfl | rfl | rfl | rfl | rfl | rfl | rfl
    · rfl
    · rfl
    · rfl
    · rfl
    · rfl
    · rfl
    · rfl
    · rfl
    · rfl
    · rfl
    · rfl
    · rfl
    · rfl
    · rfl
  refine CI_end (st := []) (k := 17) (mj := 14) hI rfl har17 fl_RX11_23 pf_RX11_11_2 d_X11_init_34 rfl rfl (Nat.le_of_ble_eq_true rfl) ?_
  refine V_aload_n d_X11_init_37 rfl rfl ?_
  refine V_n (n' := 0 + 1 + 32) rfl ?_
  refine V_new nw_RX11_16 d_X11_init_38 (Nat.le_of_ble_eq_true rfl) (Nat.le_of_ble_eq_true rfl) ?_
  refine V_dup d_X11_init_41 rfl ?_
  refine V_sub (stg_obj (arj := (ar_X2_init G (0 + 1 + 32)))) ?_
  refine V_callIN (As := []) (s_X2_init hG) m_X2_init ⟨⟨"LaceBonds", List.mem_of_getElem? (i := 1) rfl⟩, w_70⟩ rfl d_X11_init_42 rfl (Nat.le_of_ble_eq_true rfl) ⟨Nat.le_of_ble_eq_true rfl, Nat.le_of_ble_eq_true rfl, Nat.le_of_ble_eq_true rfl⟩ (fun r9 h9 n9 q9 => ?_)
  obtain ⟨rfl, rfl, rfl⟩ := q9
  have har32 : ∀ j, j < 14 → ar_X11 G (32 + 1 + j) = (ar_X2_init G (0 + 1 + 32)) j := fun j hj => by
    rcases (show j = 0 ∨ j = 1 ∨ j = 2 ∨ j = 3 ∨ j = 4 ∨ j = 5 ∨ j = 6 ∨ j = 7 ∨ j = 8 ∨ j = 9 ∨ j = 10 ∨ j = 11 ∨ j = 12 ∨ j = 13 by omega) with rfl | rfl | rfl | rfl | rfl | rfl | rfl | rfl | rfl | rfl | rfl | rfl | rfl | rfl
    · rfl
    · rfl
    · rfl
    · rfl
    · rfl
    · rfl
    · rfl
    · rfl
    · rfl
    · rfl
    · rfl
    · rfl
    · rfl
    · rfl
  refine CI_end (st := []) (k := 32) (mj := 14) hI rfl har32 fl_RX11_26 pf_RX11_11_3 d_X11_init_45 rfl rfl (Nat.le_of_ble_eq_true rfl) ?_
  refine V_aload_n d_X11_init_48 rfl rfl ?_
  refine V_n (n' := 0 + 1 + 47) rfl ?_
  refine V_new nw_RX11_29 d_X11_init_49 (Nat.le_of_ble_eq_true rfl) (Nat.le_of_ble_eq_true rfl) ?_
  refine V_dup d_X11_init_52 rfl ?_
  refine V_sub (stg_obj (arj := (ar_X4_init G))) ?_
  refine V_callIN (As := []) (s_X4_init hG) m_X4_init ⟨⟨"LaceBonds", List.mem_of_getElem? (i := 2) rfl⟩, w_184⟩ rfl d_X11_init_53 rfl (Nat.le_of_ble_eq_true rfl) ⟨Nat.le_of_ble_eq_true rfl, Nat.le_of_ble_eq_true rfl, Nat.le_of_ble_eq_true rfl⟩ (fun r9 h9 n9 q9 => ?_)
  obtain ⟨rfl, rfl, rfl⟩ := q9
  have har47 : ∀ j, j < 7 → ar_X11 G (47 + 1 + j) = (ar_X4_init G) j := fun j hj => by
    rcases (show j = 0 ∨ j = 1 ∨ j = 2 ∨ j = 3 ∨ j = 4 ∨ j = 5 ∨ j = 6 by omega) with rfl | rfl | rfl | rfl | rfl | rfl | rfl
    · rfl
    · rfl
    · rfl
    · rfl
    · rfl
    · rfl
    · rfl
  refine CI_end (st := []) (k := 47) (mj := 7) hI rfl har47 fl_RX11_32 pf_RX11_11_4 d_X11_init_56 rfl rfl (Nat.le_of_ble_eq_true rfl) ?_
  refine V_aload_n d_X11_init_59 rfl rfl ?_
  refine V_n (n' := 0 + 1 + 55) rfl ?_
  refine V_new nw_RX11_29 d_X11_init_60 (Nat.le_of_ble_eq_true rfl) (Nat.le_of_ble_eq_true rfl) ?_
  refine V_dup d_X11_init_63 rfl ?_
  refine V_sub (stg_obj (arj := (ar_X4_init G))) ?_
  refine V_callIN (As := []) (s_X4_init hG) m_X4_init ⟨⟨"LaceBonds", List.mem_of_getElem? (i := 2) rfl⟩, w_184⟩ rfl d_X11_init_64 rfl (Nat.le_of_ble_eq_true rfl) ⟨Nat.le_of_ble_eq_true rfl, Nat.le_of_ble_eq_true rfl, Nat.le_of_ble_eq_true rfl⟩ (fun r9 h9 n9 q9 => ?_)
  obtain ⟨rfl, rfl, rfl⟩ := q9
  have har55 : ∀ j, j < 7 → ar_X11 G (55 + 1 + j) = (ar_X4_init G) j := fun j hj => by
    rcases (show j = 0 ∨ j = 1 ∨ j = 2 ∨ j = 3 ∨ j = 4 ∨ j = 5 ∨ j = 6 by omega) with rfl | rfl | rfl | rfl | rfl | rfl | rfl
    · rfl
    · rfl
    · rfl
    · rfl
    · rfl
    · rfl
    · rfl
  refine CI_end (st := []) (k := 55) (mj := 7) hI rfl har55 fl_RX11_36 pf_RX11_11_5 d_X11_init_67 rfl rfl (Nat.le_of_ble_eq_true rfl) ?_
  refine V_aload_n d_X11_init_70 rfl rfl ?_
  refine V_n (n' := 0 + 1 + 63) rfl ?_
  refine V_new nw_RX11_29 d_X11_init_71 (Nat.le_of_ble_eq_true rfl) (Nat.le_of_ble_eq_true rfl) ?_
  refine V_dup d_X11_init_74 rfl ?_
  refine V_sub (stg_obj (arj := (ar_X4_init G))) ?_
  refine V_callIN (As := []) (s_X4_init hG) m_X4_init ⟨⟨"LaceBonds", List.mem_of_getElem? (i := 2) rfl⟩, w_184⟩ rfl d_X11_init_75 rfl (Nat.le_of_ble_eq_true rfl) ⟨Nat.le_of_ble_eq_true rfl, Nat.le_of_ble_eq_true rfl, Nat.le_of_ble_eq_true rfl⟩ (fun r9 h9 n9 q9 => ?_)
  obtain ⟨rfl, rfl, rfl⟩ := q9
  have har63 : ∀ j, j < 7 → ar_X11 G (63 + 1 + j) = (ar_X4_init G) j := fun j hj => by
    rcases (show j = 0 ∨ j = 1 ∨ j = 2 ∨ j = 3 ∨ j = 4 ∨ j = 5 ∨ j = 6 by omega) with rfl | rfl | rfl | rfl | rfl | rfl | rfl
    · rfl
    · rfl
    · rfl
    · rfl
    · rfl
    · rfl
    · rfl
  refine CI_end (st := []) (k := 63) (mj := 7) hI rfl har63 fl_RX11_39 pf_RX11_11_6 d_X11_init_78 rfl rfl (Nat.le_of_ble_eq_true rfl) ?_
  refine V_aload_n d_X11_init_81 rfl rfl ?_
  refine V_n (n' := 0 + 1 + 71) rfl ?_
  refine V_new nw_RX11_42 d_X11_init_82 (Nat.le_of_ble_eq_true rfl) (Nat.le_of_ble_eq_true rfl) ?_
  refine V_dup d_X11_init_85 rfl ?_
  refine V_aload_n d_X11_init_86 rfl rfl ?_
  refine V_get (ci := 11) (i := 0) (v := .ref (G.2.1 + (0 + 1 + 0))) fl_RX11_10 d_X11_init_87 (hup_stg_at (k := 71)) rfl ?_
  refine V_aload_n d_X11_init_90 rfl rfl ?_
  refine V_get (ci := 11) (i := 2) (v := .ref (G.2.1 + (0 + 1 + 17))) fl_RX11_23 d_X11_init_91 (hup_stg_at (k := 71)) rfl ?_
  refine V_sub (stg_obj (arj := (ar_X11 G))) ?_
  refine V_callI (As := [.ref (G.2.1 + (0 + 1 + 0)), .ref (G.2.1 + (0 + 1 + 17))]) (s_X3_init hG) m_X3_init ⟨w_223, w_224⟩ rfl d_X11_init_94 rfl (Nat.le_of_ble_eq_true rfl) ⟨Nat.le_of_ble_eq_true rfl, Nat.le_of_ble_eq_true rfl, Nat.le_of_ble_eq_true rfl⟩ (fun r9 h9 n9 q9 => ?_)
  obtain ⟨rfl, rfl, rfl⟩ := q9
  have har71 : ∀ j, j < 0 → ar_X11 G (71 + 1 + j) = (ar_X11 G) j := fun j hj => absurd hj (by omega)
  refine CI_end (st := []) (k := 71) (mj := 0) hI rfl har71 fl_RX11_47 pf_RX11_11_7 d_X11_init_97 rfl rfl (Nat.le_of_ble_eq_true rfl) ?_
  refine V_aload_n d_X11_init_100 rfl rfl ?_
  refine V_n (n' := 0 + 1 + 72) rfl ?_
  refine V_new nw_RX11_51 d_X11_init_101 (Nat.le_of_ble_eq_true rfl) (Nat.le_of_ble_eq_true rfl) ?_
  refine V_dup d_X11_init_104 rfl ?_
  refine V_aload_n d_X11_init_105 rfl rfl ?_
  refine V_get (ci := 11) (i := 0) (v := .ref (G.2.1 + (0 + 1 + 0))) fl_RX11_10 d_X11_init_106 (hup_stg_at (k := 72)) rfl ?_
  refine V_aload_n d_X11_init_109 rfl rfl ?_
  refine V_get (ci := 11) (i := 5) (v := .ref (G.2.1 + (0 + 1 + 55))) fl_RX11_36 d_X11_init_110 (hup_stg_at (k := 72)) rfl ?_
  refine V_sub (stg_obj (arj := (ar_X11 G))) ?_
  refine V_callI (As := [.ref (G.2.1 + (0 + 1 + 0)), .ref (G.2.1 + (0 + 1 + 55))]) (s_X5_init hG) m_X5_init ⟨w_246, w_247⟩ rfl d_X11_init_113 rfl (Nat.le_of_ble_eq_true rfl) ⟨Nat.le_of_ble_eq_true rfl, Nat.le_of_ble_eq_true rfl, Nat.le_of_ble_eq_true rfl⟩ (fun r9 h9 n9 q9 => ?_)
  obtain ⟨rfl, rfl, rfl⟩ := q9
  have har72 : ∀ j, j < 0 → ar_X11 G (72 + 1 + j) = (ar_X11 G) j := fun j hj => absurd hj (by omega)
  refine CI_end (st := []) (k := 72) (mj := 0) hI rfl har72 fl_RX11_56 pf_RX11_11_8 d_X11_init_116 rfl rfl (Nat.le_of_ble_eq_true rfl) ?_
  refine V_aload_n d_X11_init_119 rfl rfl ?_
  refine V_n (n' := 0 + 1 + 73) rfl ?_
  refine V_new nw_RX11_60 d_X11_init_120 (Nat.le_of_ble_eq_true rfl) (Nat.le_of_ble_eq_true rfl) ?_
  refine V_dup d_X11_init_123 rfl ?_
  refine V_sub (stg_obj (arj := (ar_X11 G))) ?_
  refine V_callI (As := []) (s_X0_init hG) m_X0_init ⟨w_258, w_259⟩ rfl d_X11_init_124 rfl (Nat.le_of_ble_eq_true rfl) ⟨Nat.le_of_ble_eq_true rfl, Nat.le_of_ble_eq_true rfl, Nat.le_of_ble_eq_true rfl⟩ (fun r9 h9 n9 q9 => ?_)
  obtain ⟨rfl, rfl, rfl⟩ := q9
  refine V_putF (st := []) (a := 0) (ci := 11) (i := 9) hI fl_RX11_63 pf_RX11_11_9 d_X11_init_127 rfl rfl (show actP G _ _ 12 true 0 = _ from rfl) (Nat.le_of_ble_eq_true rfl) ?_
  refine V_conv (h' := stg h 0 11 _ 255 (ar_X11 G)) (acts_conv (k := 73)) ?_
  refine V_aload_n d_X11_init_130 rfl rfl ?_
  refine V_n (n' := 0 + 1 + 255) rfl ?_
  refine V_new nw_RX11_67 d_X11_init_131 (Nat.le_of_ble_eq_true rfl) (Nat.le_of_ble_eq_true rfl) ?_
  refine V_dup d_X11_init_134 rfl ?_
  refine V_sub (stg_obj (arj := (ar_X7_init G))) ?_
  refine V_callIN (As := []) (s_X7_init hG) m_X7_init ⟨⟨"LaceBonds", List.mem_of_getElem? (i := 3) rfl⟩, w_279⟩ rfl d_X11_init_135 rfl (Nat.le_of_ble_eq_true rfl) ⟨Nat.le_of_ble_eq_true rfl, Nat.le_of_ble_eq_true rfl, Nat.le_of_ble_eq_true rfl⟩ (fun r9 h9 n9 q9 => ?_)
  obtain ⟨rfl, rfl, rfl⟩ := q9
  have har255 : ∀ j, j < 2 → ar_X11 G (255 + 1 + j) = (ar_X7_init G) j := fun j hj => by
    rcases (show j = 0 ∨ j = 1 by omega) with rfl | rfl
    · rfl
    · rfl
  refine CI_end (st := []) (k := 255) (mj := 2) hI rfl har255 fl_RX11_70 pf_RX11_11_10 d_X11_init_138 rfl rfl (Nat.le_of_ble_eq_true rfl) ?_
  refine V_aload_n d_X11_init_141 rfl rfl ?_
  refine V_n (n' := 0 + 1 + 258) rfl ?_
  refine V_new nw_RX11_74 d_X11_init_142 (Nat.le_of_ble_eq_true rfl) (Nat.le_of_ble_eq_true rfl) ?_
  refine V_dup d_X11_init_145 rfl ?_
  refine V_sub (stg_obj (arj := (ar_X9_init G))) ?_
  refine V_callIN (As := []) (s_X9_init hG) m_X9_init ⟨⟨"LaceBonds", List.mem_of_getElem? (i := 4) rfl⟩, w_300⟩ rfl d_X11_init_146 rfl (Nat.le_of_ble_eq_true rfl) ⟨Nat.le_of_ble_eq_true rfl, Nat.le_of_ble_eq_true rfl, Nat.le_of_ble_eq_true rfl⟩ (fun r9 h9 n9 q9 => ?_)
  obtain ⟨rfl, rfl, rfl⟩ := q9
  have har258 : ∀ j, j < 2 → ar_X11 G (258 + 1 + j) = (ar_X9_init G) j := fun j hj => by
    rcases (show j = 0 ∨ j = 1 by omega) with rfl | rfl
    · rfl
    · rfl
  refine CI_end (st := []) (k := 258) (mj := 2) hI rfl har258 fl_RX11_77 pf_RX11_11_11 d_X11_init_149 rfl rfl (Nat.le_of_ble_eq_true rfl) ?_
  refine V_aload_n d_X11_init_152 rfl rfl ?_
  refine V_n (n' := 0 + 1 + 261) rfl ?_
  refine V_new nw_RX11_81 d_X11_init_153 (Nat.le_of_ble_eq_true rfl) (Nat.le_of_ble_eq_true rfl) ?_
  refine V_dup d_X11_init_156 rfl ?_
  refine V_aload_n d_X11_init_157 rfl rfl ?_
  refine V_get (ci := 11) (i := 0) (v := .ref (G.2.1 + (0 + 1 + 0))) fl_RX11_10 d_X11_init_158 (hup_stg_at (k := 261)) rfl ?_
  refine V_sub (stg_obj (arj := (ar_X10_init G))) ?_
  refine V_callI (As := [.ref (G.2.1 + (0 + 1 + 0))]) (s_X10_init hG) m_X10_init ⟨w_315, w_316⟩ rfl d_X11_init_161 rfl (Nat.le_of_ble_eq_true rfl) ⟨Nat.le_of_ble_eq_true rfl, Nat.le_of_ble_eq_true rfl, Nat.le_of_ble_eq_true rfl⟩ (fun r9 h9 n9 q9 => ?_)
  obtain ⟨rfl, rfl, rfl⟩ := q9
  have har261 : ∀ j, j < 1 → ar_X11 G (261 + 1 + j) = (ar_X10_init G) j := fun j hj => by
    rcases (show j = 0 by omega) with rfl
    · rfl
  refine CI_end (st := []) (k := 261) (mj := 1) hI rfl har261 fl_RX11_86 pf_RX11_11_12 d_X11_init_164 rfl rfl (Nat.le_of_ble_eq_true rfl) ?_
  refine V_aload_n d_X11_init_167 rfl rfl ?_
  refine V_iconst (v := 0) d_X11_init_168 (by decide) ?_
  refine CI_put fl_RX11_90 pt_11_13 d_X11_init_169 rfl rfl (Nat.le_of_ble_eq_true rfl) ?_
  exact V_vret hK d_X11_init_172 (Nat.le_of_ble_eq_true rfl) (Nat.le_of_ble_eq_true rfl) ⟨rfl, rfl, rfl⟩)
def kdL2 : List (Nat × Nat) := kdL.take 275
theorem k2_264 : kdL2[264]? = some (0, 12) := by decide +kernel
theorem k2_265 : kdL2[265]? = some (1, 2068) := by decide +kernel
def pic2 (G : Gl) (μ : Mem) : Hm := fun a => (kdL2[a]?).map (fun q => cellOf G a q (μ a))
theorem pic2_at {G : Gl} {μ : Mem} {a : Nat} {q : Nat × Nat} (h : kdL2[a]? = some q) : pic2 G μ a = some (cellOf G a q (μ a)) := by unfold pic2; rw [h]; rfl
theorem pic2_put {G : Gl} {μ : Mem} {a i : Nat} {v : Int32} {q : Nat × Nat} {e : va_E} (h : kdL2[a]? = some q) (he : cellOf G a q (upd (μ a) i v) = e) : hup (pic2 G μ) a e = pic2 G (mset μ a i v) := by
  funext b
  unfold hup
  by_cases hb : b = a
  · subst hb
    rw [if_pos rfl, pic2_at h, ← he]
    unfold mset
    rw [if_pos rfl]
  · rw [if_neg hb]
    unfold pic2 mset
    rw [if_neg hb]

def Rt2 (G : Gl) (y : MethodName) (F : Fi) (ret : Option FieldType) (args : List Value) (μ : Mem) (r : Option Value) (μ' : Mem) : Prop := ∀ n, Sd G y F (.code y F.2.1 F.2.2.1 ret) args (pic2 G μ) n (fun r' h' _ => r' = r ∧ h' = pic2 G μ') (fun _ _ _ => False)
def FinR2 (G : Gl) (C : Cx) (F : Fi) (ret : Option FieldType) (r : Option Value) (μ : Mem) : Prop := Fin9 G C F ret (fun r' h' _ => r' = r ∧ h' = pic2 G μ) (fun _ _ _ => False)
section Rows2p
variable {G : Gl} {C : Cx} {F F' : Fi} {pc : Nat} {ls ls' : List (Option Value)} {st st0 : List Value} {μ μ' : Mem} {n kc ks : Nat}
theorem B2_get {idx ci i a : Nat} {v : Value} (hk : kdL2[a]? = some (0, ci)) (hf : Fl F.1 idx ci i) (hd : decode F.2.1 pc = .ok (.getfield idx, 3)) (hv : (flds G ci a (μ a))[i]? = some v) (k : V G C F (pc + 3) ls (v :: st) (pic2 G μ) n kc ks) : V G C F pc ls (.ref (G.2.1 + a) :: st) (pic2 G μ) n kc ks := V_get hf hd (pic2_at hk) hv k
theorem B2_iast {a len : Nat} {i v : Int32} (hk : kdL2[a]? = some (1, len)) (hv : wr μ a len i v = some μ') (hd : decode F.2.1 pc = .ok (.iastore, 1)) (k : V G C F (pc + 1) ls st (pic2 G μ') n kc ks) : V G C F pc ls (.int v :: .int i :: .ref (G.2.1 + a) :: st) (pic2 G μ) n kc ks := by
  obtain ⟨h1, h2⟩ := wr_some hv
  subst h2
  refine V_iast hd (pic2_at hk) h1 ?_
  rw [← pic2_put hk rfl] at k
  exact k
theorem B2_callV {y : MethodName} {ret : Option FieldType} {As : List Value} {idx a ci N : Nat} {T : u_T} {r : Option Value} (hM : Rt2 G y F' ret (.ref (G.2.1 + a) :: As) μ r μ') (hk : kdL2[a]? = some (0, ci)) (hc : classes[ci]? = some (y.cls, T, N)) (hm : LkM y F' (.code y F'.2.1 F'.2.2.1 ret) As.length) (hl : LkV F.1 idx y) (hd : decode F.2.1 pc = .ok (.invokevirtual idx, 3)) (hst : As.reverse ++ .ref (G.2.1 + a) :: st = st0) (hw : (st.map fun v => v.category).sum ≤ 8) (hz : F'.2.2.2.2.1 = 0 ∧ F'.2.2.2.2.2.1 = 0 ∧ kc ≤ F.2.2.2.2.1 ∧ ks ≤ F.2.2.2.2.2.1 ∧ F'.2.2.2.1 < F.2.2.2.1) (k : ∀ n', V G C F (pc + 3) ls (r.toList ++ st) (pic2 G μ') n' kc ks) : V G C F pc ls st0 (pic2 G μ) n kc ks := by
  obtain ⟨z1, z2, z3, z4, z5⟩ := hz
  refine V_callV (hM n) hm hl hc (pic2_at hk) hd hst hw ⟨z5, by rw [z1]; exact z3, by rw [z2]; exact z4⟩ (fun _ _ _ h => h.elim) (fun r' h' n' h9 => ?_)
  obtain ⟨rfl, rfl⟩ := h9
  rw [z1, z2]
  exact k n'
theorem B2_callS {y : MethodName} {ret : Option FieldType} {As : List Value} {idx : Nat} {r : Option Value} (hM : Rt2 G y F' ret As μ r μ') (hm : LkM y F' (.code y F'.2.1 F'.2.2.1 ret) As.length) (hl : LkS F.1 idx y) (hd : decode F.2.1 pc = .ok (.invokestatic idx, 3)) (hst : As.reverse ++ st = st0) (hw : (st.map fun v => v.category).sum ≤ 8) (hz : F'.2.2.2.2.1 = 0 ∧ F'.2.2.2.2.2.1 = 0 ∧ kc ≤ F.2.2.2.2.1 ∧ ks ≤ F.2.2.2.2.2.1 ∧ F'.2.2.2.1 < F.2.2.2.1) (k : ∀ n', V G C F (pc + 3) ls (r.toList ++ st) (pic2 G μ') n' kc ks) : V G C F pc ls st0 (pic2 G μ) n kc ks := by
  obtain ⟨z1, z2, z3, z4, z5⟩ := hz
  refine V_callS (hM n) hm hl hd hst hw ⟨z5, by rw [z1]; exact z3, by rw [z2]; exact z4⟩ (fun _ _ _ h => h.elim) (fun r' h' n' h9 => ?_)
  obtain ⟨rfl, rfl⟩ := h9
  rw [z1, z2]
  exact k n'
theorem R2_i {v : Int32} (hK : FinR2 G C F (some .int) (some (.int v)) μ) (hd : decode F.2.1 pc = .ok (.ireturn, 1)) (h1 : kc ≤ F.2.2.2.2.1) (h2 : ks ≤ F.2.2.2.2.2.1) : V G C F pc ls [.int v] (pic2 G μ) n kc ks := V_iret hK hd h1 h2 ⟨rfl, rfl⟩
theorem R2_v (hK : FinR2 G C F none none μ) (hd : decode F.2.1 pc = .ok (.return_, 1)) (h1 : kc ≤ F.2.2.2.2.1) (h2 : ks ≤ F.2.2.2.2.2.1) : V G C F pc ls [] (pic2 G μ) n kc ks := V_vret hK hd h1 h2 ⟨rfl, rfl⟩
theorem B2_callV1 {y : MethodName} {ret : Option FieldType} {As : List Value} {idx a ci N : Nat} {T : u_T} {r : Value} (hM : Rt2 G y F' ret (.ref (G.2.1 + a) :: As) μ (some r) μ') (hk : kdL2[a]? = some (0, ci)) (hc : classes[ci]? = some (y.cls, T, N)) (hm : LkM y F' (.code y F'.2.1 F'.2.2.1 ret) As.length) (hl : LkV F.1 idx y) (hd : decode F.2.1 pc = .ok (.invokevirtual idx, 3)) (hst : As.reverse ++ .ref (G.2.1 + a) :: st = st0) (hw : (st.map fun v => v.category).sum ≤ 8) (hz : F'.2.2.2.2.1 = 0 ∧ F'.2.2.2.2.2.1 = 0 ∧ kc ≤ F.2.2.2.2.1 ∧ ks ≤ F.2.2.2.2.2.1 ∧ F'.2.2.2.1 < F.2.2.2.1) (k : ∀ n', V G C F (pc + 3) ls (r :: st) (pic2 G μ') n' kc ks) : V G C F pc ls st0 (pic2 G μ) n kc ks := B2_callV hM hk hc hm hl hd hst hw hz k
theorem B2_callV0 {y : MethodName} {ret : Option FieldType} {As : List Value} {idx a ci N : Nat} {T : u_T} (hM : Rt2 G y F' ret (.ref (G.2.1 + a) :: As) μ none μ') (hk : kdL2[a]? = some (0, ci)) (hc : classes[ci]? = some (y.cls, T, N)) (hm : LkM y F' (.code y F'.2.1 F'.2.2.1 ret) As.length) (hl : LkV F.1 idx y) (hd : decode F.2.1 pc = .ok (.invokevirtual idx, 3)) (hst : As.reverse ++ .ref (G.2.1 + a) :: st = st0) (hw : (st.map fun v => v.category).sum ≤ 8) (hz : F'.2.2.2.2.1 = 0 ∧ F'.2.2.2.2.2.1 = 0 ∧ kc ≤ F.2.2.2.2.1 ∧ ks ≤ F.2.2.2.2.2.1 ∧ F'.2.2.2.1 < F.2.2.2.1) (k : ∀ n', V G C F (pc + 3) ls st (pic2 G μ') n' kc ks) : V G C F pc ls st0 (pic2 G μ) n kc ks := B2_callV hM hk hc hm hl hd hst hw hz k
theorem B2_callS1 {y : MethodName} {ret : Option FieldType} {As : List Value} {idx : Nat} {r : Value} (hM : Rt2 G y F' ret As μ (some r) μ') (hm : LkM y F' (.code y F'.2.1 F'.2.2.1 ret) As.length) (hl : LkS F.1 idx y) (hd : decode F.2.1 pc = .ok (.invokestatic idx, 3)) (hst : As.reverse ++ st = st0) (hw : (st.map fun v => v.category).sum ≤ 8) (hz : F'.2.2.2.2.1 = 0 ∧ F'.2.2.2.2.2.1 = 0 ∧ kc ≤ F.2.2.2.2.1 ∧ ks ≤ F.2.2.2.2.2.1 ∧ F'.2.2.2.1 < F.2.2.2.1) (k : ∀ n', V G C F (pc + 3) ls (r :: st) (pic2 G μ') n' kc ks) : V G C F pc ls st0 (pic2 G μ) n kc ks := B2_callS hM hm hl hd hst hw hz k
end Rows2p
theorem s2_X12_laceAt_e {G : Gl} (hG : G.1.stackTraces = false) {C : Cx} {n : Nat} {μ : Mem} {p0 : Int32} {p1 : Int32} {r : Int32} (hf : f_X12_laceAt μ p0 p1 = some r) (hK : FinR2 G C F_X12_laceAt (some .int) (some (.int r)) μ) : V G C F_X12_laceAt 0 [some (.int p0), some (.int p1)] [] (pic2 G μ) n 0 0 := by
  unfold f_X12_laceAt at hf
  refine V_bipush (v := 58) d_X12_laceAt_0 bp_58 ?_
  refine V_bipush (v := 6) d_X12_laceAt_2 bp_6 ?_
  refine V_iload_n d_X12_laceAt_4 rfl rfl ?_
  refine V_imul d_X12_laceAt_5 ?_
  refine V_iadd d_X12_laceAt_6 ?_
  refine V_iload_n d_X12_laceAt_7 rfl rfl ?_
  refine V_iadd d_X12_laceAt_8 ?_
  cases hf
  exact R2_i hK d_X12_laceAt_9 (Nat.le_of_ble_eq_true rfl) (Nat.le_of_ble_eq_true rfl)
theorem s2_X12_laceAt {G : Gl} (hG : G.1.stackTraces = false) {μ : Mem} {p0 : Int32} {p1 : Int32} {r : Int32} (hf : f_X12_laceAt μ p0 p1 = some r) : Rt2 G yX12_laceAt F_X12_laceAt (some .int) [.int p0, .int p1] μ (some (.int r)) μ := fun n => Sd.of hG ⟨by decide +kernel, rfl, rfl⟩ rfl (Nat.le_of_ble_eq_true rfl) rfl (fun C hK => s2_X12_laceAt_e hG hf hK)
theorem s2_X12_tellsLace_e {G : Gl} (hG : G.1.stackTraces = false) {C : Cx} {n : Nat} {μ : Mem} {p1 : Int32} {p2 : Int32} {p3 : Int32} {p4 : Int32} {p5 : Int32} {p6 : Int32} {r : Mem} (hf : f_X12_tellsLace μ p1 p2 p3 p4 p5 p6 = some r) (hK : FinR2 G C F_X12_tellsLace none none r) : V G C F_X12_tellsLace 0 [some (.ref (G.2.1 + 264)), some (.int p1), some (.int p2), some (.int p3), some (.int p4), some (.int p5), some (.int p6)] [] (pic2 G μ) n 0 0 := by
  unfold f_X12_tellsLace at hf
  refine V_aload_n d_X12_tellsLace_0 rfl rfl ?_
  refine B2_get k2_264 fl_RX12_13 d_X12_tellsLace_1 g_12_1 ?_
  refine V_iload_n d_X12_tellsLace_4 rfl rfl ?_
  refine V_iconst (v := 0) d_X12_tellsLace_5 ic_0 ?_
  obtain ⟨t1, ht1, hf⟩ := ob hf
  refine B2_callS1 (s2_X12_laceAt hG ht1) m_X12_laceAt ks_RX12_67 d_X12_tellsLace_6 rfl (Nat.le_of_ble_eq_true rfl) ⟨rfl, rfl, Nat.le_of_ble_eq_true rfl, Nat.le_of_ble_eq_true rfl, Nat.le_of_ble_eq_true rfl⟩ (fun n => ?_)
  refine V_iload_n d_X12_tellsLace_9 rfl rfl ?_
  obtain ⟨μ2, hμ2, hf⟩ := ob hf
  refine B2_iast k2_265 hμ2 d_X12_tellsLace_10 ?_
  refine V_aload_n d_X12_tellsLace_11 rfl rfl ?_
  refine B2_get k2_264 fl_RX12_13 d_X12_tellsLace_12 g_12_1 ?_
  refine V_iload_n d_X12_tellsLace_15 rfl rfl ?_
  refine V_iconst (v := 1) d_X12_tellsLace_16 ic_1 ?_
  obtain ⟨t3, ht3, hf⟩ := ob hf
  refine B2_callS1 (s2_X12_laceAt hG ht3) m_X12_laceAt ks_RX12_67 d_X12_tellsLace_17 rfl (Nat.le_of_ble_eq_true rfl) ⟨rfl, rfl, Nat.le_of_ble_eq_true rfl, Nat.le_of_ble_eq_true rfl, Nat.le_of_ble_eq_true rfl⟩ (fun n => ?_)
  refine V_iload_n d_X12_tellsLace_20 rfl rfl ?_
  obtain ⟨μ4, hμ4, hf⟩ := ob hf
  refine B2_iast k2_265 hμ4 d_X12_tellsLace_21 ?_
  refine V_aload_n d_X12_tellsLace_22 rfl rfl ?_
  refine B2_get k2_264 fl_RX12_13 d_X12_tellsLace_23 g_12_1 ?_
  refine V_iload_n d_X12_tellsLace_26 rfl rfl ?_
  refine V_iconst (v := 2) d_X12_tellsLace_27 ic_2 ?_
  obtain ⟨t5, ht5, hf⟩ := ob hf
  refine B2_callS1 (s2_X12_laceAt hG ht5) m_X12_laceAt ks_RX12_67 d_X12_tellsLace_28 rfl (Nat.le_of_ble_eq_true rfl) ⟨rfl, rfl, Nat.le_of_ble_eq_true rfl, Nat.le_of_ble_eq_true rfl, Nat.le_of_ble_eq_true rfl⟩ (fun n => ?_)
  refine V_iload d_X12_tellsLace_31 rfl ?_
  obtain ⟨μ6, hμ6, hf⟩ := ob hf
  refine B2_iast k2_265 hμ6 d_X12_tellsLace_33 ?_
  refine V_aload_n d_X12_tellsLace_34 rfl rfl ?_
  refine B2_get k2_264 fl_RX12_13 d_X12_tellsLace_35 g_12_1 ?_
  refine V_iload_n d_X12_tellsLace_38 rfl rfl ?_
  refine V_iconst (v := 3) d_X12_tellsLace_39 ic_3 ?_
  obtain ⟨t7, ht7, hf⟩ := ob hf
  refine B2_callS1 (s2_X12_laceAt hG ht7) m_X12_laceAt ks_RX12_67 d_X12_tellsLace_40 rfl (Nat.le_of_ble_eq_true rfl) ⟨rfl, rfl, Nat.le_of_ble_eq_true rfl, Nat.le_of_ble_eq_true rfl, Nat.le_of_ble_eq_true rfl⟩ (fun n => ?_)
  refine V_iload d_X12_tellsLace_43 rfl ?_
  obtain ⟨μ8, hμ8, hf⟩ := ob hf
  refine B2_iast k2_265 hμ8 d_X12_tellsLace_45 ?_
  refine V_aload_n d_X12_tellsLace_46 rfl rfl ?_
  refine B2_get k2_264 fl_RX12_13 d_X12_tellsLace_47 g_12_1 ?_
  refine V_iload_n d_X12_tellsLace_50 rfl rfl ?_
  refine V_iconst (v := 4) d_X12_tellsLace_51 ic_4 ?_
  obtain ⟨t9, ht9, hf⟩ := ob hf
  refine B2_callS1 (s2_X12_laceAt hG ht9) m_X12_laceAt ks_RX12_67 d_X12_tellsLace_52 rfl (Nat.le_of_ble_eq_true rfl) ⟨rfl, rfl, Nat.le_of_ble_eq_true rfl, Nat.le_of_ble_eq_true rfl, Nat.le_of_ble_eq_true rfl⟩ (fun n => ?_)
  refine V_iload d_X12_tellsLace_55 rfl ?_
  obtain ⟨μ10, hμ10, hf⟩ := ob hf
  refine B2_iast k2_265 hμ10 d_X12_tellsLace_57 ?_
  refine V_aload_n d_X12_tellsLace_58 rfl rfl ?_
  refine B2_get k2_264 fl_RX12_13 d_X12_tellsLace_59 g_12_1 ?_
  refine V_iload_n d_X12_tellsLace_62 rfl rfl ?_
  refine V_iconst (v := 5) d_X12_tellsLace_63 ic_5 ?_
  obtain ⟨t11, ht11, hf⟩ := ob hf
  refine B2_callS1 (s2_X12_laceAt hG ht11) m_X12_laceAt ks_RX12_67 d_X12_tellsLace_64 rfl (Nat.le_of_ble_eq_true rfl) ⟨rfl, rfl, Nat.le_of_ble_eq_true rfl, Nat.le_of_ble_eq_true rfl, Nat.le_of_ble_eq_true rfl⟩ (fun n => ?_)
  refine V_iconst (v := (-1)) d_X12_tellsLace_67 ic_m1 ?_
  obtain ⟨μ12, hμ12, hf⟩ := ob hf
  refine B2_iast k2_265 hμ12 d_X12_tellsLace_68 ?_
  cases hf
  exact R2_v hK d_X12_tellsLace_69 (Nat.le_of_ble_eq_true rfl) (Nat.le_of_ble_eq_true rfl)
theorem s2_X12_tellsLace {G : Gl} (hG : G.1.stackTraces = false) {μ : Mem} {p1 : Int32} {p2 : Int32} {p3 : Int32} {p4 : Int32} {p5 : Int32} {p6 : Int32} {r : Mem} (hf : f_X12_tellsLace μ p1 p2 p3 p4 p5 p6 = some r) : Rt2 G yX12_tellsLace F_X12_tellsLace none [.ref (G.2.1 + 264), .int p1, .int p2, .int p3, .int p4, .int p5, .int p6] μ none r := fun n => Sd.of hG ⟨by decide +kernel, rfl, rfl⟩ rfl (Nat.le_of_ble_eq_true rfl) rfl (fun C hK => s2_X12_tellsLace_e hG hf hK)
theorem s2_X12_comesBack_e {G : Gl} (hG : G.1.stackTraces = false) {C : Cx} {n : Nat} {μ : Mem} {p1 : Int32} {r : Mem} (hf : f_X12_comesBack μ p1 = some r) (hK : FinR2 G C F_X12_comesBack none none r) : V G C F_X12_comesBack 0 [some (.ref (G.2.1 + 264)), some (.int p1)] [] (pic2 G μ) n 0 0 := by
  unfold f_X12_comesBack at hf
  refine V_aload_n d_X12_comesBack_0 rfl rfl ?_
  refine V_iload_n d_X12_comesBack_1 rfl rfl ?_
  refine V_iconst (v := 0) d_X12_comesBack_2 ic_0 ?_
  refine V_iconst (v := (-1)) d_X12_comesBack_3 ic_m1 ?_
  refine V_iconst (v := 0) d_X12_comesBack_4 ic_0 ?_
  refine V_iconst (v := 0) d_X12_comesBack_5 ic_0 ?_
  refine V_iconst (v := 0) d_X12_comesBack_6 ic_0 ?_
  obtain ⟨q1, hq1, hf⟩ := ob hf
  refine B2_callV0 (s2_X12_tellsLace hG hq1) k2_264 clX12 m_X12_tellsLace kv_RX12_80 d_X12_comesBack_7 rfl (Nat.le_of_ble_eq_true rfl) ⟨rfl, rfl, Nat.le_of_ble_eq_true rfl, Nat.le_of_ble_eq_true rfl, Nat.le_of_ble_eq_true rfl⟩ (fun n => ?_)
  cases hf
  exact R2_v hK d_X12_comesBack_10 (Nat.le_of_ble_eq_true rfl) (Nat.le_of_ble_eq_true rfl)
theorem s2_X12_comesBack {G : Gl} (hG : G.1.stackTraces = false) {μ : Mem} {p1 : Int32} {r : Mem} (hf : f_X12_comesBack μ p1 = some r) : Rt2 G yX12_comesBack F_X12_comesBack none [.ref (G.2.1 + 264), .int p1] μ none r := fun n => Sd.of hG ⟨by decide +kernel, rfl, rfl⟩ rfl (Nat.le_of_ble_eq_true rfl) rfl (fun C hK => s2_X12_comesBack_e hG hf hK)
theorem d_X12_init_0 : decode cX12_init 0 = .ok (.aload_n 0, 1) := by decide +kernel
theorem d_X12_init_1 : decode cX12_init 1 = .ok (.invokespecial 7, 3) := by decide +kernel
theorem d_X12_init_4 : decode cX12_init 4 = .ok (.aload_n 0, 1) := by decide +kernel
theorem d_X12_init_5 : decode cX12_init 5 = .ok (.sipush 2068, 3) := by decide +kernel
theorem d_X12_init_8 : decode cX12_init 8 = .ok (.newarray .int, 2) := by decide +kernel
theorem d_X12_init_10 : decode cX12_init 10 = .ok (.putfield 13, 3) := by decide +kernel
theorem d_X12_init_13 : decode cX12_init 13 = .ok (.aload_n 0, 1) := by decide +kernel
theorem d_X12_init_14 : decode cX12_init 14 = .ok (.sipush 1219, 3) := by decide +kernel
theorem d_X12_init_17 : decode cX12_init 17 = .ok (.newarray .int, 2) := by decide +kernel
theorem d_X12_init_19 : decode cX12_init 19 = .ok (.putfield 17, 3) := by decide +kernel
theorem d_X12_init_22 : decode cX12_init 22 = .ok (.aload_n 0, 1) := by decide +kernel
theorem d_X12_init_23 : decode cX12_init 23 = .ok (.sipush 1219, 3) := by decide +kernel
theorem d_X12_init_26 : decode cX12_init 26 = .ok (.newarray .int, 2) := by decide +kernel
theorem d_X12_init_28 : decode cX12_init 28 = .ok (.putfield 20, 3) := by decide +kernel
theorem d_X12_init_31 : decode cX12_init 31 = .ok (.aload_n 0, 1) := by decide +kernel
theorem d_X12_init_32 : decode cX12_init 32 = .ok (.sipush 370, 3) := by decide +kernel
theorem d_X12_init_35 : decode cX12_init 35 = .ok (.newarray .int, 2) := by decide +kernel
theorem d_X12_init_37 : decode cX12_init 37 = .ok (.putfield 23, 3) := by decide +kernel
theorem d_X12_init_40 : decode cX12_init 40 = .ok (.aload_n 0, 1) := by decide +kernel
theorem d_X12_init_41 : decode cX12_init 41 = .ok (.sipush 4440, 3) := by decide +kernel
theorem d_X12_init_44 : decode cX12_init 44 = .ok (.newarray .int, 2) := by decide +kernel
theorem d_X12_init_46 : decode cX12_init 46 = .ok (.putfield 26, 3) := by decide +kernel
theorem d_X12_init_49 : decode cX12_init 49 = .ok (.aload_n 0, 1) := by decide +kernel
theorem d_X12_init_50 : decode cX12_init 50 = .ok (.sipush 400, 3) := by decide +kernel
theorem d_X12_init_53 : decode cX12_init 53 = .ok (.newarray .byte, 2) := by decide +kernel
theorem d_X12_init_55 : decode cX12_init 55 = .ok (.putfield 29, 3) := by decide +kernel
theorem d_X12_init_58 : decode cX12_init 58 = .ok (.aload_n 0, 1) := by decide +kernel
theorem d_X12_init_59 : decode cX12_init 59 = .ok (.iconst (-1), 1) := by decide +kernel
theorem d_X12_init_60 : decode cX12_init 60 = .ok (.putfield 33, 3) := by decide +kernel
theorem d_X12_init_63 : decode cX12_init 63 = .ok (.aload_n 0, 1) := by decide +kernel
theorem d_X12_init_64 : decode cX12_init 64 = .ok (.iconst 5, 1) := by decide +kernel
theorem d_X12_init_65 : decode cX12_init 65 = .ok (.newarray .int, 2) := by decide +kernel
theorem d_X12_init_67 : decode cX12_init 67 = .ok (.putfield 36, 3) := by decide +kernel
theorem d_X12_init_70 : decode cX12_init 70 = .ok (.aload_n 0, 1) := by decide +kernel
theorem d_X12_init_71 : decode cX12_init 71 = .ok (.sipush 400, 3) := by decide +kernel
theorem d_X12_init_74 : decode cX12_init 74 = .ok (.newarray .int, 2) := by decide +kernel
theorem d_X12_init_76 : decode cX12_init 76 = .ok (.putfield 39, 3) := by decide +kernel
theorem d_X12_init_79 : decode cX12_init 79 = .ok (.aload_n 0, 1) := by decide +kernel
theorem d_X12_init_80 : decode cX12_init 80 = .ok (.bipush 36, 2) := by decide +kernel
theorem d_X12_init_82 : decode cX12_init 82 = .ok (.newarray .int, 2) := by decide +kernel
theorem d_X12_init_84 : decode cX12_init 84 = .ok (.putfield 42, 3) := by decide +kernel
theorem d_X12_init_87 : decode cX12_init 87 = .ok (.aload_n 0, 1) := by decide +kernel
theorem d_X12_init_88 : decode cX12_init 88 = .ok (.sipush 448, 3) := by decide +kernel
theorem d_X12_init_91 : decode cX12_init 91 = .ok (.newarray .int, 2) := by decide +kernel
theorem d_X12_init_93 : decode cX12_init 93 = .ok (.putfield 45, 3) := by decide +kernel
theorem d_X12_init_96 : decode cX12_init 96 = .ok (.aload_n 0, 1) := by decide +kernel
theorem d_X12_init_97 : decode cX12_init 97 = .ok (.getfield 13, 3) := by decide +kernel
theorem d_X12_init_100 : decode cX12_init 100 = .ok (.iconst 4, 1) := by decide +kernel
theorem d_X12_init_101 : decode cX12_init 101 = .ok (.iconst 5, 1) := by decide +kernel
theorem d_X12_init_102 : decode cX12_init 102 = .ok (.iastore, 1) := by decide +kernel
theorem d_X12_init_103 : decode cX12_init 103 = .ok (.aload_n 0, 1) := by decide +kernel
theorem d_X12_init_104 : decode cX12_init 104 = .ok (.getfield 13, 3) := by decide +kernel
theorem d_X12_init_107 : decode cX12_init 107 = .ok (.bipush 7, 2) := by decide +kernel
theorem d_X12_init_109 : decode cX12_init 109 = .ok (.iconst 1, 1) := by decide +kernel
theorem d_X12_init_110 : decode cX12_init 110 = .ok (.iastore, 1) := by decide +kernel
theorem d_X12_init_111 : decode cX12_init 111 = .ok (.iconst 0, 1) := by decide +kernel
theorem d_X12_init_112 : decode cX12_init 112 = .ok (.istore_n 1, 1) := by decide +kernel
theorem d_X12_init_113 : decode cX12_init 113 = .ok (.iload_n 1, 1) := by decide +kernel
theorem d_X12_init_114 : decode cX12_init 114 = .ok (.bipush 12, 2) := by decide +kernel
theorem d_X12_init_116 : decode cX12_init 116 = .ok (.if_icmp .ge 14, 3) := by decide +kernel
theorem d_X12_init_119 : decode cX12_init 119 = .ok (.aload_n 0, 1) := by decide +kernel
theorem d_X12_init_120 : decode cX12_init 120 = .ok (.iload_n 1, 1) := by decide +kernel
theorem d_X12_init_121 : decode cX12_init 121 = .ok (.invokevirtual 48, 3) := by decide +kernel
theorem d_X12_init_124 : decode cX12_init 124 = .ok (.iinc 1 1, 3) := by decide +kernel
theorem d_X12_init_127 : decode cX12_init 127 = .ok (.goto (-14), 3) := by decide +kernel
theorem d_X12_init_130 : decode cX12_init 130 = .ok (.return_, 1) := by decide +kernel
def ar_X12_init (G : Gl) (j : Nat) : va_E := ([.inl (G.2.2.2.1 0, 2068, .inl (fun _ => 0)), .inl (G.2.2.2.1 0, 1219, .inl (fun _ => 0)), .inl (G.2.2.2.1 0, 1219, .inl (fun _ => 0)), .inl (G.2.2.2.1 0, 370, .inl (fun _ => 0)), .inl (G.2.2.2.1 0, 4440, .inl (fun _ => 0)), .inl (G.2.2.2.1 1, 400, .inl (fun _ => 0)), .inl (G.2.2.2.1 0, 5, .inl (fun _ => 0)), .inl (G.2.2.2.1 0, 400, .inl (fun _ => 0)), .inl (G.2.2.2.1 0, 36, .inl (fun _ => 0)), .inl (G.2.2.2.1 0, 448, .inl (fun _ => 0))] : List va_E).getD j (.inr (0, []))
def muC : Nat → Mem
  | 0 => mset (mset mu0 265 4 5) 265 7 1
  | l + 1 => mset (mset (mset (mset (mset (mset (muC l) 265 (58 + 6 * l) 0) 265 (58 + 6 * l + 1) (-1)) 265 (58 + 6 * l + 2) 0) 265 (58 + 6 * l + 3) 0) 265 (58 + 6 * l + 4) 0) 265 (58 + 6 * l + 5) (-1)
theorem laceAt_nI {μ : Mem} {l k : Nat} : f_X12_laceAt μ (nI l) (nI k) = some (nI (58 + 6 * l + k)) := by
  unfold f_X12_laceAt
  rw [show (58 : Int32) = nI 58 from rfl, show (6 : Int32) = nI 6 from rfl, pk_mul, nI_add, nI_add]
theorem comesBack_nI {μ : Mem} {l : Nat} (hl : l < 12) : f_X12_comesBack μ (nI l) = some (mset (mset (mset (mset (mset (mset μ 265 (58 + 6 * l) 0) 265 (58 + 6 * l + 1) (-1)) 265 (58 + 6 * l + 2) 0) 265 (58 + 6 * l + 3) 0) 265 (58 + 6 * l + 4) 0) 265 (58 + 6 * l + 5) (-1)) := by
  unfold f_X12_comesBack f_X12_tellsLace
  have hL : ∀ {μ : Mem} {k : Nat} {v : Int32}, k < 6 → wr μ 265 2068 (nI (58 + 6 * l + k)) v = some (mset μ 265 (58 + 6 * l + k) v) := fun hk => wr_nI (by omega) (by decide)
  rw [show (0 : Int32) = nI 0 from rfl, show (1 : Int32) = nI 1 from rfl, show (2 : Int32) = nI 2 from rfl, show (3 : Int32) = nI 3 from rfl, show (4 : Int32) = nI 4 from rfl, show (5 : Int32) = nI 5 from rfl]
  simp only [laceAt_nI, Option.bind_some, hL (show 0 < 6 by decide), hL (show 1 < 6 by decide), hL (show 2 < 6 by decide), hL (show 3 < 6 by decide), hL (show 4 < 6 by decide), hL (show 5 < 6 by decide)]
  rfl
theorem modLoop {G : Gl} (hG : G.1.stackTraces = false) {C : Cx} (hK : Fin9 G C F_X12_init none (fun r9 h9 n9 => r9 = none ∧ h9 = pic2 G (muC 12)) (fun _ _ _ => False)) : ∀ (d l : Nat), l + d = 12 → ∀ n, V G C F_X12_init 113 [some (.ref (G.2.1 + 264)), some (.int (nI l))] [] (pic2 G (muC l)) n 10 10605 := by
  intro d
  induction d with
  | zero =>
    intro l hd n
    have hl : l = 12 := by omega
    subst hl
    refine V_iload_n d_X12_init_113 rfl rfl ?_
    refine V_bipush (v := 12) d_X12_init_114 (by decide) ?_
    refine V_icmp_ge (tgt := 130) d_X12_init_116 (by decide) (fun _ => ?_) (fun c => absurd (by decide) c)
    exact V_vret hK d_X12_init_130 (Nat.le_of_ble_eq_true rfl) (Nat.le_of_ble_eq_true rfl) ⟨rfl, rfl⟩
  | succ d ih =>
    intro l hd n
    refine V_iload_n d_X12_init_113 rfl rfl ?_
    refine V_bipush (v := 12) d_X12_init_114 (by decide) ?_
    refine V_icmp_ge (tgt := 130) d_X12_init_116 (by decide) (fun c => absurd c (nI_ge (a := l) (b := 12) (by omega) (by decide))) (fun _ => ?_)
    refine V_aload_n d_X12_init_119 rfl rfl ?_
    refine V_iload_n d_X12_init_120 rfl rfl ?_
    refine B2_callV0 (s2_X12_comesBack hG (comesBack_nI (μ := muC l) (l := l) (by omega))) k2_264 clX12 m_X12_comesBack kv_RX12_48 d_X12_init_121 rfl (Nat.le_of_ble_eq_true rfl) ⟨rfl, rfl, Nat.le_of_ble_eq_true rfl, Nat.le_of_ble_eq_true rfl, Nat.le_of_ble_eq_true rfl⟩ (fun n => ?_)
    refine V_iinc (v := nI (l + 1)) (ls' := [_, _]) d_X12_init_124 rfl (by rw [show Int32.ofInt 1 = 1 from by decide]; exact nI_1 l) rfl ?_
    refine V_goto (tgt := 113) d_X12_init_127 (by decide) ?_
    exact ih (l + 1) (by omega) n
theorem s_X12_init {G : Gl} (hG : G.1.stackTraces = false) {h : Hm} (hh : ∀ b, b < 264 → ∀ e, pic G mu0 b = some e → h b = some e) : Sd G yX12_init F_X12_init (.code yX12_init F_X12_init.2.1 F_X12_init.2.2.1 none) [.ref (G.2.1 + 264)] (stg h 264 12 [.int 0, .null, .null, .null, .null, .null, .int 0, .int 0, .null, .int 0, .int 0, .int 0, .int 0, .int 0, .int 0, .null, .int 0, .null, .null, .null] 0 (ar_X12_init G)) 265 (fun r9 h9 n9 => r9 = none ∧ h9 = pic2 G (muC 12)) (fun _ _ _ => False) := Sd.ofI hG ⟨by decide +kernel, rfl, rfl⟩ rfl rfl (Nat.le_of_ble_eq_true rfl) rfl (fun C hK hI => by
  refine V_n (n' := 264 + 1 + 0) rfl ?_
  refine V_aload_n d_X12_init_0 rfl rfl ?_
  refine V_objI w_1442 w_35 w_36 d_X12_init_1 (Nat.le_of_ble_eq_true rfl) ?_
  refine V_aload_n d_X12_init_4 rfl rfl ?_
  refine V_sipush (v := 2068) d_X12_init_5 (by decide) ?_
  refine CI_arr (k := 0) (len := 2068) hI ⟨⟨by decide, by decide⟩, by decide⟩ w_66 rfl fl_RX12_13 pf_RX12_12_1 d_X12_init_8 d_X12_init_10 (Nat.le_of_ble_eq_true rfl) (Nat.le_of_ble_eq_true rfl) (Nat.le_of_ble_eq_true rfl) ?_
  refine V_aload_n d_X12_init_13 rfl rfl ?_
  refine V_sipush (v := 1219) d_X12_init_14 (by decide) ?_
  refine CI_arr (k := 1) (len := 1219) hI ⟨⟨by decide, by decide⟩, by decide⟩ w_66 rfl fl_RX12_17 pf_RX12_12_2 d_X12_init_17 d_X12_init_19 (Nat.le_of_ble_eq_true rfl) (Nat.le_of_ble_eq_true rfl) (Nat.le_of_ble_eq_true rfl) ?_
  refine V_aload_n d_X12_init_22 rfl rfl ?_
  refine V_sipush (v := 1219) d_X12_init_23 (by decide) ?_
  refine CI_arr (k := 2) (len := 1219) hI ⟨⟨by decide, by decide⟩, by decide⟩ w_66 rfl fl_RX12_20 pf_RX12_12_3 d_X12_init_26 d_X12_init_28 (Nat.le_of_ble_eq_true rfl) (Nat.le_of_ble_eq_true rfl) (Nat.le_of_ble_eq_true rfl) ?_
  refine V_aload_n d_X12_init_31 rfl rfl ?_
  refine V_sipush (v := 370) d_X12_init_32 (by decide) ?_
  refine CI_arr (k := 3) (len := 370) hI ⟨⟨by decide, by decide⟩, by decide⟩ w_66 rfl fl_RX12_23 pf_RX12_12_4 d_X12_init_35 d_X12_init_37 (Nat.le_of_ble_eq_true rfl) (Nat.le_of_ble_eq_true rfl) (Nat.le_of_ble_eq_true rfl) ?_
  refine V_aload_n d_X12_init_40 rfl rfl ?_
  refine V_sipush (v := 4440) d_X12_init_41 (by decide) ?_
  refine CI_arr (k := 4) (len := 4440) hI ⟨⟨by decide, by decide⟩, by decide⟩ w_66 rfl fl_RX12_26 pf_RX12_12_5 d_X12_init_44 d_X12_init_46 (Nat.le_of_ble_eq_true rfl) (Nat.le_of_ble_eq_true rfl) (Nat.le_of_ble_eq_true rfl) ?_
  refine V_aload_n d_X12_init_49 rfl rfl ?_
  refine V_sipush (v := 400) d_X12_init_50 (by decide) ?_
  refine CI_arrB (k := 5) (len := 400) hI ⟨⟨by decide, by decide⟩, by decide⟩ w_891 rfl fl_RX12_29 pf_RX12_12_8 d_X12_init_53 d_X12_init_55 (Nat.le_of_ble_eq_true rfl) (Nat.le_of_ble_eq_true rfl) (Nat.le_of_ble_eq_true rfl) ?_
  refine V_aload_n d_X12_init_58 rfl rfl ?_
  refine V_iconst (v := (-1)) d_X12_init_59 (by decide) ?_
  refine CI_put fl_RX12_33 pt_12_14 d_X12_init_60 rfl rfl (Nat.le_of_ble_eq_true rfl) ?_
  refine V_aload_n d_X12_init_63 rfl rfl ?_
  refine V_iconst (v := 5) d_X12_init_64 (by decide) ?_
  refine CI_arr (k := 6) (len := 5) hI ⟨⟨by decide, by decide⟩, by decide⟩ w_66 rfl fl_RX12_36 pf_RX12_12_15 d_X12_init_65 d_X12_init_67 (Nat.le_of_ble_eq_true rfl) (Nat.le_of_ble_eq_true rfl) (Nat.le_of_ble_eq_true rfl) ?_
  refine V_aload_n d_X12_init_70 rfl rfl ?_
  refine V_sipush (v := 400) d_X12_init_71 (by decide) ?_
  refine CI_arr (k := 7) (len := 400) hI ⟨⟨by decide, by decide⟩, by decide⟩ w_66 rfl fl_RX12_39 pf_RX12_12_17 d_X12_init_74 d_X12_init_76 (Nat.le_of_ble_eq_true rfl) (Nat.le_of_ble_eq_true rfl) (Nat.le_of_ble_eq_true rfl) ?_
  refine V_aload_n d_X12_init_79 rfl rfl ?_
  refine V_bipush (v := 36) d_X12_init_80 (by decide) ?_
  refine CI_arr (k := 8) (len := 36) hI ⟨⟨by decide, by decide⟩, by decide⟩ w_66 rfl fl_RX12_42 pf_RX12_12_18 d_X12_init_82 d_X12_init_84 (Nat.le_of_ble_eq_true rfl) (Nat.le_of_ble_eq_true rfl) (Nat.le_of_ble_eq_true rfl) ?_
  refine V_aload_n d_X12_init_87 rfl rfl ?_
  refine V_sipush (v := 448) d_X12_init_88 (by decide) ?_
  refine CI_arr (k := 9) (len := 448) hI ⟨⟨by decide, by decide⟩, by decide⟩ w_66 rfl fl_RX12_45 pf_RX12_12_19 d_X12_init_91 d_X12_init_93 (Nat.le_of_ble_eq_true rfl) (Nat.le_of_ble_eq_true rfl) (Nat.le_of_ble_eq_true rfl) ?_
  refine V_sub (h' := pic2 G mu0) (fun b e hb => ?_) ?_
  · have hl9 : kdL2.length = 275 := by decide +kernel
    have hb9 : b < 275 := by
      refine Nat.lt_of_not_le fun h9 => ?_
      unfold pic2 at hb
      rw [List.getElem?_eq_none (by omega)] at hb
      cases hb
    have hb8 : pic G mu0 b = some e := by
      unfold pic2 kdL2 at hb
      rw [List.getElem?_take_of_lt hb9] at hb
      exact hb
    by_cases h1 : b < 264
    · unfold stg
      rw [if_neg (by omega), if_neg (by omega), if_pos h1]
      exact hh b h1 e hb8
    · rw [← hb8]
      rcases (show b = 264 ∨ b = 265 ∨ b = 266 ∨ b = 267 ∨ b = 268 ∨ b = 269 ∨ b = 270 ∨ b = 271 ∨ b = 272 ∨ b = 273 ∨ b = 274 by omega) with rfl | rfl | rfl | rfl | rfl | rfl | rfl | rfl | rfl | rfl | rfl
      · rfl
      · rfl
      · rfl
      · rfl
      · rfl
      · rfl
      · rfl
      · rfl
      · rfl
      · rfl
      · rfl
  · refine V_aload_n d_X12_init_96 rfl rfl ?_
    refine B2_get k2_264 fl_RX12_13 d_X12_init_97 g_12_1 ?_
    refine V_iconst (v := 4) d_X12_init_100 (by decide) ?_
    refine V_iconst (v := 5) d_X12_init_101 (by decide) ?_
    refine B2_iast (μ' := mset mu0 265 4 5) k2_265 rfl d_X12_init_102 ?_
    refine V_aload_n d_X12_init_103 rfl rfl ?_
    refine B2_get k2_264 fl_RX12_13 d_X12_init_104 g_12_1 ?_
    refine V_bipush (v := 7) d_X12_init_107 (by decide) ?_
    refine V_iconst (v := 1) d_X12_init_109 (by decide) ?_
    refine B2_iast (μ' := muC 0) k2_265 rfl d_X12_init_110 ?_
    refine V_iconst (v := 0) d_X12_init_111 (by decide) ?_
    refine V_istore_n (ls' := [_, _]) d_X12_init_112 rfl rfl rfl ?_
    exact modLoop hG hK 12 0 (by omega) _)
