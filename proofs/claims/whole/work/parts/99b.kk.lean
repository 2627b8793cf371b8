/-! WHAT THE STATEMENT GIVES AT THE LAW'S ENTRY (printed by wip/whole/gen99b.py) -/
theorem tb_ins {ws : List Cond} (ps : List (Nat × Nat)) (h : ws = ps.filterMap (fun q => (tb9 q.1)[q.2]?)) : ∀ w ∈ ws, w ∈ lw_tbl := by
  intro w hw
  rw [h] at hw
  obtain ⟨q, -, hq⟩ := List.mem_filterMap.mp hw
  exact tb9_in q.1 (List.mem_of_getElem? hq)
theorem tb_one {w : Cond} (k i : Nat) (h : (tb9 k)[i]? = some w) : w ∈ lw_tbl := tb9_in k (List.mem_of_getElem? h)
theorem kk_nM : ∀ w ∈ nM_l.map (fun q => Cond.methodLinkNest q.1 q.2.1 q.2.2.1 q.2.2.2), w ∈ lw_tbl := tb_ins [(1, 39), (1, 69), (1, 183), (2, 38), (2, 59), (1, 75), (2, 24), (2, 239), (2, 171), (2, 164), (3, 206), (3, 237), (2, 194), (2, 195), (6, 1), (6, 134)] (by decide +kernel)
theorem kk_nF : ∀ w ∈ nF_l.map (fun q => Cond.fieldLinkNest q.1 q.2.1 q.2.2.1 q.2.2.2.1 q.2.2.2.2.1 q.2.2.2.2.2), w ∈ lw_tbl := tb_ins [(1, 50), (1, 52), (1, 51), (1, 54)] (by decide +kernel)
theorem kk_sT : ∀ w ∈ sT_l.map (fun q => Cond.stringRef q.1 q.2.1 q.2.2.1), w ∈ lw_tbl := tb_ins [(3, 209), (3, 215), (3, 238), (4, 3), (4, 4), (4, 5), (4, 6), (3, 136), (3, 228), (4, 11), (4, 16), (4, 21), (4, 22), (4, 30), (4, 32), (4, 33), (4, 93), (4, 94), (4, 86), (4, 87), (4, 88), (4, 89), (4, 90), (4, 91), (4, 92), (4, 53), (4, 68), (4, 69), (4, 40), (4, 181), (4, 145), (4, 202), (4, 226), (5, 14), (5, 32), (5, 33), (5, 45), (5, 60), (5, 82), (5, 92), (5, 121), (5, 140), (5, 135), (5, 149), (5, 148), (5, 171), (5, 231), (6, 31), (6, 39), (6, 120), (6, 161), (6, 222), (7, 150), (7, 155), (7, 176), (7, 180), (7, 181), (7, 182), (7, 183), (7, 131), (7, 159), (7, 188), (7, 197), (7, 202), (7, 203), (8, 7), (8, 8), (8, 9), (8, 10), (8, 11), (7, 237), (7, 238), (8, 12), (8, 13), (7, 228), (7, 208), (7, 209), (7, 210), (7, 211)] (by decide +kernel)
theorem kk_cC : ∀ w ∈ cC_l.map (fun q => Cond.castable q.1 q.2), w ∈ lw_tbl := tb_ins [(4, 174), (4, 104), (4, 219), (5, 7), (5, 85)] (by decide +kernel)
theorem kk_nD : ∀ w ∈ nD_l.map Cond.declares, w ∈ lw_tbl := tb_ins [(3, 131), (4, 106), (4, 108), (4, 110)] (by decide +kernel)
theorem kk_lU : Cond.laysStatic Bundle.tN "UNASSIGNED_STACK" Bundle.steD ∈ lw_tbl := tb_one 4 129 (by decide +kernel)
theorem kk_iU : Cond.initialized Bundle.tN ∈ lw_tbl := tb_one 1 19 (by decide +kernel)
theorem kk_lN : Cond.laysStatic Bundle.tN "SUPPRESSED_SENTINEL" Bundle.listD ∈ lw_tbl := tb_one 4 131 (by decide +kernel)
theorem kk_iN : Cond.initialized Bundle.tN ∈ lw_tbl := tb_one 1 19 (by decide +kernel)
theorem kk_lC : Cond.laysStatic "java/lang/String" "COMPACT_STRINGS" "Z" ∈ lw_tbl := tb_one 3 154 (by decide +kernel)
theorem kk_iC : Cond.initialized "java/lang/String" ∈ lw_tbl := tb_one 1 15 (by decide +kernel)
theorem kk_lI : Cond.laysStatic "jdk/internal/util/Preconditions" "SIOOBE_FORMATTER" "Ljava/util/function/BiFunction;" ∈ lw_tbl := tb_one 3 170 (by decide +kernel)
theorem kk_iI : Cond.initialized "jdk/internal/util/Preconditions" ∈ lw_tbl := tb_one 1 17 (by decide +kernel)
theorem kk_AO : Cond.arrayOver (.object "LaceBonds$Land") ∈ lw_tbl := tb_one 2 23 (by decide +kernel)
theorem kk_aint : Cond.arrayClass .int ∈ lw_tbl := tb_one 1 66 (by decide +kernel)
theorem kk_abyte : Cond.arrayClass .byte ∈ lw_tbl := tb_one 4 171 (by decide +kernel)
theorem kk_along : Cond.arrayClass .long ∈ lw_tbl := tb_one 9 159 (by decide +kernel)
theorem kk_n0 : Cond.instantiable RX0 3 ∈ lw_tbl := tb_one 2 17 (by decide +kernel)
theorem kk_n1 : Cond.instantiable RX1 3 ∈ lw_tbl := tb_one 1 74 (by decide +kernel)
theorem kk_n2 : Cond.instantiable RX2 19 ∈ lw_tbl := tb_one 1 68 (by decide +kernel)
theorem kk_n3 : Cond.instantiable RX3 3 ∈ lw_tbl := tb_one 1 222 (by decide +kernel)
theorem kk_n4 : Cond.instantiable RX4 10 ∈ lw_tbl := tb_one 1 182 (by decide +kernel)
theorem kk_n5 : Cond.instantiable RX5 3 ∈ lw_tbl := tb_one 2 5 (by decide +kernel)
theorem kk_n7 : Cond.instantiable RX7 4 ∈ lw_tbl := tb_one 2 37 (by decide +kernel)
theorem kk_n8 : Cond.instantiable RX8 5 ∈ lw_tbl := tb_one 1 38 (by decide +kernel)
theorem kk_n9 : Cond.instantiable RX9 3 ∈ lw_tbl := tb_one 2 58 (by decide +kernel)
theorem kk_n10 : Cond.instantiable RX10 5 ∈ lw_tbl := tb_one 2 74 (by decide +kernel)
theorem kk_n11 : Cond.instantiable RX11 14 ∈ lw_tbl := tb_one 1 30 (by decide +kernel)
theorem kk_n12 : Cond.instantiable RX12 20 ∈ lw_tbl := tb_one 6 238 (by decide +kernel)
def kkF : List Cond := flatC (Cond.and given_1 narrow_1)
theorem kk_at {w : Cond} (k : Nat) (h : kkF[k]? = some w) {b : Nat} {s : State} (hgv : (Cond.and given_1 narrow_1).before #[Value.ref b] s = true) : w.before #[Value.ref b] s = true := flat_of_before _ hgv w (List.mem_of_getElem? h)
theorem kk_fU : kkF[9]? = some (Cond.isRef (.static Bundle.tN "UNASSIGNED_STACK" Bundle.steD)) := by decide +kernel
theorem kk_fN : kkF[10]? = some (Cond.isRef (.static Bundle.tN "SUPPRESSED_SENTINEL" Bundle.listD)) := by decide +kernel
theorem kk_fC : kkF[4]? = some (Cond.eq (.static "java/lang/String" "COMPACT_STRINGS" "Z") (.int 1)) := by decide +kernel
theorem kk_fI : kkF[5]? = some (Cond.isRef (.static "jdk/internal/util/Preconditions" "SIOOBE_FORMATTER" "Ljava/util/function/BiFunction;")) := by decide +kernel
theorem kk_nC : nC_l.map (fun q => Cond.not (.castable q.1 q.2)) = [23, 57, 55, 58, 26].filterMap (fun k => kkF[k]?) := by decide +kernel
def kkT (i : Nat) : Term := let q := sT_l.getD i ("", 0, "", 0); .string q.1 q.2.1
def kkV (i : Nat) : Term := .field (kkT i) "java/lang/String" "value" "[B"
def kkE (i j : Nat) : Cond := .eq (.elem (kkV i) (.int (Int32.ofNat j))) (.int ((bytS_l.getD i []).getD j 0))
def kkS (i : Nat) : List Cond := [.exactly (kkT i) "java/lang/String", .eq (.field (kkT i) "java/lang/String" "coder" "B") (.int 0), .arrayOf (kkV i) .byte, .eq (.length (kkV i)) (.int (Int32.ofNat (lenS_l.getD i 0)))] ++ (List.range (lenS_l.getD i 0)).map (kkE i)
def kkP : List Nat := [101, 109, 125, 131, 138, 146, 154, 91, 115, 160, 167, 175, 183, 190, 198, 206, 302, 309, 244, 251, 260, 268, 277, 285, 294, 220, 227, 235, 214, 348, 315, 370, 402, 420, 449, 465, 492, 509, 536, 552, 573, 628, 594, 683, 649, 704, 720, 751, 773, 789, 810, 828, 865, 874, 892, 899, 907, 916, 925, 854, 881, 932, 941, 950, 959, 1029, 1037, 1047, 1056, 1066, 1010, 1019, 1076, 1084, 1002, 968, 977, 986, 995]
theorem kk_s0 : ∀ i, i < 10 → kkS (0 + i) = (kkF.drop (kkP.getD (0 + i) 0)).take (4 + lenS_l.getD (0 + i) 0) := by decide +kernel
theorem kk_s10 : ∀ i, i < 10 → kkS (10 + i) = (kkF.drop (kkP.getD (10 + i) 0)).take (4 + lenS_l.getD (10 + i) 0) := by decide +kernel
theorem kk_s20 : ∀ i, i < 10 → kkS (20 + i) = (kkF.drop (kkP.getD (20 + i) 0)).take (4 + lenS_l.getD (20 + i) 0) := by decide +kernel
theorem kk_s30 : ∀ i, i < 10 → kkS (30 + i) = (kkF.drop (kkP.getD (30 + i) 0)).take (4 + lenS_l.getD (30 + i) 0) := by decide +kernel
theorem kk_s40 : ∀ i, i < 10 → kkS (40 + i) = (kkF.drop (kkP.getD (40 + i) 0)).take (4 + lenS_l.getD (40 + i) 0) := by decide +kernel
theorem kk_s50 : ∀ i, i < 10 → kkS (50 + i) = (kkF.drop (kkP.getD (50 + i) 0)).take (4 + lenS_l.getD (50 + i) 0) := by decide +kernel
theorem kk_s60 : ∀ i, i < 10 → kkS (60 + i) = (kkF.drop (kkP.getD (60 + i) 0)).take (4 + lenS_l.getD (60 + i) 0) := by decide +kernel
theorem kk_s70 : ∀ i, i < 9 → kkS (70 + i) = (kkF.drop (kkP.getD (70 + i) 0)).take (4 + lenS_l.getD (70 + i) 0) := by decide +kernel
