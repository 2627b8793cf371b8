theorem slen_all : ∀ i, i < nS_n → lenS_l.getD i 0 < 2 ^ 31 := by decide +kernel
theorem schar_some {i : Nat} (hi : i < nS_n) {k v : Int32} (h : schar i k = some v) : ¬ k < 0 ∧ k < slen i ∧ vp_in k (lenS_l.getD i 0) ∧ ((((bytS_l.getD i []).getD k.toNatClampNeg 0 &&& 255).toUInt32 % 65536).toInt32) = v := by
  unfold schar at h
  by_cases hc : k < 0 ∨ lenS_l.getD i 0 ≤ k.toNatClampNeg
  · rw [if_pos hc] at h; cases h
  · rw [if_neg hc] at h
    have h0 : ¬ k < 0 := fun q => hc (Or.inl q)
    refine ⟨h0, ?_, hc, Option.some.inj h⟩
    obtain ⟨j, hj, rfl⟩ := vp_in_of (n := lenS_l.getD i 0) hc (slen_all i hi)
    exact nI_lt hj (slen_all i hi)
theorem schar_nar {i : Nat} (hi : i < nS_n) {k v : Int32} (h : schar i k = some v) : narrow .char (.int v) = .int v := by
  obtain ⟨h1, h2, h3, h4⟩ := schar_some hi h
  rw [← h4]
  exact pk_nc _
theorem d_J0_coder_7d493_0 : decode cJ0_coder_7d493 0 = .ok (.getstatic 38, 3) := by decide +kernel
theorem d_J0_coder_7d493_3 : decode cJ0_coder_7d493 3 = .ok (.ifCond .eq 10, 3) := by decide +kernel
theorem d_J0_coder_7d493_6 : decode cJ0_coder_7d493 6 = .ok (.aload_n 0, 1) := by decide +kernel
theorem d_J0_coder_7d493_7 : decode cJ0_coder_7d493 7 = .ok (.getfield 15, 3) := by decide +kernel
theorem d_J0_coder_7d493_10 : decode cJ0_coder_7d493 10 = .ok (.goto 4, 3) := by decide +kernel
theorem d_J0_coder_7d493_13 : decode cJ0_coder_7d493 13 = .ok (.iconst 1, 1) := by decide +kernel
theorem d_J0_coder_7d493_14 : decode cJ0_coder_7d493 14 = .ok (.ireturn, 1) := by decide +kernel
theorem d_J0_isLatin1_aae02_0 : decode cJ0_isLatin1_aae02 0 = .ok (.getstatic 38, 3) := by decide +kernel
theorem d_J0_isLatin1_aae02_3 : decode cJ0_isLatin1_aae02 3 = .ok (.ifCond .eq 14, 3) := by decide +kernel
theorem d_J0_isLatin1_aae02_6 : decode cJ0_isLatin1_aae02 6 = .ok (.aload_n 0, 1) := by decide +kernel
theorem d_J0_isLatin1_aae02_7 : decode cJ0_isLatin1_aae02 7 = .ok (.getfield 15, 3) := by decide +kernel
theorem d_J0_isLatin1_aae02_10 : decode cJ0_isLatin1_aae02 10 = .ok (.ifCond .ne 7, 3) := by decide +kernel
theorem d_J0_isLatin1_aae02_13 : decode cJ0_isLatin1_aae02 13 = .ok (.iconst 1, 1) := by decide +kernel
theorem d_J0_isLatin1_aae02_14 : decode cJ0_isLatin1_aae02 14 = .ok (.goto 4, 3) := by decide +kernel
theorem d_J0_isLatin1_aae02_17 : decode cJ0_isLatin1_aae02 17 = .ok (.iconst 0, 1) := by decide +kernel
theorem d_J0_isLatin1_aae02_18 : decode cJ0_isLatin1_aae02 18 = .ok (.ireturn, 1) := by decide +kernel
theorem d_J0_length_8abf5_0 : decode cJ0_length_8abf5 0 = .ok (.aload_n 0, 1) := by decide +kernel
theorem d_J0_length_8abf5_1 : decode cJ0_length_8abf5 1 = .ok (.getfield 9, 3) := by decide +kernel
theorem d_J0_length_8abf5_4 : decode cJ0_length_8abf5 4 = .ok (.arraylength, 1) := by decide +kernel
theorem d_J0_length_8abf5_5 : decode cJ0_length_8abf5 5 = .ok (.aload_n 0, 1) := by decide +kernel
theorem d_J0_length_8abf5_6 : decode cJ0_length_8abf5 6 = .ok (.invokevirtual 335, 3) := by decide +kernel
theorem d_J0_length_8abf5_9 : decode cJ0_length_8abf5 9 = .ok (.ishr, 1) := by decide +kernel
theorem d_J0_length_8abf5_10 : decode cJ0_length_8abf5 10 = .ok (.ireturn, 1) := by decide +kernel
theorem d_J3_checkIndex_8e157_0 : decode cJ3_checkIndex_8e157 0 = .ok (.iload_n 0, 1) := by decide +kernel
theorem d_J3_checkIndex_8e157_1 : decode cJ3_checkIndex_8e157 1 = .ok (.ifCond .lt 8, 3) := by decide +kernel
theorem d_J3_checkIndex_8e157_4 : decode cJ3_checkIndex_8e157 4 = .ok (.iload_n 0, 1) := by decide +kernel
theorem d_J3_checkIndex_8e157_5 : decode cJ3_checkIndex_8e157 5 = .ok (.iload_n 1, 1) := by decide +kernel
theorem d_J3_checkIndex_8e157_6 : decode cJ3_checkIndex_8e157 6 = .ok (.if_icmp .lt 10, 3) := by decide +kernel
theorem d_J3_checkIndex_8e157_9 : decode cJ3_checkIndex_8e157 9 = .ok (.aload_n 2, 1) := by decide +kernel
theorem d_J3_checkIndex_8e157_10 : decode cJ3_checkIndex_8e157 10 = .ok (.iload_n 0, 1) := by decide +kernel
theorem d_J3_checkIndex_8e157_11 : decode cJ3_checkIndex_8e157 11 = .ok (.iload_n 1, 1) := by decide +kernel
theorem d_J3_checkIndex_8e157_12 : decode cJ3_checkIndex_8e157 12 = .ok (.invokestatic 95, 3) := by decide +kernel
theorem d_J3_checkIndex_8e157_15 : decode cJ3_checkIndex_8e157 15 = .ok (.athrow, 1) := by decide +kernel
theorem d_J3_checkIndex_8e157_16 : decode cJ3_checkIndex_8e157 16 = .ok (.iload_n 0, 1) := by decide +kernel
theorem d_J3_checkIndex_8e157_17 : decode cJ3_checkIndex_8e157 17 = .ok (.ireturn, 1) := by decide +kernel
theorem d_J0_checkIndex_df160_0 : decode cJ0_checkIndex_df160 0 = .ok (.iload_n 0, 1) := by decide +kernel
theorem d_J0_checkIndex_df160_1 : decode cJ0_checkIndex_df160 1 = .ok (.iload_n 1, 1) := by decide +kernel
theorem d_J0_checkIndex_df160_2 : decode cJ0_checkIndex_df160 2 = .ok (.getstatic 1053, 3) := by decide +kernel
theorem d_J0_checkIndex_df160_5 : decode cJ0_checkIndex_df160 5 = .ok (.invokestatic 1059, 3) := by decide +kernel
theorem d_J0_checkIndex_df160_8 : decode cJ0_checkIndex_df160 8 = .ok (.pop, 1) := by decide +kernel
theorem d_J0_checkIndex_df160_9 : decode cJ0_checkIndex_df160 9 = .ok (.return_, 1) := by decide +kernel
theorem d_J1_charAt_3b067_0 : decode cJ1_charAt_3b067 0 = .ok (.iload_n 1, 1) := by decide +kernel
theorem d_J1_charAt_3b067_1 : decode cJ1_charAt_3b067 1 = .ok (.aload_n 0, 1) := by decide +kernel
theorem d_J1_charAt_3b067_2 : decode cJ1_charAt_3b067 2 = .ok (.arraylength, 1) := by decide +kernel
theorem d_J1_charAt_3b067_3 : decode cJ1_charAt_3b067 3 = .ok (.invokestatic 9, 3) := by decide +kernel
theorem d_J1_charAt_3b067_6 : decode cJ1_charAt_3b067 6 = .ok (.aload_n 0, 1) := by decide +kernel
theorem d_J1_charAt_3b067_7 : decode cJ1_charAt_3b067 7 = .ok (.iload_n 1, 1) := by decide +kernel
theorem d_J1_charAt_3b067_8 : decode cJ1_charAt_3b067 8 = .ok (.baload, 1) := by decide +kernel
theorem d_J1_charAt_3b067_9 : decode cJ1_charAt_3b067 9 = .ok (.sipush 255, 3) := by decide +kernel
theorem d_J1_charAt_3b067_12 : decode cJ1_charAt_3b067 12 = .ok (.iand, 1) := by decide +kernel
theorem d_J1_charAt_3b067_13 : decode cJ1_charAt_3b067 13 = .ok (.i2c, 1) := by decide +kernel
theorem d_J1_charAt_3b067_14 : decode cJ1_charAt_3b067 14 = .ok (.ireturn, 1) := by decide +kernel
theorem d_J0_charAt_5068e_0 : decode cJ0_charAt_5068e 0 = .ok (.aload_n 0, 1) := by decide +kernel
theorem d_J0_charAt_5068e_1 : decode cJ0_charAt_5068e 1 = .ok (.invokevirtual 492, 3) := by decide +kernel
theorem d_J0_charAt_5068e_4 : decode cJ0_charAt_5068e 4 = .ok (.ifCond .eq 12, 3) := by decide +kernel
theorem d_J0_charAt_5068e_7 : decode cJ0_charAt_5068e 7 = .ok (.aload_n 0, 1) := by decide +kernel
theorem d_J0_charAt_5068e_8 : decode cJ0_charAt_5068e 8 = .ok (.getfield 9, 3) := by decide +kernel
theorem d_J0_charAt_5068e_11 : decode cJ0_charAt_5068e 11 = .ok (.iload_n 1, 1) := by decide +kernel
theorem d_J0_charAt_5068e_12 : decode cJ0_charAt_5068e 12 = .ok (.invokestatic 495, 3) := by decide +kernel
theorem d_J0_charAt_5068e_15 : decode cJ0_charAt_5068e 15 = .ok (.ireturn, 1) := by decide +kernel
theorem d_J0_charAt_5068e_16 : decode cJ0_charAt_5068e 16 = .ok (.aload_n 0, 1) := by decide +kernel
theorem d_J0_charAt_5068e_17 : decode cJ0_charAt_5068e 17 = .ok (.getfield 9, 3) := by decide +kernel
theorem d_J0_charAt_5068e_20 : decode cJ0_charAt_5068e 20 = .ok (.iload_n 1, 1) := by decide +kernel
theorem d_J0_charAt_5068e_21 : decode cJ0_charAt_5068e 21 = .ok (.invokestatic 498, 3) := by decide +kernel
theorem d_J0_charAt_5068e_24 : decode cJ0_charAt_5068e 24 = .ok (.ireturn, 1) := by decide +kernel
theorem s_J0_coder_7d493 {G : Gl} (hG : G.1.stackTraces = false) {i : Nat} (hi : i < nS_n) {h : Hm} {n : Nat} : Sd G yJ0_coder_7d493 F_J0_coder_7d493 (.code yJ0_coder_7d493 F_J0_coder_7d493.2.1 F_J0_coder_7d493.2.2.1 (some .byte)) [.ref (G.2.2.2.2.1 i)] h n (fun r9 h9 _ => r9 = some (.int 0) ∧ h9 = h) (fun _ _ _ => False) := Sd.ofJ hG ⟨by decide +kernel, rfl, rfl⟩ rfl (Nat.le_of_ble_eq_true rfl) rfl (fun C hK => by
  refine V_strcmp d_J0_coder_7d493_0 w_633 ?_
  refine V_if_eq (tgt := 13) d_J0_coder_7d493_3 (by decide) (fun c => absurd c (by decide)) (fun _ => ?_)
  refine V_aload_n d_J0_coder_7d493_6 rfl rfl ?_
  refine V_strcod d_J0_coder_7d493_7 hi w_2101 ?_
  refine V_goto (tgt := 14) d_J0_coder_7d493_10 (by decide) ?_
  exact V_nret rfl hK d_J0_coder_7d493_14 (Nat.le_of_ble_eq_true rfl) (Nat.le_of_ble_eq_true rfl) ⟨rfl, rfl⟩)
theorem s_J0_isLatin1_aae02 {G : Gl} (hG : G.1.stackTraces = false) {i : Nat} (hi : i < nS_n) {h : Hm} {n : Nat} : Sd G yJ0_isLatin1_aae02 F_J0_isLatin1_aae02 (.code yJ0_isLatin1_aae02 F_J0_isLatin1_aae02.2.1 F_J0_isLatin1_aae02.2.2.1 (some .boolean)) [.ref (G.2.2.2.2.1 i)] h n (fun r9 h9 _ => r9 = some (.int 1) ∧ h9 = h) (fun _ _ _ => False) := Sd.ofJ hG ⟨by decide +kernel, rfl, rfl⟩ rfl (Nat.le_of_ble_eq_true rfl) rfl (fun C hK => by
  refine V_strcmp d_J0_isLatin1_aae02_0 w_633 ?_
  refine V_if_eq (tgt := 17) d_J0_isLatin1_aae02_3 (by decide) (fun c => absurd c (by decide)) (fun _ => ?_)
  refine V_aload_n d_J0_isLatin1_aae02_6 rfl rfl ?_
  refine V_strcod d_J0_isLatin1_aae02_7 hi w_2101 ?_
  refine V_if_ne (tgt := 17) d_J0_isLatin1_aae02_10 (by decide) (fun c => absurd rfl c) (fun _ => ?_)
  refine V_iconst (v := 1) d_J0_isLatin1_aae02_13 (by decide) ?_
  refine V_goto (tgt := 18) d_J0_isLatin1_aae02_14 (by decide) ?_
  exact V_nret rfl hK d_J0_isLatin1_aae02_18 (Nat.le_of_ble_eq_true rfl) (Nat.le_of_ble_eq_true rfl) ⟨rfl, rfl⟩)
theorem s_J0_length_8abf5 {G : Gl} (hG : G.1.stackTraces = false) {i : Nat} (hi : i < nS_n) {h : Hm} {n : Nat} : Sd G yJ0_length_8abf5 F_J0_length_8abf5 (.code yJ0_length_8abf5 F_J0_length_8abf5.2.1 F_J0_length_8abf5.2.2.1 (some .int)) [.ref (G.2.2.2.2.1 i)] h n (fun r9 h9 _ => r9 = some (.int (slen i)) ∧ h9 = h) (fun _ _ _ => False) := Sd.ofJ hG ⟨by decide +kernel, rfl, rfl⟩ rfl (Nat.le_of_ble_eq_true rfl) rfl (fun C hK => by
  refine V_aload_n d_J0_length_8abf5_0 rfl rfl ?_
  refine V_strval (ref := "") d_J0_length_8abf5_1 hi w_2100 ?_
  refine V_strlen (v := slen i) d_J0_length_8abf5_4 hi rfl ?_
  refine V_aload_n d_J0_length_8abf5_5 rfl rfl ?_
  refine V_callStr (s_J0_coder_7d493 hG hi) m_J0_coder_7d493 kv_RJ0_335 rfl hi d_J0_length_8abf5_6 rfl (Nat.le_of_ble_eq_true rfl) ⟨(Nat.le_of_ble_eq_true rfl), (Nat.le_of_ble_eq_true rfl), (Nat.le_of_ble_eq_true rfl)⟩ (fun _ _ _ h => h.elim) (fun r9 h9 n9 q9 => ?_)
  obtain ⟨rfl, rfl⟩ := q9
  refine V_ishr d_J0_length_8abf5_9 ?_
  rw [sb_shr0]
  exact V_iret hK d_J0_length_8abf5_10 (Nat.le_of_ble_eq_true rfl) (Nat.le_of_ble_eq_true rfl) ⟨rfl, rfl⟩)
theorem s_J3_checkIndex_8e157 {G : Gl} (hG : G.1.stackTraces = false) {p0 p1 : Int32} {v : Value} (hv : v.category = 1) (h0 : ¬ p0 < 0) (h1 : p0 < p1) {h : Hm} {n : Nat} : Sd G yJ3_checkIndex_8e157 F_J3_checkIndex_8e157 (.code yJ3_checkIndex_8e157 F_J3_checkIndex_8e157.2.1 F_J3_checkIndex_8e157.2.2.1 (some .int)) [.int p0, .int p1, v] h n (fun r9 h9 _ => r9 = some (.int p0) ∧ h9 = h) (fun _ _ _ => False) := Sd.ofJ hG ⟨by decide +kernel, rfl, rfl⟩ (by show ((Value.int p0).category == 1 && ((Value.int p1).category == 1 && (v.category == 1 && true))) = true; rw [hv]; rfl) (Nat.le_of_ble_eq_true rfl) rfl (fun C hK => by
  refine V_iload_n d_J3_checkIndex_8e157_0 rfl rfl ?_
  refine V_if_lt (tgt := 9) d_J3_checkIndex_8e157_1 (by decide) (fun q => absurd q h0) (fun _ => ?_)
  refine V_iload_n d_J3_checkIndex_8e157_4 rfl rfl ?_
  refine V_iload_n d_J3_checkIndex_8e157_5 rfl rfl ?_
  refine V_icmp_lt (tgt := 16) d_J3_checkIndex_8e157_6 (by decide) (fun _ => ?_) (fun q => absurd h1 q)
  refine V_iload_n d_J3_checkIndex_8e157_16 rfl rfl ?_
  exact V_iret hK d_J3_checkIndex_8e157_17 (Nat.le_of_ble_eq_true rfl) (Nat.le_of_ble_eq_true rfl) ⟨rfl, rfl⟩)
theorem s_J0_checkIndex_df160 {G : Gl} (hG : G.1.stackTraces = false) {p0 p1 : Int32} (h0 : ¬ p0 < 0) (h1 : p0 < p1) {h : Hm} {n : Nat} : Sd G yJ0_checkIndex_df160 F_J0_checkIndex_df160 (.code yJ0_checkIndex_df160 F_J0_checkIndex_df160.2.1 F_J0_checkIndex_df160.2.2.1 none) [.int p0, .int p1] h n (fun r9 h9 _ => r9 = none ∧ h9 = h) (fun _ _ _ => False) := Sd.ofJ hG ⟨by decide +kernel, rfl, rfl⟩ rfl (Nat.le_of_ble_eq_true rfl) rfl (fun C hK => by
  refine V_iload_n d_J0_checkIndex_df160_0 rfl rfl ?_
  refine V_iload_n d_J0_checkIndex_df160_1 rfl rfl ?_
  refine V_sio d_J0_checkIndex_df160_2 w_649 (fun v hv => ?_)
  refine V_callS (As := [.int p0, .int p1, v]) (s_J3_checkIndex_8e157 hG hv h0 h1) m_J3_checkIndex_8e157 ks_RJ0_1059 d_J0_checkIndex_df160_5 rfl (Nat.le_of_ble_eq_true rfl) ⟨(Nat.le_of_ble_eq_true rfl), (Nat.le_of_ble_eq_true rfl), (Nat.le_of_ble_eq_true rfl)⟩ (fun _ _ _ h => h.elim) (fun r9 h9 n9 q9 => ?_)
  obtain ⟨rfl, rfl⟩ := q9
  refine V_pop d_J0_checkIndex_df160_8 rfl ?_
  exact V_vret hK d_J0_checkIndex_df160_9 (Nat.le_of_ble_eq_true rfl) (Nat.le_of_ble_eq_true rfl) ⟨rfl, rfl⟩)
theorem s_J1_charAt_3b067 {G : Gl} (hG : G.1.stackTraces = false) {i : Nat} (hi : i < nS_n) {k v : Int32} (hv : schar i k = some v) {h : Hm} {n : Nat} : Sd G yJ1_charAt_3b067 F_J1_charAt_3b067 (.code yJ1_charAt_3b067 F_J1_charAt_3b067.2.1 F_J1_charAt_3b067.2.2.1 (some .char)) [.ref (G.2.2.2.2.2 i), .int k] h n (fun r9 h9 _ => r9 = some (.int v) ∧ h9 = h) (fun _ _ _ => False) := Sd.ofJ hG ⟨by decide +kernel, rfl, rfl⟩ rfl (Nat.le_of_ble_eq_true rfl) rfl (fun C hK => by
  obtain ⟨h1, h2, h3⟩ := schar_some hi hv
  refine V_iload_n d_J1_charAt_3b067_0 rfl rfl ?_
  refine V_aload_n d_J1_charAt_3b067_1 rfl rfl ?_
  refine V_strlen (v := slen i) d_J1_charAt_3b067_2 hi rfl ?_
  refine V_callS (As := [.int k, .int (slen i)]) (s_J0_checkIndex_df160 hG h1 h2) m_J0_checkIndex_df160 ks_RJ1_9 d_J1_charAt_3b067_3 rfl (Nat.le_of_ble_eq_true rfl) ⟨(Nat.le_of_ble_eq_true rfl), (Nat.le_of_ble_eq_true rfl), (Nat.le_of_ble_eq_true rfl)⟩ (fun _ _ _ h => h.elim) (fun r9 h9 n9 q9 => ?_)
  obtain ⟨rfl, rfl⟩ := q9
  refine V_aload_n d_J1_charAt_3b067_6 rfl rfl ?_
  refine V_iload_n d_J1_charAt_3b067_7 rfl rfl ?_
  refine V_strbyt d_J1_charAt_3b067_8 hi h3.1 rfl ?_
  refine V_sipush (v := 255) d_J1_charAt_3b067_9 (by decide) ?_
  refine V_iand d_J1_charAt_3b067_12 ?_
  refine V_i2c d_J1_charAt_3b067_13 ?_
  rw [h3.2]
  exact V_nret (by rw [← h3.2]; exact pk_nc _) hK d_J1_charAt_3b067_14 (Nat.le_of_ble_eq_true rfl) (Nat.le_of_ble_eq_true rfl) ⟨rfl, rfl⟩)
theorem s_J0_charAt_5068e {G : Gl} (hG : G.1.stackTraces = false) {i : Nat} (hi : i < nS_n) {k v : Int32} (hv : schar i k = some v) {h : Hm} {n : Nat} : Sd G yJ0_charAt_5068e F_J0_charAt_5068e (.code yJ0_charAt_5068e F_J0_charAt_5068e.2.1 F_J0_charAt_5068e.2.2.1 (some .char)) [.ref (G.2.2.2.2.1 i), .int k] h n (fun r9 h9 _ => r9 = some (.int v) ∧ h9 = h) (fun _ _ _ => False) := Sd.ofJ hG ⟨by decide +kernel, rfl, rfl⟩ rfl (Nat.le_of_ble_eq_true rfl) rfl (fun C hK => by
  have e9 : v = (v.toUInt32 % 65536).toInt32 ∨ True := Or.inr trivial
  refine V_aload_n d_J0_charAt_5068e_0 rfl rfl ?_
  refine V_callStr (s_J0_isLatin1_aae02 hG hi) m_J0_isLatin1_aae02 kv_RJ0_492 rfl hi d_J0_charAt_5068e_1 rfl (Nat.le_of_ble_eq_true rfl) ⟨(Nat.le_of_ble_eq_true rfl), (Nat.le_of_ble_eq_true rfl), (Nat.le_of_ble_eq_true rfl)⟩ (fun _ _ _ h => h.elim) (fun r9 h9 n9 q9 => ?_)
  obtain ⟨rfl, rfl⟩ := q9
  refine V_if_eq (tgt := 16) d_J0_charAt_5068e_4 (by decide) (fun c => absurd c (by decide)) (fun _ => ?_)
  refine V_aload_n d_J0_charAt_5068e_7 rfl rfl ?_
  refine V_strval (ref := "") d_J0_charAt_5068e_8 hi w_2100 ?_
  refine V_iload_n d_J0_charAt_5068e_11 rfl rfl ?_
  refine V_callS (As := [.ref (G.2.2.2.2.2 i), .int k]) (s_J1_charAt_3b067 hG hi hv) m_J1_charAt_3b067 ks_RJ0_495 d_J0_charAt_5068e_12 rfl (Nat.le_of_ble_eq_true rfl) ⟨(Nat.le_of_ble_eq_true rfl), (Nat.le_of_ble_eq_true rfl), (Nat.le_of_ble_eq_true rfl)⟩ (fun _ _ _ h => h.elim) (fun r9 h9 n9 q9 => ?_)
  obtain ⟨rfl, rfl⟩ := q9
  exact V_nret (schar_nar hi hv) hK d_J0_charAt_5068e_15 (Nat.le_of_ble_eq_true rfl) (Nat.le_of_ble_eq_true rfl) ⟨rfl, rfl⟩)
section RowsS
variable {G : Gl} {C : Cx} {F F' : Fi} {pc : Nat} {ls : List (Option Value)} {st : List Value} {μ : Mem} {n kc ks : Nat}
theorem B_slen (hG : G.1.stackTraces = false) {i idx : Nat} (hi : i < nS_n) (hl : LkV F.1 idx yJ0_length_8abf5) (hd : decode F.2.1 pc = .ok (.invokevirtual idx, 3)) (hz : kc ≤ F.2.2.2.2.1 ∧ ks ≤ F.2.2.2.2.2.1 ∧ 5 < F.2.2.2.1) (hw : (st.map fun v => v.category).sum ≤ 8) (k : ∀ n', V G C F (pc + 3) ls (.int (slen i) :: st) (pic G μ) n' kc ks) : V G C F pc ls (.ref (G.2.2.2.2.1 i) :: st) (pic G μ) n kc ks := by
  refine V_callStr (As := []) (s_J0_length_8abf5 hG hi) m_J0_length_8abf5 hl rfl hi hd rfl hw ⟨Nat.lt_trans (show (2 : Nat) < 5 by decide) hz.2.2, hz.1, hz.2.1⟩ (fun _ _ _ h => h.elim) (fun r9 h9 n9 q9 => ?_)
  obtain ⟨rfl, rfl⟩ := q9
  exact k n9
theorem B_schar (hG : G.1.stackTraces = false) {i idx : Nat} {q v : Int32} (hi : i < nS_n) (hv : schar i q = some v) (hl : LkV F.1 idx yJ0_charAt_5068e) (hd : decode F.2.1 pc = .ok (.invokevirtual idx, 3)) (hz : kc ≤ F.2.2.2.2.1 ∧ ks ≤ F.2.2.2.2.2.1 ∧ 5 < F.2.2.2.1) (hw : (st.map fun v => v.category).sum ≤ 8) (k : ∀ n', V G C F (pc + 3) ls (.int v :: st) (pic G μ) n' kc ks) : V G C F pc ls (.int q :: .ref (G.2.2.2.2.1 i) :: st) (pic G μ) n kc ks := by
  refine V_callStr (As := [.int q]) (s_J0_charAt_5068e hG hi hv) m_J0_charAt_5068e hl rfl hi hd rfl hw ⟨Nat.lt_trans (show (4 : Nat) < 5 by decide) hz.2.2, hz.1, hz.2.1⟩ (fun _ _ _ h => h.elim) (fun r9 h9 n9 q9 => ?_)
  obtain ⟨rfl, rfl⟩ := q9
  exact k n9
end RowsS
