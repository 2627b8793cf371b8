theorem elimR {α β γ : Type} {f : α → γ} {g : β → γ} {v : β} {r : γ} (h : Sum.elim f g (.inr v) = r) : g v = r := h
theorem d_X10_parting_0 : decode cX10_parting 0 = .ok (.iconst (-1), 1) := by decide +kernel
theorem d_X10_parting_1 : decode cX10_parting 1 = .ok (.istore_n 1, 1) := by decide +kernel
theorem d_X10_parting_2 : decode cX10_parting 2 = .ok (.aload_n 0, 1) := by decide +kernel
theorem d_X10_parting_3 : decode cX10_parting 3 = .ok (.getfield 19, 3) := by decide +kernel
theorem d_X10_parting_6 : decode cX10_parting 6 = .ok (.istore_n 2, 1) := by decide +kernel
theorem d_X10_parting_7 : decode cX10_parting 7 = .ok (.iconst 0, 1) := by decide +kernel
theorem d_X10_parting_8 : decode cX10_parting 8 = .ok (.istore_n 3, 1) := by decide +kernel
theorem d_X10_parting_9 : decode cX10_parting 9 = .ok (.iload_n 3, 1) := by decide +kernel
theorem d_X10_parting_10 : decode cX10_parting 10 = .ok (.aload_n 0, 1) := by decide +kernel
theorem d_X10_parting_11 : decode cX10_parting 11 = .ok (.getfield 15, 3) := by decide +kernel
theorem d_X10_parting_14 : decode cX10_parting 14 = .ok (.if_icmp .ge 50, 3) := by decide +kernel
theorem d_X10_parting_17 : decode cX10_parting 17 = .ok (.aload_n 0, 1) := by decide +kernel
theorem d_X10_parting_18 : decode cX10_parting 18 = .ok (.getfield 19, 3) := by decide +kernel
theorem d_X10_parting_21 : decode cX10_parting 21 = .ok (.iconst 1, 1) := by decide +kernel
theorem d_X10_parting_22 : decode cX10_parting 22 = .ok (.if_icmp .le 42, 3) := by decide +kernel
theorem d_X10_parting_25 : decode cX10_parting 25 = .ok (.aload_n 0, 1) := by decide +kernel
theorem d_X10_parting_26 : decode cX10_parting 26 = .ok (.getfield 9, 3) := by decide +kernel
theorem d_X10_parting_29 : decode cX10_parting 29 = .ok (.iload_n 3, 1) := by decide +kernel
theorem d_X10_parting_30 : decode cX10_parting 30 = .ok (.iaload, 1) := by decide +kernel
theorem d_X10_parting_31 : decode cX10_parting 31 = .ok (.aload_n 0, 1) := by decide +kernel
theorem d_X10_parting_32 : decode cX10_parting 32 = .ok (.getfield 19, 3) := by decide +kernel
theorem d_X10_parting_35 : decode cX10_parting 35 = .ok (.aload_n 0, 1) := by decide +kernel
theorem d_X10_parting_36 : decode cX10_parting 36 = .ok (.getfield 9, 3) := by decide +kernel
theorem d_X10_parting_39 : decode cX10_parting 39 = .ok (.iload_n 3, 1) := by decide +kernel
theorem d_X10_parting_40 : decode cX10_parting 40 = .ok (.iaload, 1) := by decide +kernel
theorem d_X10_parting_41 : decode cX10_parting 41 = .ok (.isub, 1) := by decide +kernel
theorem d_X10_parting_42 : decode cX10_parting 42 = .ok (.invokestatic 42, 3) := by decide +kernel
theorem d_X10_parting_45 : decode cX10_parting 45 = .ok (.istore 4, 2) := by decide +kernel
theorem d_X10_parting_47 : decode cX10_parting 47 = .ok (.iload 4, 2) := by decide +kernel
theorem d_X10_parting_49 : decode cX10_parting 49 = .ok (.iload_n 2, 1) := by decide +kernel
theorem d_X10_parting_50 : decode cX10_parting 50 = .ok (.if_icmp .ge 8, 3) := by decide +kernel
theorem d_X10_parting_53 : decode cX10_parting 53 = .ok (.iload 4, 2) := by decide +kernel
theorem d_X10_parting_55 : decode cX10_parting 55 = .ok (.istore_n 2, 1) := by decide +kernel
theorem d_X10_parting_56 : decode cX10_parting 56 = .ok (.iload_n 3, 1) := by decide +kernel
theorem d_X10_parting_57 : decode cX10_parting 57 = .ok (.istore_n 1, 1) := by decide +kernel
theorem d_X10_parting_58 : decode cX10_parting 58 = .ok (.iinc 3 1, 3) := by decide +kernel
theorem d_X10_parting_61 : decode cX10_parting 61 = .ok (.goto (-52), 3) := by decide +kernel
theorem d_X10_parting_64 : decode cX10_parting 64 = .ok (.iload_n 1, 1) := by decide +kernel
theorem d_X10_parting_65 : decode cX10_parting 65 = .ok (.ireturn, 1) := by decide +kernel
theorem s_X10_parting_j58_9 {G : Gl} (hG : G.1.stackTraces = false) {C : Cx} {n : Nat} {μ : Mem} {l1 : Int32} {l2 : Int32} {l3 : Int32} {y : ((Int32 × Int32 × Int32) ⊕ Int32)} (hf : f_X10_parting_j58_9 μ l1 l2 l3 = some y) (hK : (∀ z', y = .inl z' → ∀ n, V G C F_X10_parting 9 [some (.ref (G.2.1 + 262)), some (.int z'.1), some (.int z'.2.1), some (.int z'.2.2), none] [] (pic G μ) n 0 0) ∧ (∀ x', y = .inr x' → ∀ n, V G C F_X10_parting 64 [none, some (.int x'), none, none, none] [] (pic G μ) n 0 0)) : V G C F_X10_parting 58 [some (.ref (G.2.1 + 262)), some (.int l1), some (.int l2), some (.int l3), none] [] (pic G μ) n 0 0 := by
  unfold f_X10_parting_j58_9 at hf
  refine V_iinc (v := (l3 + 1)) (ls' := [_, _, _, _, _]) d_X10_parting_58 rfl (by rw [ic_1]) rfl ?_
  refine V_goto (tgt := 9) d_X10_parting_61 (by decide) ?_
  refine V_less (ls' := [some _, some _, some _, some _, none]) ⟨rfl, rfl, rfl, rfl, trivial⟩ ?_
  cases hf
  exact hK.1 _ rfl _
theorem s_X10_parting_b9 {G : Gl} (hG : G.1.stackTraces = false) {C : Cx} {n : Nat} {μ : Mem} {l1 : Int32} {l2 : Int32} {l3 : Int32} {y : ((Int32 × Int32 × Int32) ⊕ Int32)} (hf : f_X10_parting_b9 μ l1 l2 l3 = some y) (hK : (∀ z', y = .inl z' → ∀ n, V G C F_X10_parting 9 [some (.ref (G.2.1 + 262)), some (.int z'.1), some (.int z'.2.1), some (.int z'.2.2), none] [] (pic G μ) n 0 0) ∧ (∀ x', y = .inr x' → ∀ n, V G C F_X10_parting 64 [none, some (.int x'), none, none, none] [] (pic G μ) n 0 0)) : V G C F_X10_parting 9 [some (.ref (G.2.1 + 262)), some (.int l1), some (.int l2), some (.int l3), none] [] (pic G μ) n 0 0 := by
  unfold f_X10_parting_b9 at hf
  refine V_iload_n d_X10_parting_9 rfl rfl ?_
  refine V_aload_n d_X10_parting_10 rfl rfl ?_
  refine B_get k_262 fl_RX10_15 d_X10_parting_11 g_10_2 ?_
  refine V_icmp_ge (tgt := 64) d_X10_parting_14 (by decide) (fun c14 => ?_) (fun c14 => ?_)
  · replace hf := iteT c14 hf
    refine V_less (ls' := [none, some _, none, none, none]) ⟨rfl, trivial⟩ ?_
    cases hf
    exact hK.2 _ rfl _
  · replace hf := iteF c14 hf
    refine V_aload_n d_X10_parting_17 rfl rfl ?_
    refine B_get k_262 fl_RX10_19 d_X10_parting_18 g_10_3 ?_
    refine V_iconst (v := 1) d_X10_parting_21 ic_1 ?_
    refine V_icmp_le (tgt := 64) d_X10_parting_22 (by decide) (fun c22 => ?_) (fun c22 => ?_)
    · replace hf := iteT c22 hf
      refine V_less (ls' := [none, some _, none, none, none]) ⟨rfl, trivial⟩ ?_
      cases hf
      exact hK.2 _ rfl _
    · replace hf := iteF c22 hf
      refine V_aload_n d_X10_parting_25 rfl rfl ?_
      refine B_get k_262 fl_RX10_9 d_X10_parting_26 g_10_1 ?_
      refine V_iload_n d_X10_parting_29 rfl rfl ?_
      obtain ⟨t1, ht1, hf⟩ := ob hf
      refine B_iald k_263 ht1 d_X10_parting_30 ?_
      refine V_aload_n d_X10_parting_31 rfl rfl ?_
      refine B_get k_262 fl_RX10_19 d_X10_parting_32 g_10_3 ?_
      refine V_aload_n d_X10_parting_35 rfl rfl ?_
      refine B_get k_262 fl_RX10_9 d_X10_parting_36 g_10_1 ?_
      refine V_iload_n d_X10_parting_39 rfl rfl ?_
      obtain ⟨t2, ht2, hf⟩ := ob hf
      refine B_iald k_263 ht2 d_X10_parting_40 ?_
      refine V_isub d_X10_parting_41 ?_
      obtain ⟨t3, ht3, hf⟩ := ob hf
      refine B_callS1 (s_J9_max_7cf53 hG ht3) m_J9_max_7cf53 ks_RX10_42 d_X10_parting_42 rfl (Nat.le_of_ble_eq_true rfl) ⟨rfl, rfl, Nat.le_of_ble_eq_true rfl, Nat.le_of_ble_eq_true rfl, Nat.le_of_ble_eq_true rfl⟩ (fun n => ?_)
      refine V_istore (ls' := [_, _, _, _, _]) d_X10_parting_45 rfl rfl ?_
      refine V_iload d_X10_parting_47 rfl ?_
      refine V_iload_n d_X10_parting_49 rfl rfl ?_
      refine V_icmp_ge (tgt := 58) d_X10_parting_50 (by decide) (fun c50 => ?_) (fun c50 => ?_)
      · replace hf := iteT c50 hf
        refine V_less (ls' := [some _, some _, some _, some _, none]) ⟨rfl, rfl, rfl, rfl, trivial⟩ ?_
        exact s_X10_parting_j58_9 hG hf hK
      · replace hf := iteF c50 hf
        refine V_iload d_X10_parting_53 rfl ?_
        refine V_istore_n (ls' := [_, _, _, _, _]) d_X10_parting_55 rfl rfl rfl ?_
        refine V_iload_n d_X10_parting_56 rfl rfl ?_
        refine V_istore_n (ls' := [_, _, _, _, _]) d_X10_parting_57 rfl rfl rfl ?_
        refine V_less (ls' := [some _, some _, some _, some _, none]) ⟨rfl, rfl, rfl, rfl, trivial⟩ ?_
        exact s_X10_parting_j58_9 hG hf hK
theorem s_X10_parting_j64 {G : Gl} (hG : G.1.stackTraces = false) {C : Cx} {n : Nat} {μ : Mem} {l1 : Int32} {r : Int32} (hf : f_X10_parting_j64 μ l1 = some r) (hK : FinR G C F_X10_parting (some .int) (some (.int r)) μ) : V G C F_X10_parting 64 [none, some (.int l1), none, none, none] [] (pic G μ) n 0 0 := by
  unfold f_X10_parting_j64 at hf
  refine V_iload_n d_X10_parting_64 rfl rfl ?_
  cases hf
  exact R_i hK d_X10_parting_65 (Nat.le_of_ble_eq_true rfl) (Nat.le_of_ble_eq_true rfl)
theorem s_X10_parting_l9 {G : Gl} (hG : G.1.stackTraces = false) {C : Cx} {n : Nat} {μ : Mem} {l1 : Int32} {l2 : Int32} {l3 : Int32} {r : Int32} (hf : f_X10_parting_l9 μ l1 l2 l3 = some r) (hK : FinR G C F_X10_parting (some .int) (some (.int r)) μ) : V G C F_X10_parting 9 [some (.ref (G.2.1 + 262)), some (.int l1), some (.int l2), some (.int l3), none] [] (pic G μ) n 0 0 := by
  unfold f_X10_parting_l9 at hf
  obtain ⟨t, hl, hf⟩ := ob hf
  refine loopV (P := fun z => ∀ n, V G C F_X10_parting 9 [some (.ref (G.2.1 + 262)), some (.int z.1), some (.int z.2.1), some (.int z.2.2), none] [] (pic G μ) n 0 0) (t := t) ?_ _ _ hl n
  intro z y' hy hI hT n
  refine s_X10_parting_b9 hG hy ⟨hI, fun x9 ex => ?_⟩
  have ex2 := hT x9 ex
  subst ex2
  intro n
  exact s_X10_parting_j64 hG hf hK
theorem s_X10_parting_e {G : Gl} (hG : G.1.stackTraces = false) {C : Cx} {n : Nat} {μ : Mem}  {r : Int32} (hf : f_X10_parting μ = some r) (hK : FinR G C F_X10_parting (some .int) (some (.int r)) μ) : V G C F_X10_parting 0 [some (.ref (G.2.1 + 262)), none, none, none, none] [] (pic G μ) n 0 0 := by
  unfold f_X10_parting at hf
  refine V_iconst (v := (-1)) d_X10_parting_0 ic_m1 ?_
  refine V_istore_n (ls' := [_, _, _, _, _]) d_X10_parting_1 rfl rfl rfl ?_
  refine V_aload_n d_X10_parting_2 rfl rfl ?_
  refine B_get k_262 fl_RX10_19 d_X10_parting_3 g_10_3 ?_
  refine V_istore_n (ls' := [_, _, _, _, _]) d_X10_parting_6 rfl rfl rfl ?_
  refine V_iconst (v := 0) d_X10_parting_7 ic_0 ?_
  refine V_istore_n (ls' := [_, _, _, _, _]) d_X10_parting_8 rfl rfl rfl ?_
  refine V_less (ls' := [some _, some _, some _, some _, none]) ⟨rfl, rfl, rfl, rfl, trivial⟩ ?_
  exact s_X10_parting_l9 hG hf hK
theorem s_X10_parting {G : Gl} (hG : G.1.stackTraces = false) {μ : Mem} {r : Int32} (hf : f_X10_parting μ = some r) : Rt G yX10_parting F_X10_parting (some .int) [.ref (G.2.1 + 262)] μ (some (.int r)) μ := fun n => Sd.of hG ⟨by decide +kernel, rfl, rfl⟩ rfl (Nat.le_of_ble_eq_true rfl) rfl (fun C hK => s_X10_parting_e hG hf hK)
theorem d_X11_feed_0 : decode cX11_feed 0 = .ok (.aload_n 0, 1) := by decide +kernel
theorem d_X11_feed_1 : decode cX11_feed 1 = .ok (.getfield 10, 3) := by decide +kernel
theorem d_X11_feed_4 : decode cX11_feed 4 = .ok (.getfield 94, 3) := by decide +kernel
theorem d_X11_feed_7 : decode cX11_feed 7 = .ok (.bipush 20, 2) := by decide +kernel
theorem d_X11_feed_9 : decode cX11_feed 9 = .ok (.iadd, 1) := by decide +kernel
theorem d_X11_feed_10 : decode cX11_feed 10 = .ok (.sipush 400, 3) := by decide +kernel
theorem d_X11_feed_13 : decode cX11_feed 13 = .ok (.if_icmp .le 5, 3) := by decide +kernel
theorem d_X11_feed_16 : decode cX11_feed 16 = .ok (.iconst (-1), 1) := by decide +kernel
theorem d_X11_feed_17 : decode cX11_feed 17 = .ok (.ireturn, 1) := by decide +kernel
theorem d_X11_feed_18 : decode cX11_feed 18 = .ok (.aload_n 0, 1) := by decide +kernel
theorem d_X11_feed_19 : decode cX11_feed 19 = .ok (.getfield 10, 3) := by decide +kernel
theorem d_X11_feed_22 : decode cX11_feed 22 = .ok (.iload_n 1, 1) := by decide +kernel
theorem d_X11_feed_23 : decode cX11_feed 23 = .ok (.invokevirtual 98, 3) := by decide +kernel
theorem d_X11_feed_26 : decode cX11_feed 26 = .ok (.aload_n 0, 1) := by decide +kernel
theorem d_X11_feed_27 : decode cX11_feed 27 = .ok (.getfield 10, 3) := by decide +kernel
theorem d_X11_feed_30 : decode cX11_feed 30 = .ok (.iload_n 2, 1) := by decide +kernel
theorem d_X11_feed_31 : decode cX11_feed 31 = .ok (.invokevirtual 98, 3) := by decide +kernel
theorem d_X11_feed_34 : decode cX11_feed 34 = .ok (.aload_n 0, 1) := by decide +kernel
theorem d_X11_feed_35 : decode cX11_feed 35 = .ok (.getfield 10, 3) := by decide +kernel
theorem d_X11_feed_38 : decode cX11_feed 38 = .ok (.iload_n 3, 1) := by decide +kernel
theorem d_X11_feed_39 : decode cX11_feed 39 = .ok (.invokevirtual 98, 3) := by decide +kernel
theorem d_X11_feed_42 : decode cX11_feed 42 = .ok (.aload_n 0, 1) := by decide +kernel
theorem d_X11_feed_43 : decode cX11_feed 43 = .ok (.getfield 10, 3) := by decide +kernel
theorem d_X11_feed_46 : decode cX11_feed 46 = .ok (.iload 4, 2) := by decide +kernel
theorem d_X11_feed_48 : decode cX11_feed 48 = .ok (.invokevirtual 98, 3) := by decide +kernel
theorem d_X11_feed_51 : decode cX11_feed 51 = .ok (.aload_n 0, 1) := by decide +kernel
theorem d_X11_feed_52 : decode cX11_feed 52 = .ok (.getfield 10, 3) := by decide +kernel
theorem d_X11_feed_55 : decode cX11_feed 55 = .ok (.iload 5, 2) := by decide +kernel
theorem d_X11_feed_57 : decode cX11_feed 57 = .ok (.invokevirtual 98, 3) := by decide +kernel
theorem d_X11_feed_60 : decode cX11_feed 60 = .ok (.aload_n 0, 1) := by decide +kernel
theorem d_X11_feed_61 : decode cX11_feed 61 = .ok (.getfield 10, 3) := by decide +kernel
theorem d_X11_feed_64 : decode cX11_feed 64 = .ok (.getfield 94, 3) := by decide +kernel
theorem d_X11_feed_67 : decode cX11_feed 67 = .ok (.ireturn, 1) := by decide +kernel
theorem s_X11_feed_e {G : Gl} (hG : G.1.stackTraces = false) {C : Cx} {n : Nat} {μ : Mem} {p1 : Int32} {p2 : Int32} {p3 : Int32} {p4 : Int32} {p5 : Int32} {r : (Int32 × Mem)} (hf : f_X11_feed μ p1 p2 p3 p4 p5 = some r) (hK : FinR G C F_X11_feed (some .int) (some (.int r.1)) r.2) : V G C F_X11_feed 0 [some (.ref (G.2.1 + 0)), some (.int p1), some (.int p2), some (.int p3), some (.int p4), some (.int p5)] [] (pic G μ) n 0 0 := by
  unfold f_X11_feed at hf
  refine V_aload_n d_X11_feed_0 rfl rfl ?_
  refine B_get k_0 fl_RX11_10 d_X11_feed_1 g_11_0 ?_
  refine B_get k_1 fl_RX11_94 d_X11_feed_4 g_8_1 ?_
  refine V_bipush (v := 20) d_X11_feed_7 bp_20 ?_
  refine V_iadd d_X11_feed_9 ?_
  refine V_sipush (v := 400) d_X11_feed_10 sp_400 ?_
  refine V_icmp_le (tgt := 18) d_X11_feed_13 (by decide) (fun c13 => ?_) (fun c13 => ?_)
  · replace hf := iteT c13 hf
    refine V_aload_n d_X11_feed_18 rfl rfl ?_
    refine B_get k_0 fl_RX11_10 d_X11_feed_19 g_11_0 ?_
    refine V_iload_n d_X11_feed_22 rfl rfl ?_
    obtain ⟨q1, hq1, hf⟩ := ob hf
    refine B_callV0 (s_X8_add hG hq1) k_1 clX8 m_X8_add kv_RX11_98 d_X11_feed_23 rfl (Nat.le_of_ble_eq_true rfl) ⟨rfl, rfl, Nat.le_of_ble_eq_true rfl, Nat.le_of_ble_eq_true rfl, Nat.le_of_ble_eq_true rfl⟩ (fun n => ?_)
    refine V_aload_n d_X11_feed_26 rfl rfl ?_
    refine B_get k_0 fl_RX11_10 d_X11_feed_27 g_11_0 ?_
    refine V_iload_n d_X11_feed_30 rfl rfl ?_
    obtain ⟨q2, hq2, hf⟩ := ob hf
    refine B_callV0 (s_X8_add hG hq2) k_1 clX8 m_X8_add kv_RX11_98 d_X11_feed_31 rfl (Nat.le_of_ble_eq_true rfl) ⟨rfl, rfl, Nat.le_of_ble_eq_true rfl, Nat.le_of_ble_eq_true rfl, Nat.le_of_ble_eq_true rfl⟩ (fun n => ?_)
    refine V_aload_n d_X11_feed_34 rfl rfl ?_
    refine B_get k_0 fl_RX11_10 d_X11_feed_35 g_11_0 ?_
    refine V_iload_n d_X11_feed_38 rfl rfl ?_
    obtain ⟨q3, hq3, hf⟩ := ob hf
    refine B_callV0 (s_X8_add hG hq3) k_1 clX8 m_X8_add kv_RX11_98 d_X11_feed_39 rfl (Nat.le_of_ble_eq_true rfl) ⟨rfl, rfl, Nat.le_of_ble_eq_true rfl, Nat.le_of_ble_eq_true rfl, Nat.le_of_ble_eq_true rfl⟩ (fun n => ?_)
    refine V_aload_n d_X11_feed_42 rfl rfl ?_
    refine B_get k_0 fl_RX11_10 d_X11_feed_43 g_11_0 ?_
    refine V_iload d_X11_feed_46 rfl ?_
    obtain ⟨q4, hq4, hf⟩ := ob hf
    refine B_callV0 (s_X8_add hG hq4) k_1 clX8 m_X8_add kv_RX11_98 d_X11_feed_48 rfl (Nat.le_of_ble_eq_true rfl) ⟨rfl, rfl, Nat.le_of_ble_eq_true rfl, Nat.le_of_ble_eq_true rfl, Nat.le_of_ble_eq_true rfl⟩ (fun n => ?_)
    refine V_aload_n d_X11_feed_51 rfl rfl ?_
    refine B_get k_0 fl_RX11_10 d_X11_feed_52 g_11_0 ?_
    refine V_iload d_X11_feed_55 rfl ?_
    obtain ⟨q5, hq5, hf⟩ := ob hf
    refine B_callV0 (s_X8_add hG hq5) k_1 clX8 m_X8_add kv_RX11_98 d_X11_feed_57 rfl (Nat.le_of_ble_eq_true rfl) ⟨rfl, rfl, Nat.le_of_ble_eq_true rfl, Nat.le_of_ble_eq_true rfl, Nat.le_of_ble_eq_true rfl⟩ (fun n => ?_)
    refine V_aload_n d_X11_feed_60 rfl rfl ?_
    refine B_get k_0 fl_RX11_10 d_X11_feed_61 g_11_0 ?_
    refine B_get k_1 fl_RX11_94 d_X11_feed_64 g_8_1 ?_
    cases hf
    exact R_i hK d_X11_feed_67 (Nat.le_of_ble_eq_true rfl) (Nat.le_of_ble_eq_true rfl)
  · replace hf := iteF c13 hf
    refine V_iconst (v := (-1)) d_X11_feed_16 ic_m1 ?_
    cases hf
    exact R_i hK d_X11_feed_17 (Nat.le_of_ble_eq_true rfl) (Nat.le_of_ble_eq_true rfl)
theorem s_X11_feed {G : Gl} (hG : G.1.stackTraces = false) {μ : Mem} {p1 : Int32} {p2 : Int32} {p3 : Int32} {p4 : Int32} {p5 : Int32} {r : (Int32 × Mem)} (hf : f_X11_feed μ p1 p2 p3 p4 p5 = some r) : Rt G yX11_feed F_X11_feed (some .int) [.ref (G.2.1 + 0), .int p1, .int p2, .int p3, .int p4, .int p5] μ (some (.int r.1)) r.2 := fun n => Sd.of hG ⟨by decide +kernel, rfl, rfl⟩ rfl (Nat.le_of_ble_eq_true rfl) rfl (fun C hK => s_X11_feed_e hG hf hK)
theorem d_X11_end_0 : decode cX11_end 0 = .ok (.iload_n 1, 1) := by decide +kernel
theorem d_X11_end_1 : decode cX11_end 1 = .ok (.ifCond .lt 14, 3) := by decide +kernel
theorem d_X11_end_4 : decode cX11_end 4 = .ok (.iload_n 1, 1) := by decide +kernel
theorem d_X11_end_5 : decode cX11_end 5 = .ok (.aload_n 0, 1) := by decide +kernel
theorem d_X11_end_6 : decode cX11_end 6 = .ok (.getfield 10, 3) := by decide +kernel
theorem d_X11_end_9 : decode cX11_end 9 = .ok (.getfield 94, 3) := by decide +kernel
theorem d_X11_end_12 : decode cX11_end 12 = .ok (.if_icmp .le 5, 3) := by decide +kernel
theorem d_X11_end_15 : decode cX11_end 15 = .ok (.iconst 0, 1) := by decide +kernel
theorem d_X11_end_16 : decode cX11_end 16 = .ok (.ireturn, 1) := by decide +kernel
theorem d_X11_end_17 : decode cX11_end 17 = .ok (.aload_n 0, 1) := by decide +kernel
theorem d_X11_end_18 : decode cX11_end 18 = .ok (.getfield 10, 3) := by decide +kernel
theorem d_X11_end_21 : decode cX11_end 21 = .ok (.iload_n 1, 1) := by decide +kernel
theorem d_X11_end_22 : decode cX11_end 22 = .ok (.putfield 94, 3) := by decide +kernel
theorem d_X11_end_25 : decode cX11_end 25 = .ok (.iconst 1, 1) := by decide +kernel
theorem d_X11_end_26 : decode cX11_end 26 = .ok (.ireturn, 1) := by decide +kernel
theorem s_X11_end_j15 {G : Gl} (hG : G.1.stackTraces = false) {C : Cx} {n : Nat} {μ : Mem}  {r : (Bool × Mem)} (hf : f_X11_end_j15 μ = some r) (hK : FinR G C F_X11_end (some .boolean) (some (.int (b2i r.1))) r.2) : V G C F_X11_end 15 [none, none] [] (pic G μ) n 0 0 := by
  unfold f_X11_end_j15 at hf
  refine V_iconst (v := 0) d_X11_end_15 ic_0 ?_
  cases hf
  exact R_z hK d_X11_end_16 (Nat.le_of_ble_eq_true rfl) (Nat.le_of_ble_eq_true rfl)
theorem s_X11_end_e {G : Gl} (hG : G.1.stackTraces = false) {C : Cx} {n : Nat} {μ : Mem} {p1 : Int32} {r : (Bool × Mem)} (hf : f_X11_end μ p1 = some r) (hK : FinR G C F_X11_end (some .boolean) (some (.int (b2i r.1))) r.2) : V G C F_X11_end 0 [some (.ref (G.2.1 + 0)), some (.int p1)] [] (pic G μ) n 0 0 := by
  unfold f_X11_end at hf
  refine V_iload_n d_X11_end_0 rfl rfl ?_
  refine V_if_lt (tgt := 15) d_X11_end_1 (by decide) (fun c1 => ?_) (fun c1 => ?_)
  · replace hf := iteT c1 hf
    refine V_less (ls' := [none, none]) trivial ?_
    exact s_X11_end_j15 hG hf hK
  · replace hf := iteF c1 hf
    refine V_iload_n d_X11_end_4 rfl rfl ?_
    refine V_aload_n d_X11_end_5 rfl rfl ?_
    refine B_get k_0 fl_RX11_10 d_X11_end_6 g_11_0 ?_
    refine B_get k_1 fl_RX11_94 d_X11_end_9 g_8_1 ?_
    refine V_icmp_le (tgt := 17) d_X11_end_12 (by decide) (fun c12 => ?_) (fun c12 => ?_)
    · replace hf := iteT c12 hf
      refine V_aload_n d_X11_end_17 rfl rfl ?_
      refine B_get k_0 fl_RX11_10 d_X11_end_18 g_11_0 ?_
      refine V_iload_n d_X11_end_21 rfl rfl ?_
      refine B_putI k_1 fl_RX11_94 pt_8_1 (Nat.le_of_ble_eq_true rfl) p_8_1 d_X11_end_22 ?_
      refine V_iconst (v := 1) d_X11_end_25 ic_1 ?_
      cases hf
      exact R_z hK d_X11_end_26 (Nat.le_of_ble_eq_true rfl) (Nat.le_of_ble_eq_true rfl)
    · replace hf := iteF c12 hf
      refine V_less (ls' := [none, none]) trivial ?_
      exact s_X11_end_j15 hG hf hK
theorem s_X11_end {G : Gl} (hG : G.1.stackTraces = false) {μ : Mem} {p1 : Int32} {r : (Bool × Mem)} (hf : f_X11_end μ p1 = some r) : Rt G yX11_end F_X11_end (some .boolean) [.ref (G.2.1 + 0), .int p1] μ (some (.int (b2i r.1))) r.2 := fun n => Sd.of hG ⟨by decide +kernel, rfl, rfl⟩ rfl (Nat.le_of_ble_eq_true rfl) rfl (fun C hK => s_X11_end_e hG hf hK)
theorem d_X6_readAll_72_0 : decode cX6_readAll 0 = .ok (.aload_n 0, 1) := by decide +kernel
theorem d_X6_readAll_72_1 : decode cX6_readAll 1 = .ok (.getfield 7, 3) := by decide +kernel
theorem d_X6_readAll_72_4 : decode cX6_readAll 4 = .ok (.invokevirtual 17, 3) := by decide +kernel
theorem d_X6_readAll_72_7 : decode cX6_readAll 7 = .ok (.aload_n 0, 1) := by decide +kernel
theorem d_X6_readAll_72_8 : decode cX6_readAll 8 = .ok (.getfield 7, 3) := by decide +kernel
theorem d_X6_readAll_72_11 : decode cX6_readAll 11 = .ok (.invokevirtual 22, 3) := by decide +kernel
theorem d_X6_readAll_72_14 : decode cX6_readAll 14 = .ok (.ifCond .ne 7, 3) := by decide +kernel
theorem d_X6_readAll_72_17 : decode cX6_readAll 17 = .ok (.iconst 1, 1) := by decide +kernel
theorem d_X6_readAll_72_18 : decode cX6_readAll 18 = .ok (.goto 4, 3) := by decide +kernel
theorem d_X6_readAll_72_21 : decode cX6_readAll 21 = .ok (.iconst 0, 1) := by decide +kernel
theorem d_X6_readAll_72_22 : decode cX6_readAll 22 = .ok (.istore_n 1, 1) := by decide +kernel
theorem d_X6_readAll_72_23 : decode cX6_readAll 23 = .ok (.iconst 0, 1) := by decide +kernel
theorem d_X6_readAll_72_24 : decode cX6_readAll 24 = .ok (.istore_n 2, 1) := by decide +kernel
theorem d_X6_readAll_72_25 : decode cX6_readAll 25 = .ok (.iload_n 2, 1) := by decide +kernel
theorem d_X6_readAll_72_26 : decode cX6_readAll 26 = .ok (.aload_n 0, 1) := by decide +kernel
theorem d_X6_readAll_72_27 : decode cX6_readAll 27 = .ok (.getfield 13, 3) := by decide +kernel
theorem d_X6_readAll_72_30 : decode cX6_readAll 30 = .ok (.if_icmp .gt 52, 3) := by decide +kernel
theorem d_X6_readAll_72_33 : decode cX6_readAll 33 = .ok (.iload_n 1, 1) := by decide +kernel
theorem d_X6_readAll_72_34 : decode cX6_readAll 34 = .ok (.ifCond .eq 48, 3) := by decide +kernel
theorem d_X6_readAll_72_37 : decode cX6_readAll 37 = .ok (.iload_n 2, 1) := by decide +kernel
theorem d_X6_readAll_72_38 : decode cX6_readAll 38 = .ok (.aload_n 0, 1) := by decide +kernel
theorem d_X6_readAll_72_39 : decode cX6_readAll 39 = .ok (.getfield 13, 3) := by decide +kernel
theorem d_X6_readAll_72_42 : decode cX6_readAll 42 = .ok (.if_icmp .ge 10, 3) := by decide +kernel
theorem d_X6_readAll_72_45 : decode cX6_readAll 45 = .ok (.aload_n 0, 1) := by decide +kernel
theorem d_X6_readAll_72_46 : decode cX6_readAll 46 = .ok (.invokevirtual 26, 3) := by decide +kernel
theorem d_X6_readAll_72_49 : decode cX6_readAll 49 = .ok (.goto 17, 3) := by decide +kernel
theorem d_X6_readAll_72_52 : decode cX6_readAll 52 = .ok (.aload_n 0, 1) := by decide +kernel
theorem d_X6_readAll_72_53 : decode cX6_readAll 53 = .ok (.getfield 7, 3) := by decide +kernel
theorem d_X6_readAll_72_56 : decode cX6_readAll 56 = .ok (.aload_n 0, 1) := by decide +kernel
theorem d_X6_readAll_72_57 : decode cX6_readAll 57 = .ok (.getfield 7, 3) := by decide +kernel
theorem d_X6_readAll_72_60 : decode cX6_readAll 60 = .ok (.getfield 29, 3) := by decide +kernel
theorem d_X6_readAll_72_63 : decode cX6_readAll 63 = .ok (.invokevirtual 32, 3) := by decide +kernel
theorem d_X6_readAll_72_66 : decode cX6_readAll 66 = .ok (.aload_n 0, 1) := by decide +kernel
theorem d_X6_readAll_72_67 : decode cX6_readAll 67 = .ok (.getfield 7, 3) := by decide +kernel
theorem d_X6_readAll_72_70 : decode cX6_readAll 70 = .ok (.bipush 59, 2) := by decide +kernel
theorem d_X6_readAll_72_72 : decode cX6_readAll 72 = .ok (.invokevirtual 36, 3) := by decide +kernel
theorem d_X6_readAll_72_75 : decode cX6_readAll 75 = .ok (.istore_n 1, 1) := by decide +kernel
theorem d_X6_readAll_72_76 : decode cX6_readAll 76 = .ok (.iinc 2 1, 3) := by decide +kernel
theorem d_X6_readAll_72_79 : decode cX6_readAll 79 = .ok (.goto (-54), 3) := by decide +kernel
theorem d_X6_readAll_72_82 : decode cX6_readAll 82 = .ok (.aload_n 0, 1) := by decide +kernel
theorem d_X6_readAll_72_83 : decode cX6_readAll 83 = .ok (.getfield 7, 3) := by decide +kernel
theorem d_X6_readAll_72_86 : decode cX6_readAll 86 = .ok (.invokevirtual 22, 3) := by decide +kernel
theorem d_X6_readAll_72_89 : decode cX6_readAll 89 = .ok (.ifCond .ne 17, 3) := by decide +kernel
theorem d_X6_readAll_72_92 : decode cX6_readAll 92 = .ok (.aload_n 0, 1) := by decide +kernel
theorem d_X6_readAll_72_93 : decode cX6_readAll 93 = .ok (.getfield 7, 3) := by decide +kernel
theorem d_X6_readAll_72_96 : decode cX6_readAll 96 = .ok (.aload_n 0, 1) := by decide +kernel
theorem d_X6_readAll_72_97 : decode cX6_readAll 97 = .ok (.getfield 7, 3) := by decide +kernel
theorem d_X6_readAll_72_100 : decode cX6_readAll 100 = .ok (.getfield 29, 3) := by decide +kernel
theorem d_X6_readAll_72_103 : decode cX6_readAll 103 = .ok (.invokevirtual 32, 3) := by decide +kernel
theorem d_X6_readAll_72_106 : decode cX6_readAll 106 = .ok (.return_, 1) := by decide +kernel
theorem s_X6_readAll_72_j66_25 {G : Gl} (hG : G.1.stackTraces = false) {C : Cx} {n : Nat} {μ : Mem} {l2 : Int32} {y : ((Bool × Int32 × Mem) ⊕ Mem)} (hf : f_X6_readAll_72_j66_25 μ l2 = some y) (hK : (∀ z', y = .inl z' → ∀ n, V G C F_X6_readAll_72 25 [some (.ref (G.2.1 + 72)), some (.int (b2i z'.1)), some (.int z'.2.1)] [] (pic G z'.2.2) n 0 0) ∧ (∀ x', y = .inr x' → ∀ n, V G C F_X6_readAll_72 82 [some (.ref (G.2.1 + 72)), none, none] [] (pic G x') n 0 0)) : V G C F_X6_readAll_72 66 [some (.ref (G.2.1 + 72)), none, some (.int l2)] [] (pic G μ) n 0 0 := by
  unfold f_X6_readAll_72_j66_25 at hf
  refine V_aload_n d_X6_readAll_72_66 rfl rfl ?_
  refine B_get k_72 fl_RX6_7_3 d_X6_readAll_72_67 g_3_0 ?_
  refine V_bipush (v := 59) d_X6_readAll_72_70 bp_59 ?_
  obtain ⟨q1, hq1, hf⟩ := ob hf
  refine B_callV1 (s_X8_takesSign hG hq1) k_1 clX8 m_X8_takesSign kv_RX6_36 d_X6_readAll_72_72 rfl (Nat.le_of_ble_eq_true rfl) ⟨rfl, rfl, Nat.le_of_ble_eq_true rfl, Nat.le_of_ble_eq_true rfl, Nat.le_of_ble_eq_true rfl⟩ (fun n => ?_)
  refine V_istore_n (ls' := [_, _, _]) d_X6_readAll_72_75 rfl rfl rfl ?_
  refine V_iinc (v := (l2 + 1)) (ls' := [_, _, _]) d_X6_readAll_72_76 rfl (by rw [ic_1]) rfl ?_
  refine V_goto (tgt := 25) d_X6_readAll_72_79 (by decide) ?_
  refine V_less (ls' := [some _, some _, some _]) ⟨rfl, rfl, rfl, trivial⟩ ?_
  cases hf
  exact hK.1 _ rfl _
theorem s_X6_readAll_72_b25 {G : Gl} (hG : G.1.stackTraces = false) {C : Cx} {n : Nat} {μ : Mem} {l1 : Bool} {l2 : Int32} {y : ((Bool × Int32 × Mem) ⊕ Mem)} (hf : f_X6_readAll_72_b25 μ l1 l2 = some y) (hK : (∀ z', y = .inl z' → ∀ n, V G C F_X6_readAll_72 25 [some (.ref (G.2.1 + 72)), some (.int (b2i z'.1)), some (.int z'.2.1)] [] (pic G z'.2.2) n 0 0) ∧ (∀ x', y = .inr x' → ∀ n, V G C F_X6_readAll_72 82 [some (.ref (G.2.1 + 72)), none, none] [] (pic G x') n 0 0)) : V G C F_X6_readAll_72 25 [some (.ref (G.2.1 + 72)), some (.int (b2i l1)), some (.int l2)] [] (pic G μ) n 0 0 := by
  unfold f_X6_readAll_72_b25 at hf
  refine V_iload_n d_X6_readAll_72_25 rfl rfl ?_
  refine V_aload_n d_X6_readAll_72_26 rfl rfl ?_
  refine B_get k_72 fl_RX6_13_3 d_X6_readAll_72_27 g_3_1 ?_
  refine V_icmp_gt (tgt := 82) d_X6_readAll_72_30 (by decide) (fun c30 => ?_) (fun c30 => ?_)
  · replace hf := iteT c30 hf
    refine V_less (ls' := [some _, none, none]) ⟨rfl, trivial⟩ ?_
    cases hf
    exact hK.2 _ rfl _
  · replace hf := iteF c30 hf
    refine V_iload_n d_X6_readAll_72_33 rfl rfl ?_
    refine V_if_eq (tgt := 82) d_X6_readAll_72_34 (by decide) (fun c34 => ?_) (fun c34 => ?_)
    · replace hf := iteF (b2i_nt (b2i_eq0 c34)) hf
      refine V_less (ls' := [some _, none, none]) ⟨rfl, trivial⟩ ?_
      cases hf
      exact hK.2 _ rfl _
    · replace hf := iteT (b2i_ne0 c34) hf
      refine V_iload_n d_X6_readAll_72_37 rfl rfl ?_
      refine V_aload_n d_X6_readAll_72_38 rfl rfl ?_
      refine B_get k_72 fl_RX6_13_3 d_X6_readAll_72_39 g_3_1 ?_
      refine V_icmp_ge (tgt := 52) d_X6_readAll_72_42 (by decide) (fun c42 => ?_) (fun c42 => ?_)
      · replace hf := iteT c42 hf
        refine V_aload_n d_X6_readAll_72_52 rfl rfl ?_
        refine B_get k_72 fl_RX6_7_3 d_X6_readAll_72_53 g_3_0 ?_
        refine V_aload_n d_X6_readAll_72_56 rfl rfl ?_
        refine B_get k_72 fl_RX6_7_3 d_X6_readAll_72_57 g_3_0 ?_
        refine B_getN k_1 fn_RX6_29 d_X6_readAll_72_60 g_8_3 ?_
        obtain ⟨q1, hq1, hf⟩ := ob hf
        refine B_callV0 (s_X8_refuse hG hq1) k_1 clX8 m_X8_refuse kv_RX6_32 d_X6_readAll_72_63 rfl (Nat.le_of_ble_eq_true rfl) ⟨rfl, rfl, Nat.le_of_ble_eq_true rfl, Nat.le_of_ble_eq_true rfl, Nat.le_of_ble_eq_true rfl⟩ (fun n => ?_)
        refine V_less (ls' := [some _, none, some _]) ⟨rfl, rfl, trivial⟩ ?_
        exact s_X6_readAll_72_j66_25 hG hf hK
      · replace hf := iteF c42 hf
        refine V_aload_n d_X6_readAll_72_45 rfl rfl ?_
        obtain ⟨q2, hq2, hf⟩ := ob hf
        refine B_callU0 (s_X3_readLine hG hq2) k_72 clX3 m_X3_readLine ku_RX6_26_3 d_X6_readAll_72_46 rfl (Nat.le_of_ble_eq_true rfl) ⟨rfl, rfl, Nat.le_of_ble_eq_true rfl, Nat.le_of_ble_eq_true rfl, Nat.le_of_ble_eq_true rfl⟩ (fun n => ?_)
        refine V_goto (tgt := 66) d_X6_readAll_72_49 (by decide) ?_
        refine V_less (ls' := [some _, none, some _]) ⟨rfl, rfl, trivial⟩ ?_
        exact s_X6_readAll_72_j66_25 hG hf hK
theorem s_X6_readAll_72_j106 {G : Gl} (hG : G.1.stackTraces = false) {C : Cx} {n : Nat} {μ : Mem}  {r : Mem} (hf : f_X6_readAll_72_j106 μ = some r) (hK : FinR G C F_X6_readAll_72 none none r) : V G C F_X6_readAll_72 106 [none, none, none] [] (pic G μ) n 0 0 := by
  unfold f_X6_readAll_72_j106 at hf
  cases hf
  exact R_v hK d_X6_readAll_72_106 (Nat.le_of_ble_eq_true rfl) (Nat.le_of_ble_eq_true rfl)
theorem s_X6_readAll_72_j82 {G : Gl} (hG : G.1.stackTraces = false) {C : Cx} {n : Nat} {μ : Mem}  {r : Mem} (hf : f_X6_readAll_72_j82 μ = some r) (hK : FinR G C F_X6_readAll_72 none none r) : V G C F_X6_readAll_72 82 [some (.ref (G.2.1 + 72)), none, none] [] (pic G μ) n 0 0 := by
  unfold f_X6_readAll_72_j82 at hf
  refine V_aload_n d_X6_readAll_72_82 rfl rfl ?_
  refine B_get k_72 fl_RX6_7_3 d_X6_readAll_72_83 g_3_0 ?_
  obtain ⟨t1, ht1, hf⟩ := ob hf
  refine B_callV1 (s_X8_isOver hG ht1) k_1 clX8 m_X8_isOver kv_RX6_22 d_X6_readAll_72_86 rfl (Nat.le_of_ble_eq_true rfl) ⟨rfl, rfl, Nat.le_of_ble_eq_true rfl, Nat.le_of_ble_eq_true rfl, Nat.le_of_ble_eq_true rfl⟩ (fun n => ?_)
  refine V_if_ne (tgt := 106) d_X6_readAll_72_89 (by decide) (fun c89 => ?_) (fun c89 => ?_)
  · replace hf := iteT (b2i_ne0 c89) hf
    refine V_less (ls' := [none, none, none]) trivial ?_
    exact s_X6_readAll_72_j106 hG hf hK
  · replace hf := iteF (b2i_nt (b2i_eq0 c89)) hf
    refine V_aload_n d_X6_readAll_72_92 rfl rfl ?_
    refine B_get k_72 fl_RX6_7_3 d_X6_readAll_72_93 g_3_0 ?_
    refine V_aload_n d_X6_readAll_72_96 rfl rfl ?_
    refine B_get k_72 fl_RX6_7_3 d_X6_readAll_72_97 g_3_0 ?_
    refine B_getN k_1 fn_RX6_29 d_X6_readAll_72_100 g_8_3 ?_
    obtain ⟨q2, hq2, hf⟩ := ob hf
    refine B_callV0 (s_X8_refuse hG hq2) k_1 clX8 m_X8_refuse kv_RX6_32 d_X6_readAll_72_103 rfl (Nat.le_of_ble_eq_true rfl) ⟨rfl, rfl, Nat.le_of_ble_eq_true rfl, Nat.le_of_ble_eq_true rfl, Nat.le_of_ble_eq_true rfl⟩ (fun n => ?_)
    refine V_less (ls' := [none, none, none]) trivial ?_
    exact s_X6_readAll_72_j106 hG hf hK
theorem s_X6_readAll_72_l25 {G : Gl} (hG : G.1.stackTraces = false) {C : Cx} {n : Nat} {μ : Mem} {l1 : Bool} {l2 : Int32} {r : Mem} (hf : f_X6_readAll_72_l25 μ l1 l2 = some r) (hK : FinR G C F_X6_readAll_72 none none r) : V G C F_X6_readAll_72 25 [some (.ref (G.2.1 + 72)), some (.int (b2i l1)), some (.int l2)] [] (pic G μ) n 0 0 := by
  unfold f_X6_readAll_72_l25 at hf
  obtain ⟨t, hl, hf⟩ := ob hf
  refine loopV (P := fun z => ∀ n, V G C F_X6_readAll_72 25 [some (.ref (G.2.1 + 72)), some (.int (b2i z.1)), some (.int z.2.1)] [] (pic G z.2.2) n 0 0) (t := t) ?_ _ _ hl n
  intro z y' hy hI hT n
  refine s_X6_readAll_72_b25 hG hy ⟨hI, fun x9 ex => ?_⟩
  have ex2 := hT x9 ex
  subst ex2
  intro n
  exact s_X6_readAll_72_j82 hG hf hK
theorem s_X6_readAll_72_e {G : Gl} (hG : G.1.stackTraces = false) {C : Cx} {n : Nat} {μ : Mem}  {r : Mem} (hf : f_X6_readAll_72 μ = some r) (hK : FinR G C F_X6_readAll_72 none none r) : V G C F_X6_readAll_72 0 [some (.ref (G.2.1 + 72)), none, none] [] (pic G μ) n 0 0 := by
  unfold f_X6_readAll_72 at hf
  refine V_aload_n d_X6_readAll_72_0 rfl rfl ?_
  refine B_get k_72 fl_RX6_7_3 d_X6_readAll_72_1 g_3_0 ?_
  obtain ⟨q1, hq1, hf⟩ := ob hf
  refine B_callV0 (s_X8_openText hG hq1) k_1 clX8 m_X8_openText kv_RX6_17 d_X6_readAll_72_4 rfl (Nat.le_of_ble_eq_true rfl) ⟨rfl, rfl, Nat.le_of_ble_eq_true rfl, Nat.le_of_ble_eq_true rfl, Nat.le_of_ble_eq_true rfl⟩ (fun n => ?_)
  refine V_aload_n d_X6_readAll_72_7 rfl rfl ?_
  refine B_get k_72 fl_RX6_7_3 d_X6_readAll_72_8 g_3_0 ?_
  obtain ⟨t2, ht2, hf⟩ := ob hf
  refine B_callV1 (s_X8_isOver hG ht2) k_1 clX8 m_X8_isOver kv_RX6_22 d_X6_readAll_72_11 rfl (Nat.le_of_ble_eq_true rfl) ⟨rfl, rfl, Nat.le_of_ble_eq_true rfl, Nat.le_of_ble_eq_true rfl, Nat.le_of_ble_eq_true rfl⟩ (fun n => ?_)
  have hJj3 : ∀ j3 : Bool, j3 = (if t2 = true then (false : Bool) else true) → V G C F_X6_readAll_72 22 [some (.ref (G.2.1 + 72)), none, none] [.int (b2i j3)] (pic G q1) n 0 0 := by
    intro j3 ej3
    subst ej3
    refine V_istore_n (ls' := [_, _, _]) d_X6_readAll_72_22 rfl rfl rfl ?_
    refine V_iconst (v := 0) d_X6_readAll_72_23 ic_0 ?_
    refine V_istore_n (ls' := [_, _, _]) d_X6_readAll_72_24 rfl rfl rfl ?_
    refine V_less (ls' := [some _, some _, some _]) ⟨rfl, rfl, rfl, trivial⟩ ?_
    exact s_X6_readAll_72_l25 hG hf hK
  refine V_if_ne (tgt := 21) d_X6_readAll_72_14 (by decide) (fun c14 => ?_) (fun c14 => ?_)
  · refine V_iconst (v := 0) d_X6_readAll_72_21 ic_0 ?_
    refine V_less (ls' := [some _, none, none]) ⟨rfl, trivial⟩ ?_
    exact hJj3 false (by rw [if_pos (b2i_ne0 c14)])
  · refine V_iconst (v := 1) d_X6_readAll_72_17 ic_1 ?_
    refine V_goto (tgt := 22) d_X6_readAll_72_18 (by decide) ?_
    refine V_less (ls' := [some _, none, none]) ⟨rfl, trivial⟩ ?_
    exact hJj3 true (by rw [if_neg (b2i_nt (b2i_eq0 c14))])
theorem s_X6_readAll_72 {G : Gl} (hG : G.1.stackTraces = false) {μ : Mem} {r : Mem} (hf : f_X6_readAll_72 μ = some r) : Rt G yX6_readAll F_X6_readAll_72 none [.ref (G.2.1 + 72)] μ none r := fun n => Sd.of hG ⟨by decide +kernel, rfl, rfl⟩ rfl (Nat.le_of_ble_eq_true rfl) rfl (fun C hK => s_X6_readAll_72_e hG hf hK)
theorem d_X11_land_0 : decode cX11_land 0 = .ok (.aload_n 0, 1) := by decide +kernel
theorem d_X11_land_1 : decode cX11_land 1 = .ok (.getfield 23, 3) := by decide +kernel
theorem d_X11_land_4 : decode cX11_land 4 = .ok (.aload_n 0, 1) := by decide +kernel
theorem d_X11_land_5 : decode cX11_land 5 = .ok (.getfield 19, 3) := by decide +kernel
theorem d_X11_land_8 : decode cX11_land 8 = .ok (.invokevirtual 102, 3) := by decide +kernel
theorem d_X11_land_11 : decode cX11_land 11 = .ok (.aload_n 0, 1) := by decide +kernel
theorem d_X11_land_12 : decode cX11_land 12 = .ok (.getfield 47, 3) := by decide +kernel
theorem d_X11_land_15 : decode cX11_land 15 = .ok (.invokevirtual 106, 3) := by decide +kernel
theorem d_X11_land_18 : decode cX11_land 18 = .ok (.aload_n 0, 1) := by decide +kernel
theorem d_X11_land_19 : decode cX11_land 19 = .ok (.getfield 10, 3) := by decide +kernel
theorem d_X11_land_22 : decode cX11_land 22 = .ok (.invokevirtual 109, 3) := by decide +kernel
theorem d_X11_land_25 : decode cX11_land 25 = .ok (.ifCond .ne 13, 3) := by decide +kernel
theorem d_X11_land_28 : decode cX11_land 28 = .ok (.new 113, 3) := by decide +kernel
theorem d_X11_land_31 : decode cX11_land 31 = .ok (.dup, 1) := by decide +kernel
theorem d_X11_land_32 : decode cX11_land 32 = .ok (.ldc 115, 2) := by decide +kernel
theorem d_X11_land_34 : decode cX11_land 34 = .ok (.invokespecial 117, 3) := by decide +kernel
theorem d_X11_land_37 : decode cX11_land 37 = .ok (.athrow, 1) := by decide +kernel
theorem d_X11_land_38 : decode cX11_land 38 = .ok (.aload_n 0, 1) := by decide +kernel
theorem d_X11_land_39 : decode cX11_land 39 = .ok (.getfield 19, 3) := by decide +kernel
theorem d_X11_land_42 : decode cX11_land 42 = .ok (.getfield 120, 3) := by decide +kernel
theorem d_X11_land_45 : decode cX11_land 45 = .ok (.bipush 12, 2) := by decide +kernel
theorem d_X11_land_47 : decode cX11_land 47 = .ok (.if_icmp .lt 13, 3) := by decide +kernel
theorem d_X11_land_50 : decode cX11_land 50 = .ok (.new 123, 3) := by decide +kernel
theorem d_X11_land_53 : decode cX11_land 53 = .ok (.dup, 1) := by decide +kernel
theorem d_X11_land_54 : decode cX11_land 54 = .ok (.ldc 125, 2) := by decide +kernel
theorem d_X11_land_56 : decode cX11_land 56 = .ok (.invokespecial 127, 3) := by decide +kernel
theorem d_X11_land_59 : decode cX11_land 59 = .ok (.athrow, 1) := by decide +kernel
theorem d_X11_land_60 : decode cX11_land 60 = .ok (.aload_n 0, 1) := by decide +kernel
theorem d_X11_land_61 : decode cX11_land 61 = .ok (.getfield 19, 3) := by decide +kernel
theorem d_X11_land_64 : decode cX11_land 64 = .ok (.aload_n 0, 1) := by decide +kernel
theorem d_X11_land_65 : decode cX11_land 65 = .ok (.getfield 23, 3) := by decide +kernel
theorem d_X11_land_68 : decode cX11_land 68 = .ok (.invokevirtual 102, 3) := by decide +kernel
theorem d_X11_land_71 : decode cX11_land 71 = .ok (.aload_n 0, 1) := by decide +kernel
theorem d_X11_land_72 : decode cX11_land 72 = .ok (.getfield 19, 3) := by decide +kernel
theorem d_X11_land_75 : decode cX11_land 75 = .ok (.dup, 1) := by decide +kernel
theorem d_X11_land_76 : decode cX11_land 76 = .ok (.getfield 120, 3) := by decide +kernel
theorem d_X11_land_79 : decode cX11_land 79 = .ok (.iconst 1, 1) := by decide +kernel
theorem d_X11_land_80 : decode cX11_land 80 = .ok (.iadd, 1) := by decide +kernel
theorem d_X11_land_81 : decode cX11_land 81 = .ok (.putfield 120, 3) := by decide +kernel
theorem d_X11_land_84 : decode cX11_land 84 = .ok (.aload_n 0, 1) := by decide +kernel
theorem d_X11_land_85 : decode cX11_land 85 = .ok (.getfield 63, 3) := by decide +kernel
theorem d_X11_land_88 : decode cX11_land 88 = .ok (.invokevirtual 128, 3) := by decide +kernel
theorem d_X11_land_91 : decode cX11_land 91 = .ok (.aload_n 0, 1) := by decide +kernel
theorem d_X11_land_92 : decode cX11_land 92 = .ok (.getfield 19, 3) := by decide +kernel
theorem d_X11_land_95 : decode cX11_land 95 = .ok (.getfield 120, 3) := by decide +kernel
theorem d_X11_land_98 : decode cX11_land 98 = .ok (.ireturn, 1) := by decide +kernel
theorem s_X11_land_e {G : Gl} (hG : G.1.stackTraces = false) {C : Cx} {n : Nat} {μ : Mem}  {r : ((Nat × Mem) ⊕ (Int32 × Mem))} (hf : f_X11_land μ = some r) (hK : FinX G C F_X11_land (some .int) (Sum.map id (fun q => (some (.int q.1), q.2)) r)) : V G C F_X11_land 0 [some (.ref (G.2.1 + 0))] [] (pic G μ) n 0 0 := by
  unfold f_X11_land at hf
  refine V_aload_n d_X11_land_0 rfl rfl ?_
  refine B_get k_0 fl_RX11_23 d_X11_land_1 g_11_2 ?_
  refine V_aload_n d_X11_land_4 rfl rfl ?_
  refine B_get k_0 fl_RX11_19 d_X11_land_5 g_11_1 ?_
  obtain ⟨q1, hq1, hf⟩ := ob hf
  refine B_callV0 (s_X2_copyFrom hG L_18 L_3 hq1) k_18 clX2 m_X2_copyFrom kv_RX11_102 d_X11_land_8 rfl (Nat.le_of_ble_eq_true rfl) ⟨rfl, rfl, Nat.le_of_ble_eq_true rfl, Nat.le_of_ble_eq_true rfl, Nat.le_of_ble_eq_true rfl⟩ (fun n => ?_)
  refine V_aload_n d_X11_land_11 rfl rfl ?_
  refine B_get k_0 fl_RX11_47 d_X11_land_12 g_11_7 ?_
  obtain ⟨q2, hq2, hf⟩ := ob hf
  refine B_callU0 (s_X6_readAll_72 hG hq2) k_72 clX3 m_X6_readAll_72 ku_RX11_106_3 d_X11_land_15 rfl (Nat.le_of_ble_eq_true rfl) ⟨rfl, rfl, Nat.le_of_ble_eq_true rfl, Nat.le_of_ble_eq_true rfl, Nat.le_of_ble_eq_true rfl⟩ (fun n => ?_)
  refine V_aload_n d_X11_land_18 rfl rfl ?_
  refine B_get k_0 fl_RX11_10 d_X11_land_19 g_11_0 ?_
  obtain ⟨t3, ht3, hf⟩ := ob hf
  refine B_callV1 (s_X8_isRight hG ht3) k_1 clX8 m_X8_isRight kv_RX11_109 d_X11_land_22 rfl (Nat.le_of_ble_eq_true rfl) ⟨rfl, rfl, Nat.le_of_ble_eq_true rfl, Nat.le_of_ble_eq_true rfl, Nat.le_of_ble_eq_true rfl⟩ (fun n => ?_)
  refine V_if_ne (tgt := 38) d_X11_land_25 (by decide) (fun c25 => ?_) (fun c25 => ?_)
  · replace hf := iteT (b2i_ne0 c25) hf
    refine V_aload_n d_X11_land_38 rfl rfl ?_
    refine B_get k_0 fl_RX11_19 d_X11_land_39 g_11_1 ?_
    refine B_get k_3 fl_RX11_120 d_X11_land_42 g_2_1 ?_
    refine V_bipush (v := 12) d_X11_land_45 bp_12 ?_
    refine V_icmp_lt (tgt := 60) d_X11_land_47 (by decide) (fun c47 => ?_) (fun c47 => ?_)
    · replace hf := iteT c47 hf
      refine V_aload_n d_X11_land_60 rfl rfl ?_
      refine B_get k_0 fl_RX11_19 d_X11_land_61 g_11_1 ?_
      refine V_aload_n d_X11_land_64 rfl rfl ?_
      refine B_get k_0 fl_RX11_23 d_X11_land_65 g_11_2 ?_
      obtain ⟨q4, hq4, hf⟩ := ob hf
      refine B_callV0 (s_X2_copyFrom hG L_3 L_18 hq4) k_3 clX2 m_X2_copyFrom kv_RX11_102 d_X11_land_68 rfl (Nat.le_of_ble_eq_true rfl) ⟨rfl, rfl, Nat.le_of_ble_eq_true rfl, Nat.le_of_ble_eq_true rfl, Nat.le_of_ble_eq_true rfl⟩ (fun n => ?_)
      refine V_aload_n d_X11_land_71 rfl rfl ?_
      refine B_get k_0 fl_RX11_19 d_X11_land_72 g_11_1 ?_
      refine V_dup d_X11_land_75 rfl ?_
      refine B_get k_3 fl_RX11_120 d_X11_land_76 g_2_1 ?_
      refine V_iconst (v := 1) d_X11_land_79 ic_1 ?_
      refine V_iadd d_X11_land_80 ?_
      refine B_putI k_3 fl_RX11_120 pt_2_1 (Nat.le_of_ble_eq_true rfl) p_2_1 d_X11_land_81 ?_
      refine V_aload_n d_X11_land_84 rfl rfl ?_
      refine B_get k_0 fl_RX11_63 d_X11_land_85 g_11_9 ?_
      obtain ⟨q5, hq5, hf⟩ := ob hf
      refine B_callV0 (s_X0_forget hG hq5) k_74 clX0 m_X0_forget kv_RX11_128 d_X11_land_88 rfl (Nat.le_of_ble_eq_true rfl) ⟨rfl, rfl, Nat.le_of_ble_eq_true rfl, Nat.le_of_ble_eq_true rfl, Nat.le_of_ble_eq_true rfl⟩ (fun n => ?_)
      refine V_aload_n d_X11_land_91 rfl rfl ?_
      refine B_get k_0 fl_RX11_19 d_X11_land_92 g_11_1 ?_
      refine B_get k_3 fl_RX11_120 d_X11_land_95 g_2_1 ?_
      cases hf
      exact R_iX hK d_X11_land_98 (Nat.le_of_ble_eq_true rfl) (Nat.le_of_ble_eq_true rfl)
    · replace hf := iteF c47 hf
      cases hf
      exact B_throw (k0 := 5) hK tk_RX11_123_125_127 rfl rfl d_X11_land_50 d_X11_land_53 d_X11_land_54 d_X11_land_56 d_X11_land_59 (Nat.le_of_ble_eq_true rfl) (Nat.le_of_ble_eq_true rfl) (Nat.le_of_ble_eq_true rfl)
  · replace hf := iteF (b2i_nt (b2i_eq0 c25)) hf
    cases hf
    exact B_throw (k0 := 1) hK tk_RX11_113_115_117 rfl rfl d_X11_land_28 d_X11_land_31 d_X11_land_32 d_X11_land_34 d_X11_land_37 (Nat.le_of_ble_eq_true rfl) (Nat.le_of_ble_eq_true rfl) (Nat.le_of_ble_eq_true rfl)
theorem s_X11_land {G : Gl} (hG : G.1.stackTraces = false) {μ : Mem} {r : ((Nat × Mem) ⊕ (Int32 × Mem))} (hf : f_X11_land μ = some r) : Rx G yX11_land F_X11_land (.code yX11_land F_X11_land.2.1 F_X11_land.2.2.1 (some .int)) [.ref (G.2.1 + 0)] μ (Sum.map id (fun q => (some (.int q.1), q.2)) r) := fun n => Sd.of hG ⟨by decide +kernel, rfl, rfl⟩ rfl (Nat.le_of_ble_eq_true rfl) rfl (fun C hK => s_X11_land_e hG hf hK)
theorem d_X6_readAll_73_0 : decode cX6_readAll 0 = .ok (.aload_n 0, 1) := by decide +kernel
theorem d_X6_readAll_73_1 : decode cX6_readAll 1 = .ok (.getfield 7, 3) := by decide +kernel
theorem d_X6_readAll_73_4 : decode cX6_readAll 4 = .ok (.invokevirtual 17, 3) := by decide +kernel
theorem d_X6_readAll_73_7 : decode cX6_readAll 7 = .ok (.aload_n 0, 1) := by decide +kernel
theorem d_X6_readAll_73_8 : decode cX6_readAll 8 = .ok (.getfield 7, 3) := by decide +kernel
theorem d_X6_readAll_73_11 : decode cX6_readAll 11 = .ok (.invokevirtual 22, 3) := by decide +kernel
theorem d_X6_readAll_73_14 : decode cX6_readAll 14 = .ok (.ifCond .ne 7, 3) := by decide +kernel
theorem d_X6_readAll_73_17 : decode cX6_readAll 17 = .ok (.iconst 1, 1) := by decide +kernel
theorem d_X6_readAll_73_18 : decode cX6_readAll 18 = .ok (.goto 4, 3) := by decide +kernel
theorem d_X6_readAll_73_21 : decode cX6_readAll 21 = .ok (.iconst 0, 1) := by decide +kernel
theorem d_X6_readAll_73_22 : decode cX6_readAll 22 = .ok (.istore_n 1, 1) := by decide +kernel
theorem d_X6_readAll_73_23 : decode cX6_readAll 23 = .ok (.iconst 0, 1) := by decide +kernel
theorem d_X6_readAll_73_24 : decode cX6_readAll 24 = .ok (.istore_n 2, 1) := by decide +kernel
theorem d_X6_readAll_73_25 : decode cX6_readAll 25 = .ok (.iload_n 2, 1) := by decide +kernel
theorem d_X6_readAll_73_26 : decode cX6_readAll 26 = .ok (.aload_n 0, 1) := by decide +kernel
theorem d_X6_readAll_73_27 : decode cX6_readAll 27 = .ok (.getfield 13, 3) := by decide +kernel
theorem d_X6_readAll_73_30 : decode cX6_readAll 30 = .ok (.if_icmp .gt 52, 3) := by decide +kernel
theorem d_X6_readAll_73_33 : decode cX6_readAll 33 = .ok (.iload_n 1, 1) := by decide +kernel
theorem d_X6_readAll_73_34 : decode cX6_readAll 34 = .ok (.ifCond .eq 48, 3) := by decide +kernel
theorem d_X6_readAll_73_37 : decode cX6_readAll 37 = .ok (.iload_n 2, 1) := by decide +kernel
theorem d_X6_readAll_73_38 : decode cX6_readAll 38 = .ok (.aload_n 0, 1) := by decide +kernel
theorem d_X6_readAll_73_39 : decode cX6_readAll 39 = .ok (.getfield 13, 3) := by decide +kernel
theorem d_X6_readAll_73_42 : decode cX6_readAll 42 = .ok (.if_icmp .ge 10, 3) := by decide +kernel
theorem d_X6_readAll_73_45 : decode cX6_readAll 45 = .ok (.aload_n 0, 1) := by decide +kernel
theorem d_X6_readAll_73_46 : decode cX6_readAll 46 = .ok (.invokevirtual 26, 3) := by decide +kernel
theorem d_X6_readAll_73_49 : decode cX6_readAll 49 = .ok (.goto 17, 3) := by decide +kernel
theorem d_X6_readAll_73_52 : decode cX6_readAll 52 = .ok (.aload_n 0, 1) := by decide +kernel
theorem d_X6_readAll_73_53 : decode cX6_readAll 53 = .ok (.getfield 7, 3) := by decide +kernel
theorem d_X6_readAll_73_56 : decode cX6_readAll 56 = .ok (.aload_n 0, 1) := by decide +kernel
theorem d_X6_readAll_73_57 : decode cX6_readAll 57 = .ok (.getfield 7, 3) := by decide +kernel
theorem d_X6_readAll_73_60 : decode cX6_readAll 60 = .ok (.getfield 29, 3) := by decide +kernel
theorem d_X6_readAll_73_63 : decode cX6_readAll 63 = .ok (.invokevirtual 32, 3) := by decide +kernel
theorem d_X6_readAll_73_66 : decode cX6_readAll 66 = .ok (.aload_n 0, 1) := by decide +kernel
theorem d_X6_readAll_73_67 : decode cX6_readAll 67 = .ok (.getfield 7, 3) := by decide +kernel
theorem d_X6_readAll_73_70 : decode cX6_readAll 70 = .ok (.bipush 59, 2) := by decide +kernel
theorem d_X6_readAll_73_72 : decode cX6_readAll 72 = .ok (.invokevirtual 36, 3) := by decide +kernel
theorem d_X6_readAll_73_75 : decode cX6_readAll 75 = .ok (.istore_n 1, 1) := by decide +kernel
theorem d_X6_readAll_73_76 : decode cX6_readAll 76 = .ok (.iinc 2 1, 3) := by decide +kernel
theorem d_X6_readAll_73_79 : decode cX6_readAll 79 = .ok (.goto (-54), 3) := by decide +kernel
theorem d_X6_readAll_73_82 : decode cX6_readAll 82 = .ok (.aload_n 0, 1) := by decide +kernel
theorem d_X6_readAll_73_83 : decode cX6_readAll 83 = .ok (.getfield 7, 3) := by decide +kernel
theorem d_X6_readAll_73_86 : decode cX6_readAll 86 = .ok (.invokevirtual 22, 3) := by decide +kernel
theorem d_X6_readAll_73_89 : decode cX6_readAll 89 = .ok (.ifCond .ne 17, 3) := by decide +kernel
theorem d_X6_readAll_73_92 : decode cX6_readAll 92 = .ok (.aload_n 0, 1) := by decide +kernel
theorem d_X6_readAll_73_93 : decode cX6_readAll 93 = .ok (.getfield 7, 3) := by decide +kernel
theorem d_X6_readAll_73_96 : decode cX6_readAll 96 = .ok (.aload_n 0, 1) := by decide +kernel
theorem d_X6_readAll_73_97 : decode cX6_readAll 97 = .ok (.getfield 7, 3) := by decide +kernel
theorem d_X6_readAll_73_100 : decode cX6_readAll 100 = .ok (.getfield 29, 3) := by decide +kernel
theorem d_X6_readAll_73_103 : decode cX6_readAll 103 = .ok (.invokevirtual 32, 3) := by decide +kernel
theorem d_X6_readAll_73_106 : decode cX6_readAll 106 = .ok (.return_, 1) := by decide +kernel
theorem s_X6_readAll_73_j66_25 {G : Gl} (hG : G.1.stackTraces = false) {C : Cx} {n : Nat} {μ : Mem} {l2 : Int32} {y : ((Bool × Int32 × Mem) ⊕ Mem)} (hf : f_X6_readAll_73_j66_25 μ l2 = some y) (hK : (∀ z', y = .inl z' → ∀ n, V G C F_X6_readAll_73 25 [some (.ref (G.2.1 + 73)), some (.int (b2i z'.1)), some (.int z'.2.1)] [] (pic G z'.2.2) n 0 0) ∧ (∀ x', y = .inr x' → ∀ n, V G C F_X6_readAll_73 82 [some (.ref (G.2.1 + 73)), none, none] [] (pic G x') n 0 0)) : V G C F_X6_readAll_73 66 [some (.ref (G.2.1 + 73)), none, some (.int l2)] [] (pic G μ) n 0 0 := by
  unfold f_X6_readAll_73_j66_25 at hf
  refine V_aload_n d_X6_readAll_73_66 rfl rfl ?_
  refine B_get k_73 fl_RX6_7_5 d_X6_readAll_73_67 g_5_0 ?_
  refine V_bipush (v := 59) d_X6_readAll_73_70 bp_59 ?_
  obtain ⟨q1, hq1, hf⟩ := ob hf
  refine B_callV1 (s_X8_takesSign hG hq1) k_1 clX8 m_X8_takesSign kv_RX6_36 d_X6_readAll_73_72 rfl (Nat.le_of_ble_eq_true rfl) ⟨rfl, rfl, Nat.le_of_ble_eq_true rfl, Nat.le_of_ble_eq_true rfl, Nat.le_of_ble_eq_true rfl⟩ (fun n => ?_)
  refine V_istore_n (ls' := [_, _, _]) d_X6_readAll_73_75 rfl rfl rfl ?_
  refine V_iinc (v := (l2 + 1)) (ls' := [_, _, _]) d_X6_readAll_73_76 rfl (by rw [ic_1]) rfl ?_
  refine V_goto (tgt := 25) d_X6_readAll_73_79 (by decide) ?_
  refine V_less (ls' := [some _, some _, some _]) ⟨rfl, rfl, rfl, trivial⟩ ?_
  cases hf
  exact hK.1 _ rfl _
theorem s_X6_readAll_73_b25 {G : Gl} (hG : G.1.stackTraces = false) {C : Cx} {n : Nat} {μ : Mem} {l1 : Bool} {l2 : Int32} {y : ((Bool × Int32 × Mem) ⊕ Mem)} (hf : f_X6_readAll_73_b25 μ l1 l2 = some y) (hK : (∀ z', y = .inl z' → ∀ n, V G C F_X6_readAll_73 25 [some (.ref (G.2.1 + 73)), some (.int (b2i z'.1)), some (.int z'.2.1)] [] (pic G z'.2.2) n 0 0) ∧ (∀ x', y = .inr x' → ∀ n, V G C F_X6_readAll_73 82 [some (.ref (G.2.1 + 73)), none, none] [] (pic G x') n 0 0)) : V G C F_X6_readAll_73 25 [some (.ref (G.2.1 + 73)), some (.int (b2i l1)), some (.int l2)] [] (pic G μ) n 0 0 := by
  unfold f_X6_readAll_73_b25 at hf
  refine V_iload_n d_X6_readAll_73_25 rfl rfl ?_
  refine V_aload_n d_X6_readAll_73_26 rfl rfl ?_
  refine B_get k_73 fl_RX6_13_5 d_X6_readAll_73_27 g_5_1 ?_
  refine V_icmp_gt (tgt := 82) d_X6_readAll_73_30 (by decide) (fun c30 => ?_) (fun c30 => ?_)
  · replace hf := iteT c30 hf
    refine V_less (ls' := [some _, none, none]) ⟨rfl, trivial⟩ ?_
    cases hf
    exact hK.2 _ rfl _
  · replace hf := iteF c30 hf
    refine V_iload_n d_X6_readAll_73_33 rfl rfl ?_
    refine V_if_eq (tgt := 82) d_X6_readAll_73_34 (by decide) (fun c34 => ?_) (fun c34 => ?_)
    · replace hf := iteF (b2i_nt (b2i_eq0 c34)) hf
      refine V_less (ls' := [some _, none, none]) ⟨rfl, trivial⟩ ?_
      cases hf
      exact hK.2 _ rfl _
    · replace hf := iteT (b2i_ne0 c34) hf
      refine V_iload_n d_X6_readAll_73_37 rfl rfl ?_
      refine V_aload_n d_X6_readAll_73_38 rfl rfl ?_
      refine B_get k_73 fl_RX6_13_5 d_X6_readAll_73_39 g_5_1 ?_
      refine V_icmp_ge (tgt := 52) d_X6_readAll_73_42 (by decide) (fun c42 => ?_) (fun c42 => ?_)
      · replace hf := iteT c42 hf
        refine V_aload_n d_X6_readAll_73_52 rfl rfl ?_
        refine B_get k_73 fl_RX6_7_5 d_X6_readAll_73_53 g_5_0 ?_
        refine V_aload_n d_X6_readAll_73_56 rfl rfl ?_
        refine B_get k_73 fl_RX6_7_5 d_X6_readAll_73_57 g_5_0 ?_
        refine B_getN k_1 fn_RX6_29 d_X6_readAll_73_60 g_8_3 ?_
        obtain ⟨q1, hq1, hf⟩ := ob hf
        refine B_callV0 (s_X8_refuse hG hq1) k_1 clX8 m_X8_refuse kv_RX6_32 d_X6_readAll_73_63 rfl (Nat.le_of_ble_eq_true rfl) ⟨rfl, rfl, Nat.le_of_ble_eq_true rfl, Nat.le_of_ble_eq_true rfl, Nat.le_of_ble_eq_true rfl⟩ (fun n => ?_)
        refine V_less (ls' := [some _, none, some _]) ⟨rfl, rfl, trivial⟩ ?_
        exact s_X6_readAll_73_j66_25 hG hf hK
      · replace hf := iteF c42 hf
        refine V_aload_n d_X6_readAll_73_45 rfl rfl ?_
        obtain ⟨q2, hq2, hf⟩ := ob hf
        refine B_callU0 (s_X5_readLine hG hq2) k_73 clX5 m_X5_readLine ku_RX6_26_5 d_X6_readAll_73_46 rfl (Nat.le_of_ble_eq_true rfl) ⟨rfl, rfl, Nat.le_of_ble_eq_true rfl, Nat.le_of_ble_eq_true rfl, Nat.le_of_ble_eq_true rfl⟩ (fun n => ?_)
        refine V_goto (tgt := 66) d_X6_readAll_73_49 (by decide) ?_
        refine V_less (ls' := [some _, none, some _]) ⟨rfl, rfl, trivial⟩ ?_
        exact s_X6_readAll_73_j66_25 hG hf hK
theorem s_X6_readAll_73_j106 {G : Gl} (hG : G.1.stackTraces = false) {C : Cx} {n : Nat} {μ : Mem}  {r : Mem} (hf : f_X6_readAll_73_j106 μ = some r) (hK : FinR G C F_X6_readAll_73 none none r) : V G C F_X6_readAll_73 106 [none, none, none] [] (pic G μ) n 0 0 := by
  unfold f_X6_readAll_73_j106 at hf
  cases hf
  exact R_v hK d_X6_readAll_73_106 (Nat.le_of_ble_eq_true rfl) (Nat.le_of_ble_eq_true rfl)
theorem s_X6_readAll_73_j82 {G : Gl} (hG : G.1.stackTraces = false) {C : Cx} {n : Nat} {μ : Mem}  {r : Mem} (hf : f_X6_readAll_73_j82 μ = some r) (hK : FinR G C F_X6_readAll_73 none none r) : V G C F_X6_readAll_73 82 [some (.ref (G.2.1 + 73)), none, none] [] (pic G μ) n 0 0 := by
  unfold f_X6_readAll_73_j82 at hf
  refine V_aload_n d_X6_readAll_73_82 rfl rfl ?_
  refine B_get k_73 fl_RX6_7_5 d_X6_readAll_73_83 g_5_0 ?_
  obtain ⟨t1, ht1, hf⟩ := ob hf
  refine B_callV1 (s_X8_isOver hG ht1) k_1 clX8 m_X8_isOver kv_RX6_22 d_X6_readAll_73_86 rfl (Nat.le_of_ble_eq_true rfl) ⟨rfl, rfl, Nat.le_of_ble_eq_true rfl, Nat.le_of_ble_eq_true rfl, Nat.le_of_ble_eq_true rfl⟩ (fun n => ?_)
  refine V_if_ne (tgt := 106) d_X6_readAll_73_89 (by decide) (fun c89 => ?_) (fun c89 => ?_)
  · replace hf := iteT (b2i_ne0 c89) hf
    refine V_less (ls' := [none, none, none]) trivial ?_
    exact s_X6_readAll_73_j106 hG hf hK
  · replace hf := iteF (b2i_nt (b2i_eq0 c89)) hf
    refine V_aload_n d_X6_readAll_73_92 rfl rfl ?_
    refine B_get k_73 fl_RX6_7_5 d_X6_readAll_73_93 g_5_0 ?_
    refine V_aload_n d_X6_readAll_73_96 rfl rfl ?_
    refine B_get k_73 fl_RX6_7_5 d_X6_readAll_73_97 g_5_0 ?_
    refine B_getN k_1 fn_RX6_29 d_X6_readAll_73_100 g_8_3 ?_
    obtain ⟨q2, hq2, hf⟩ := ob hf
    refine B_callV0 (s_X8_refuse hG hq2) k_1 clX8 m_X8_refuse kv_RX6_32 d_X6_readAll_73_103 rfl (Nat.le_of_ble_eq_true rfl) ⟨rfl, rfl, Nat.le_of_ble_eq_true rfl, Nat.le_of_ble_eq_true rfl, Nat.le_of_ble_eq_true rfl⟩ (fun n => ?_)
    refine V_less (ls' := [none, none, none]) trivial ?_
    exact s_X6_readAll_73_j106 hG hf hK
theorem s_X6_readAll_73_l25 {G : Gl} (hG : G.1.stackTraces = false) {C : Cx} {n : Nat} {μ : Mem} {l1 : Bool} {l2 : Int32} {r : Mem} (hf : f_X6_readAll_73_l25 μ l1 l2 = some r) (hK : FinR G C F_X6_readAll_73 none none r) : V G C F_X6_readAll_73 25 [some (.ref (G.2.1 + 73)), some (.int (b2i l1)), some (.int l2)] [] (pic G μ) n 0 0 := by
  unfold f_X6_readAll_73_l25 at hf
  obtain ⟨t, hl, hf⟩ := ob hf
  refine loopV (P := fun z => ∀ n, V G C F_X6_readAll_73 25 [some (.ref (G.2.1 + 73)), some (.int (b2i z.1)), some (.int z.2.1)] [] (pic G z.2.2) n 0 0) (t := t) ?_ _ _ hl n
  intro z y' hy hI hT n
  refine s_X6_readAll_73_b25 hG hy ⟨hI, fun x9 ex => ?_⟩
  have ex2 := hT x9 ex
  subst ex2
  intro n
  exact s_X6_readAll_73_j82 hG hf hK
theorem s_X6_readAll_73_e {G : Gl} (hG : G.1.stackTraces = false) {C : Cx} {n : Nat} {μ : Mem}  {r : Mem} (hf : f_X6_readAll_73 μ = some r) (hK : FinR G C F_X6_readAll_73 none none r) : V G C F_X6_readAll_73 0 [some (.ref (G.2.1 + 73)), none, none] [] (pic G μ) n 0 0 := by
  unfold f_X6_readAll_73 at hf
  refine V_aload_n d_X6_readAll_73_0 rfl rfl ?_
  refine B_get k_73 fl_RX6_7_5 d_X6_readAll_73_1 g_5_0 ?_
  obtain ⟨q1, hq1, hf⟩ := ob hf
  refine B_callV0 (s_X8_openText hG hq1) k_1 clX8 m_X8_openText kv_RX6_17 d_X6_readAll_73_4 rfl (Nat.le_of_ble_eq_true rfl) ⟨rfl, rfl, Nat.le_of_ble_eq_true rfl, Nat.le_of_ble_eq_true rfl, Nat.le_of_ble_eq_true rfl⟩ (fun n => ?_)
  refine V_aload_n d_X6_readAll_73_7 rfl rfl ?_
  refine B_get k_73 fl_RX6_7_5 d_X6_readAll_73_8 g_5_0 ?_
  obtain ⟨t2, ht2, hf⟩ := ob hf
  refine B_callV1 (s_X8_isOver hG ht2) k_1 clX8 m_X8_isOver kv_RX6_22 d_X6_readAll_73_11 rfl (Nat.le_of_ble_eq_true rfl) ⟨rfl, rfl, Nat.le_of_ble_eq_true rfl, Nat.le_of_ble_eq_true rfl, Nat.le_of_ble_eq_true rfl⟩ (fun n => ?_)
  have hJj3 : ∀ j3 : Bool, j3 = (if t2 = true then (false : Bool) else true) → V G C F_X6_readAll_73 22 [some (.ref (G.2.1 + 73)), none, none] [.int (b2i j3)] (pic G q1) n 0 0 := by
    intro j3 ej3
    subst ej3
    refine V_istore_n (ls' := [_, _, _]) d_X6_readAll_73_22 rfl rfl rfl ?_
    refine V_iconst (v := 0) d_X6_readAll_73_23 ic_0 ?_
    refine V_istore_n (ls' := [_, _, _]) d_X6_readAll_73_24 rfl rfl rfl ?_
    refine V_less (ls' := [some _, some _, some _]) ⟨rfl, rfl, rfl, trivial⟩ ?_
    exact s_X6_readAll_73_l25 hG hf hK
  refine V_if_ne (tgt := 21) d_X6_readAll_73_14 (by decide) (fun c14 => ?_) (fun c14 => ?_)
  · refine V_iconst (v := 0) d_X6_readAll_73_21 ic_0 ?_
    refine V_less (ls' := [some _, none, none]) ⟨rfl, trivial⟩ ?_
    exact hJj3 false (by rw [if_pos (b2i_ne0 c14)])
  · refine V_iconst (v := 1) d_X6_readAll_73_17 ic_1 ?_
    refine V_goto (tgt := 22) d_X6_readAll_73_18 (by decide) ?_
    refine V_less (ls' := [some _, none, none]) ⟨rfl, trivial⟩ ?_
    exact hJj3 true (by rw [if_neg (b2i_nt (b2i_eq0 c14))])
theorem s_X6_readAll_73 {G : Gl} (hG : G.1.stackTraces = false) {μ : Mem} {r : Mem} (hf : f_X6_readAll_73 μ = some r) : Rt G yX6_readAll F_X6_readAll_73 none [.ref (G.2.1 + 73)] μ none r := fun n => Sd.of hG ⟨by decide +kernel, rfl, rfl⟩ rfl (Nat.le_of_ble_eq_true rfl) rfl (fun C hK => s_X6_readAll_73_e hG hf hK)
theorem d_X11_law_0 : decode cX11_law 0 = .ok (.aload_n 0, 1) := by decide +kernel
theorem d_X11_law_1 : decode cX11_law 1 = .ok (.getfield 36, 3) := by decide +kernel
theorem d_X11_law_4 : decode cX11_law 4 = .ok (.invokevirtual 131, 3) := by decide +kernel
theorem d_X11_law_7 : decode cX11_law 7 = .ok (.aload_n 0, 1) := by decide +kernel
theorem d_X11_law_8 : decode cX11_law 8 = .ok (.getfield 56, 3) := by decide +kernel
theorem d_X11_law_11 : decode cX11_law 11 = .ok (.invokevirtual 134, 3) := by decide +kernel
theorem d_X11_law_14 : decode cX11_law 14 = .ok (.aload_n 0, 1) := by decide +kernel
theorem d_X11_law_15 : decode cX11_law 15 = .ok (.getfield 10, 3) := by decide +kernel
theorem d_X11_law_18 : decode cX11_law 18 = .ok (.invokevirtual 109, 3) := by decide +kernel
theorem d_X11_law_21 : decode cX11_law 21 = .ok (.ifCond .ne 13, 3) := by decide +kernel
theorem d_X11_law_24 : decode cX11_law 24 = .ok (.new 113, 3) := by decide +kernel
theorem d_X11_law_27 : decode cX11_law 27 = .ok (.dup, 1) := by decide +kernel
theorem d_X11_law_28 : decode cX11_law 28 = .ok (.ldc 135, 2) := by decide +kernel
theorem d_X11_law_30 : decode cX11_law 30 = .ok (.invokespecial 117, 3) := by decide +kernel
theorem d_X11_law_33 : decode cX11_law 33 = .ok (.athrow, 1) := by decide +kernel
theorem d_X11_law_34 : decode cX11_law 34 = .ok (.aload_n 0, 1) := by decide +kernel
theorem d_X11_law_35 : decode cX11_law 35 = .ok (.getfield 36, 3) := by decide +kernel
theorem d_X11_law_38 : decode cX11_law 38 = .ok (.iconst 1, 1) := by decide +kernel
theorem d_X11_law_39 : decode cX11_law 39 = .ok (.putfield 137, 3) := by decide +kernel
theorem d_X11_law_42 : decode cX11_law 42 = .ok (.aload_n 0, 1) := by decide +kernel
theorem d_X11_law_43 : decode cX11_law 43 = .ok (.getfield 32, 3) := by decide +kernel
theorem d_X11_law_46 : decode cX11_law 46 = .ok (.aload_n 0, 1) := by decide +kernel
theorem d_X11_law_47 : decode cX11_law 47 = .ok (.getfield 36, 3) := by decide +kernel
theorem d_X11_law_50 : decode cX11_law 50 = .ok (.invokevirtual 140, 3) := by decide +kernel
theorem d_X11_law_53 : decode cX11_law 53 = .ok (.aload_n 0, 1) := by decide +kernel
theorem d_X11_law_54 : decode cX11_law 54 = .ok (.getfield 63, 3) := by decide +kernel
theorem d_X11_law_57 : decode cX11_law 57 = .ok (.invokevirtual 128, 3) := by decide +kernel
theorem d_X11_law_60 : decode cX11_law 60 = .ok (.aload_n 0, 1) := by decide +kernel
theorem d_X11_law_61 : decode cX11_law 61 = .ok (.getfield 32, 3) := by decide +kernel
theorem d_X11_law_64 : decode cX11_law 64 = .ok (.getfield 143, 3) := by decide +kernel
theorem d_X11_law_67 : decode cX11_law 67 = .ok (.ireturn, 1) := by decide +kernel
theorem s_X11_law_e {G : Gl} (hG : G.1.stackTraces = false) {C : Cx} {n : Nat} {μ : Mem}  {r : ((Nat × Mem) ⊕ (Int32 × Mem))} (hf : f_X11_law μ = some r) (hK : FinX G C F_X11_law (some .int) (Sum.map id (fun q => (some (.int q.1), q.2)) r)) : V G C F_X11_law 0 [some (.ref (G.2.1 + 0))] [] (pic G μ) n 0 0 := by
  unfold f_X11_law at hf
  refine V_aload_n d_X11_law_0 rfl rfl ?_
  refine B_get k_0 fl_RX11_36 d_X11_law_1 g_11_5 ?_
  obtain ⟨q1, hq1, hf⟩ := ob hf
  refine B_callV0 (s_X4_clear hG W_56 hq1) k_56 clX4 m_X4_clear kv_RX11_131 d_X11_law_4 rfl (Nat.le_of_ble_eq_true rfl) ⟨rfl, rfl, Nat.le_of_ble_eq_true rfl, Nat.le_of_ble_eq_true rfl, Nat.le_of_ble_eq_true rfl⟩ (fun n => ?_)
  refine V_aload_n d_X11_law_7 rfl rfl ?_
  refine B_get k_0 fl_RX11_56 d_X11_law_8 g_11_8 ?_
  obtain ⟨q2, hq2, hf⟩ := ob hf
  refine B_callU0 (s_X6_readAll_73 hG hq2) k_73 clX5 m_X6_readAll_73 ku_RX11_134_5 d_X11_law_11 rfl (Nat.le_of_ble_eq_true rfl) ⟨rfl, rfl, Nat.le_of_ble_eq_true rfl, Nat.le_of_ble_eq_true rfl, Nat.le_of_ble_eq_true rfl⟩ (fun n => ?_)
  refine V_aload_n d_X11_law_14 rfl rfl ?_
  refine B_get k_0 fl_RX11_10 d_X11_law_15 g_11_0 ?_
  obtain ⟨t3, ht3, hf⟩ := ob hf
  refine B_callV1 (s_X8_isRight hG ht3) k_1 clX8 m_X8_isRight kv_RX11_109 d_X11_law_18 rfl (Nat.le_of_ble_eq_true rfl) ⟨rfl, rfl, Nat.le_of_ble_eq_true rfl, Nat.le_of_ble_eq_true rfl, Nat.le_of_ble_eq_true rfl⟩ (fun n => ?_)
  refine V_if_ne (tgt := 34) d_X11_law_21 (by decide) (fun c21 => ?_) (fun c21 => ?_)
  · replace hf := iteT (b2i_ne0 c21) hf
    refine V_aload_n d_X11_law_34 rfl rfl ?_
    refine B_get k_0 fl_RX11_36 d_X11_law_35 g_11_5 ?_
    refine V_iconst (v := 1) d_X11_law_38 ic_1 ?_
    refine B_putZ (v := true) k_56 fl_RX11_137 pt_4_0 (Nat.le_of_ble_eq_true rfl) p_4_0 d_X11_law_39 ?_
    refine V_aload_n d_X11_law_42 rfl rfl ?_
    refine B_get k_0 fl_RX11_32 d_X11_law_43 g_11_4 ?_
    refine V_aload_n d_X11_law_46 rfl rfl ?_
    refine B_get k_0 fl_RX11_36 d_X11_law_47 g_11_5 ?_
    obtain ⟨q4, hq4, hf⟩ := ob hf
    refine B_callV0 (s_X4_copyFrom hG W_48 W_56 hq4) k_48 clX4 m_X4_copyFrom kv_RX11_140 d_X11_law_50 rfl (Nat.le_of_ble_eq_true rfl) ⟨rfl, rfl, Nat.le_of_ble_eq_true rfl, Nat.le_of_ble_eq_true rfl, Nat.le_of_ble_eq_true rfl⟩ (fun n => ?_)
    refine V_aload_n d_X11_law_53 rfl rfl ?_
    refine B_get k_0 fl_RX11_63 d_X11_law_54 g_11_9 ?_
    obtain ⟨q5, hq5, hf⟩ := ob hf
    refine B_callV0 (s_X0_forget hG hq5) k_74 clX0 m_X0_forget kv_RX11_128 d_X11_law_57 rfl (Nat.le_of_ble_eq_true rfl) ⟨rfl, rfl, Nat.le_of_ble_eq_true rfl, Nat.le_of_ble_eq_true rfl, Nat.le_of_ble_eq_true rfl⟩ (fun n => ?_)
    refine V_aload_n d_X11_law_60 rfl rfl ?_
    refine B_get k_0 fl_RX11_32 d_X11_law_61 g_11_4 ?_
    refine B_get k_48 fl_RX11_143 d_X11_law_64 g_4_1 ?_
    cases hf
    exact R_iX hK d_X11_law_67 (Nat.le_of_ble_eq_true rfl) (Nat.le_of_ble_eq_true rfl)
  · replace hf := iteF (b2i_nt (b2i_eq0 c21)) hf
    cases hf
    exact B_throw (k0 := 1) hK tk_RX11_113_135_117 rfl rfl d_X11_law_24 d_X11_law_27 d_X11_law_28 d_X11_law_30 d_X11_law_33 (Nat.le_of_ble_eq_true rfl) (Nat.le_of_ble_eq_true rfl) (Nat.le_of_ble_eq_true rfl)
theorem s_X11_law {G : Gl} (hG : G.1.stackTraces = false) {μ : Mem} {r : ((Nat × Mem) ⊕ (Int32 × Mem))} (hf : f_X11_law μ = some r) : Rx G yX11_law F_X11_law (.code yX11_law F_X11_law.2.1 F_X11_law.2.2.1 (some .int)) [.ref (G.2.1 + 0)] μ (Sum.map id (fun q => (some (.int q.1), q.2)) r) := fun n => Sd.of hG ⟨by decide +kernel, rfl, rfl⟩ rfl (Nat.le_of_ble_eq_true rfl) rfl (fun C hK => s_X11_law_e hG hf hK)
theorem d_X11_fault_0 : decode cX11_fault 0 = .ok (.aload_n 0, 1) := by decide +kernel
theorem d_X11_fault_1 : decode cX11_fault 1 = .ok (.getfield 10, 3) := by decide +kernel
theorem d_X11_fault_4 : decode cX11_fault 4 = .ok (.getfield 146, 3) := by decide +kernel
theorem d_X11_fault_7 : decode cX11_fault 7 = .ok (.ireturn, 1) := by decide +kernel
theorem s_X11_fault_e {G : Gl} (hG : G.1.stackTraces = false) {C : Cx} {n : Nat} {μ : Mem}  {r : Int32} (hf : f_X11_fault μ = some r) (hK : FinR G C F_X11_fault (some .int) (some (.int r)) μ) : V G C F_X11_fault 0 [some (.ref (G.2.1 + 0))] [] (pic G μ) n 0 0 := by
  unfold f_X11_fault at hf
  refine V_aload_n d_X11_fault_0 rfl rfl ?_
  refine B_get k_0 fl_RX11_10 d_X11_fault_1 g_11_0 ?_
  refine B_getN k_1 fn_RX11_146 d_X11_fault_4 g_8_4 ?_
  cases hf
  exact R_i hK d_X11_fault_7 (Nat.le_of_ble_eq_true rfl) (Nat.le_of_ble_eq_true rfl)
theorem s_X11_fault {G : Gl} (hG : G.1.stackTraces = false) {μ : Mem} {r : Int32} (hf : f_X11_fault μ = some r) : Rt G yX11_fault F_X11_fault (some .int) [.ref (G.2.1 + 0)] μ (some (.int r)) μ := fun n => Sd.of hG ⟨by decide +kernel, rfl, rfl⟩ rfl (Nat.le_of_ble_eq_true rfl) rfl (fun C hK => s_X11_fault_e hG hf hK)
theorem d_X11_needPerson_0 : decode cX11_needPerson 0 = .ok (.iload_n 1, 1) := by decide +kernel
theorem d_X11_needPerson_1 : decode cX11_needPerson 1 = .ok (.iconst 0, 1) := by decide +kernel
theorem d_X11_needPerson_2 : decode cX11_needPerson 2 = .ok (.aload_n 0, 1) := by decide +kernel
theorem d_X11_needPerson_3 : decode cX11_needPerson 3 = .ok (.getfield 19, 3) := by decide +kernel
theorem d_X11_needPerson_6 : decode cX11_needPerson 6 = .ok (.getfield 291, 3) := by decide +kernel
theorem d_X11_needPerson_9 : decode cX11_needPerson 9 = .ok (.iconst 1, 1) := by decide +kernel
theorem d_X11_needPerson_10 : decode cX11_needPerson 10 = .ok (.isub, 1) := by decide +kernel
theorem d_X11_needPerson_11 : decode cX11_needPerson 11 = .ok (.invokestatic 237, 3) := by decide +kernel
theorem d_X11_needPerson_14 : decode cX11_needPerson 14 = .ok (.ifCond .eq 14, 3) := by decide +kernel
theorem d_X11_needPerson_17 : decode cX11_needPerson 17 = .ok (.new 430, 3) := by decide +kernel
theorem d_X11_needPerson_20 : decode cX11_needPerson 20 = .ok (.dup, 1) := by decide +kernel
theorem d_X11_needPerson_21 : decode cX11_needPerson 21 = .ok (.ldc_w 432, 3) := by decide +kernel
theorem d_X11_needPerson_24 : decode cX11_needPerson 24 = .ok (.invokespecial 434, 3) := by decide +kernel
theorem d_X11_needPerson_27 : decode cX11_needPerson 27 = .ok (.athrow, 1) := by decide +kernel
theorem d_X11_needPerson_28 : decode cX11_needPerson 28 = .ok (.return_, 1) := by decide +kernel
theorem s_X11_needPerson_e {G : Gl} (hG : G.1.stackTraces = false) {C : Cx} {n : Nat} {μ : Mem} {p1 : Int32} {r : ((Nat × Mem) ⊕ Mem)} (hf : f_X11_needPerson μ p1 = some r) (hK : FinX G C F_X11_needPerson none (Sum.map id (fun q => (none, q)) r)) : V G C F_X11_needPerson 0 [some (.ref (G.2.1 + 0)), some (.int p1)] [] (pic G μ) n 0 0 := by
  unfold f_X11_needPerson at hf
  refine V_iload_n d_X11_needPerson_0 rfl rfl ?_
  refine V_iconst (v := 0) d_X11_needPerson_1 ic_0 ?_
  refine V_aload_n d_X11_needPerson_2 rfl rfl ?_
  refine B_get k_0 fl_RX11_19 d_X11_needPerson_3 g_11_1 ?_
  refine B_get k_3 fl_RX11_291 d_X11_needPerson_6 g_2_0 ?_
  refine V_iconst (v := 1) d_X11_needPerson_9 ic_1 ?_
  refine V_isub d_X11_needPerson_10 ?_
  obtain ⟨t1, ht1, hf⟩ := ob hf
  refine B_callS1 (s_X11_isOutside hG ht1) m_X11_isOutside ks_RX11_237 d_X11_needPerson_11 rfl (Nat.le_of_ble_eq_true rfl) ⟨rfl, rfl, Nat.le_of_ble_eq_true rfl, Nat.le_of_ble_eq_true rfl, Nat.le_of_ble_eq_true rfl⟩ (fun n => ?_)
  refine V_if_eq (tgt := 28) d_X11_needPerson_14 (by decide) (fun c14 => ?_) (fun c14 => ?_)
  · replace hf := iteF (b2i_nt (b2i_eq0 c14)) hf
    cases hf
    exact R_vX hK d_X11_needPerson_28 (Nat.le_of_ble_eq_true rfl) (Nat.le_of_ble_eq_true rfl)
  · replace hf := iteT (b2i_ne0 c14) hf
    cases hf
    exact B_throwW (k0 := 2) hK tk_RX11_430_432_434 rfl rfl d_X11_needPerson_17 d_X11_needPerson_20 d_X11_needPerson_21 d_X11_needPerson_24 d_X11_needPerson_27 (Nat.le_of_ble_eq_true rfl) (Nat.le_of_ble_eq_true rfl) (Nat.le_of_ble_eq_true rfl)
theorem s_X11_needPerson {G : Gl} (hG : G.1.stackTraces = false) {μ : Mem} {p1 : Int32} {r : ((Nat × Mem) ⊕ Mem)} (hf : f_X11_needPerson μ p1 = some r) : Rx G yX11_needPerson F_X11_needPerson (.code yX11_needPerson F_X11_needPerson.2.1 F_X11_needPerson.2.2.1 none) [.ref (G.2.1 + 0), .int p1] μ (Sum.map id (fun q => (none, q)) r) := fun n => Sd.of hG ⟨by decide +kernel, rfl, rfl⟩ rfl (Nat.le_of_ble_eq_true rfl) rfl (fun C hK => s_X11_needPerson_e hG hf hK)
theorem d_X11_person_0 : decode cX11_person 0 = .ok (.aload_n 0, 1) := by decide +kernel
theorem d_X11_person_1 : decode cX11_person 1 = .ok (.iload_n 1, 1) := by decide +kernel
theorem d_X11_person_2 : decode cX11_person 2 = .ok (.invokevirtual 149, 3) := by decide +kernel
theorem d_X11_person_5 : decode cX11_person 5 = .ok (.iload_n 2, 1) := by decide +kernel
theorem d_X11_person_6 : decode cX11_person 6 = .ok (.tableswitch 181 0 10 #[58, 68, 78, 88, 98, 108, 117, 126, 135, 144, 172], 58) := by decide +kernel
theorem d_X11_person_64 : decode cX11_person 64 = .ok (.aload_n 0, 1) := by decide +kernel
theorem d_X11_person_65 : decode cX11_person 65 = .ok (.getfield 19, 3) := by decide +kernel
theorem d_X11_person_68 : decode cX11_person 68 = .ok (.getfield 152, 3) := by decide +kernel
theorem d_X11_person_71 : decode cX11_person 71 = .ok (.iload_n 1, 1) := by decide +kernel
theorem d_X11_person_72 : decode cX11_person 72 = .ok (.iaload, 1) := by decide +kernel
theorem d_X11_person_73 : decode cX11_person 73 = .ok (.ireturn, 1) := by decide +kernel
theorem d_X11_person_74 : decode cX11_person 74 = .ok (.aload_n 0, 1) := by decide +kernel
theorem d_X11_person_75 : decode cX11_person 75 = .ok (.getfield 19, 3) := by decide +kernel
theorem d_X11_person_78 : decode cX11_person 78 = .ok (.getfield 156, 3) := by decide +kernel
theorem d_X11_person_81 : decode cX11_person 81 = .ok (.iload_n 1, 1) := by decide +kernel
theorem d_X11_person_82 : decode cX11_person 82 = .ok (.iaload, 1) := by decide +kernel
theorem d_X11_person_83 : decode cX11_person 83 = .ok (.ireturn, 1) := by decide +kernel
theorem d_X11_person_84 : decode cX11_person 84 = .ok (.aload_n 0, 1) := by decide +kernel
theorem d_X11_person_85 : decode cX11_person 85 = .ok (.getfield 19, 3) := by decide +kernel
theorem d_X11_person_88 : decode cX11_person 88 = .ok (.getfield 159, 3) := by decide +kernel
theorem d_X11_person_91 : decode cX11_person 91 = .ok (.iload_n 1, 1) := by decide +kernel
theorem d_X11_person_92 : decode cX11_person 92 = .ok (.iaload, 1) := by decide +kernel
theorem d_X11_person_93 : decode cX11_person 93 = .ok (.ireturn, 1) := by decide +kernel
theorem d_X11_person_94 : decode cX11_person 94 = .ok (.aload_n 0, 1) := by decide +kernel
theorem d_X11_person_95 : decode cX11_person 95 = .ok (.getfield 19, 3) := by decide +kernel
theorem d_X11_person_98 : decode cX11_person 98 = .ok (.getfield 162, 3) := by decide +kernel
theorem d_X11_person_101 : decode cX11_person 101 = .ok (.iload_n 1, 1) := by decide +kernel
theorem d_X11_person_102 : decode cX11_person 102 = .ok (.iaload, 1) := by decide +kernel
theorem d_X11_person_103 : decode cX11_person 103 = .ok (.ireturn, 1) := by decide +kernel
theorem d_X11_person_104 : decode cX11_person 104 = .ok (.aload_n 0, 1) := by decide +kernel
theorem d_X11_person_105 : decode cX11_person 105 = .ok (.getfield 19, 3) := by decide +kernel
theorem d_X11_person_108 : decode cX11_person 108 = .ok (.getfield 165, 3) := by decide +kernel
theorem d_X11_person_111 : decode cX11_person 111 = .ok (.iload_n 1, 1) := by decide +kernel
theorem d_X11_person_112 : decode cX11_person 112 = .ok (.iaload, 1) := by decide +kernel
theorem d_X11_person_113 : decode cX11_person 113 = .ok (.ireturn, 1) := by decide +kernel
theorem d_X11_person_114 : decode cX11_person 114 = .ok (.aload_n 0, 1) := by decide +kernel
theorem d_X11_person_115 : decode cX11_person 115 = .ok (.getfield 19, 3) := by decide +kernel
theorem d_X11_person_118 : decode cX11_person 118 = .ok (.iload_n 1, 1) := by decide +kernel
theorem d_X11_person_119 : decode cX11_person 119 = .ok (.invokevirtual 168, 3) := by decide +kernel
theorem d_X11_person_122 : decode cX11_person 122 = .ok (.ireturn, 1) := by decide +kernel
theorem d_X11_person_123 : decode cX11_person 123 = .ok (.aload_n 0, 1) := by decide +kernel
theorem d_X11_person_124 : decode cX11_person 124 = .ok (.getfield 19, 3) := by decide +kernel
theorem d_X11_person_127 : decode cX11_person 127 = .ok (.iload_n 1, 1) := by decide +kernel
theorem d_X11_person_128 : decode cX11_person 128 = .ok (.invokevirtual 172, 3) := by decide +kernel
theorem d_X11_person_131 : decode cX11_person 131 = .ok (.ireturn, 1) := by decide +kernel
theorem d_X11_person_132 : decode cX11_person 132 = .ok (.aload_n 0, 1) := by decide +kernel
theorem d_X11_person_133 : decode cX11_person 133 = .ok (.getfield 19, 3) := by decide +kernel
theorem d_X11_person_136 : decode cX11_person 136 = .ok (.iload_n 1, 1) := by decide +kernel
theorem d_X11_person_137 : decode cX11_person 137 = .ok (.invokevirtual 175, 3) := by decide +kernel
theorem d_X11_person_140 : decode cX11_person 140 = .ok (.ireturn, 1) := by decide +kernel
theorem d_X11_person_141 : decode cX11_person 141 = .ok (.aload_n 0, 1) := by decide +kernel
theorem d_X11_person_142 : decode cX11_person 142 = .ok (.getfield 19, 3) := by decide +kernel
theorem d_X11_person_145 : decode cX11_person 145 = .ok (.iload_n 1, 1) := by decide +kernel
theorem d_X11_person_146 : decode cX11_person 146 = .ok (.invokevirtual 178, 3) := by decide +kernel
theorem d_X11_person_149 : decode cX11_person 149 = .ok (.ireturn, 1) := by decide +kernel
theorem d_X11_person_150 : decode cX11_person 150 = .ok (.aload_n 0, 1) := by decide +kernel
theorem d_X11_person_151 : decode cX11_person 151 = .ok (.getfield 19, 3) := by decide +kernel
theorem d_X11_person_154 : decode cX11_person 154 = .ok (.getfield 152, 3) := by decide +kernel
theorem d_X11_person_157 : decode cX11_person 157 = .ok (.iload_n 1, 1) := by decide +kernel
theorem d_X11_person_158 : decode cX11_person 158 = .ok (.iaload, 1) := by decide +kernel
theorem d_X11_person_159 : decode cX11_person 159 = .ok (.aload_n 0, 1) := by decide +kernel
theorem d_X11_person_160 : decode cX11_person 160 = .ok (.getfield 19, 3) := by decide +kernel
theorem d_X11_person_163 : decode cX11_person 163 = .ok (.iload_n 1, 1) := by decide +kernel
theorem d_X11_person_164 : decode cX11_person 164 = .ok (.invokevirtual 178, 3) := by decide +kernel
theorem d_X11_person_167 : decode cX11_person 167 = .ok (.iadd, 1) := by decide +kernel
theorem d_X11_person_168 : decode cX11_person 168 = .ok (.aload_n 0, 1) := by decide +kernel
theorem d_X11_person_169 : decode cX11_person 169 = .ok (.getfield 19, 3) := by decide +kernel
theorem d_X11_person_172 : decode cX11_person 172 = .ok (.iload_n 1, 1) := by decide +kernel
theorem d_X11_person_173 : decode cX11_person 173 = .ok (.invokevirtual 175, 3) := by decide +kernel
theorem d_X11_person_176 : decode cX11_person 176 = .ok (.isub, 1) := by decide +kernel
theorem d_X11_person_177 : decode cX11_person 177 = .ok (.ireturn, 1) := by decide +kernel
theorem d_X11_person_178 : decode cX11_person 178 = .ok (.aload_n 0, 1) := by decide +kernel
theorem d_X11_person_179 : decode cX11_person 179 = .ok (.getfield 19, 3) := by decide +kernel
theorem d_X11_person_182 : decode cX11_person 182 = .ok (.iload_n 1, 1) := by decide +kernel
theorem d_X11_person_183 : decode cX11_person 183 = .ok (.invokevirtual 181, 3) := by decide +kernel
theorem d_X11_person_186 : decode cX11_person 186 = .ok (.ireturn, 1) := by decide +kernel
theorem d_X11_person_187 : decode cX11_person 187 = .ok (.new 184, 3) := by decide +kernel
theorem d_X11_person_190 : decode cX11_person 190 = .ok (.dup, 1) := by decide +kernel
theorem d_X11_person_191 : decode cX11_person 191 = .ok (.ldc 186, 2) := by decide +kernel
theorem d_X11_person_193 : decode cX11_person 193 = .ok (.invokespecial 188, 3) := by decide +kernel
theorem d_X11_person_196 : decode cX11_person 196 = .ok (.athrow, 1) := by decide +kernel
theorem s_X11_person_e {G : Gl} (hG : G.1.stackTraces = false) {C : Cx} {n : Nat} {μ : Mem} {p1 : Int32} {p2 : Int32} {r : ((Nat × Mem) ⊕ (Int32 × Mem))} (hf : f_X11_person μ p1 p2 = some r) (hK : FinX G C F_X11_person (some .int) (Sum.map id (fun q => (some (.int q.1), q.2)) r)) : V G C F_X11_person 0 [some (.ref (G.2.1 + 0)), some (.int p1), some (.int p2)] [] (pic G μ) n 0 0 := by
  unfold f_X11_person at hf
  refine V_aload_n d_X11_person_0 rfl rfl ?_
  refine V_iload_n d_X11_person_1 rfl rfl ?_
  obtain ⟨q1, hq1, hf⟩ := ob hf
  cases q1 with
  | inl e9 =>
    obtain ⟨k9, μ9⟩ := e9
    refine B_callVXt (kc' := 1) (ks' := 6) (s_X11_needPerson hG hq1) k_0 clX11 m_X11_needPerson kv_RX11_149 d_X11_person_2 rfl (Nat.le_of_ble_eq_true rfl) ⟨rfl, rfl, Nat.le_of_ble_eq_true rfl, Nat.le_of_ble_eq_true rfl, Nat.le_of_ble_eq_true rfl⟩ (fun n => ?_)
    cases hf
    exact X_out hK rfl (Nat.le_of_ble_eq_true rfl) (Nat.le_of_ble_eq_true rfl)
  | inr v2 =>
    replace hf := elimR hf
    refine B_callVX0 (kc' := 1) (ks' := 6) (s_X11_needPerson hG hq1) k_0 clX11 m_X11_needPerson kv_RX11_149 d_X11_person_2 rfl (Nat.le_of_ble_eq_true rfl) ⟨rfl, rfl, Nat.le_of_ble_eq_true rfl, Nat.le_of_ble_eq_true rfl, Nat.le_of_ble_eq_true rfl⟩ (fun n => ?_)
    refine V_iload_n d_X11_person_5 rfl rfl ?_
    by_cases c6_0 : p2 = 0
    · replace hf := iteT c6_0 hf
      refine V_tabC (q := 0) (off := 58) (tgt := 64) d_X11_person_6 c6_0 (by decide) (by decide) ?_
      refine V_aload_n d_X11_person_64 rfl rfl ?_
      refine B_get k_0 fl_RX11_19 d_X11_person_65 g_11_1 ?_
      refine B_get k_3 fl_RX11_152 d_X11_person_68 g_2_6 ?_
      refine V_iload_n d_X11_person_71 rfl rfl ?_
      obtain ⟨t3, ht3, hf⟩ := ob hf
      refine B_iald k_4 ht3 d_X11_person_72 ?_
      cases hf
      exact R_iX hK d_X11_person_73 (Nat.le_of_ble_eq_true rfl) (Nat.le_of_ble_eq_true rfl)
    replace hf := iteF c6_0 hf
    by_cases c6_1 : p2 = 1
    · replace hf := iteT c6_1 hf
      refine V_tabC (q := 1) (off := 68) (tgt := 74) d_X11_person_6 c6_1 (by decide) (by decide) ?_
      refine V_aload_n d_X11_person_74 rfl rfl ?_
      refine B_get k_0 fl_RX11_19 d_X11_person_75 g_11_1 ?_
      refine B_get k_3 fl_RX11_156 d_X11_person_78 g_2_7 ?_
      refine V_iload_n d_X11_person_81 rfl rfl ?_
      obtain ⟨t4, ht4, hf⟩ := ob hf
      refine B_iald k_5 ht4 d_X11_person_82 ?_
      cases hf
      exact R_iX hK d_X11_person_83 (Nat.le_of_ble_eq_true rfl) (Nat.le_of_ble_eq_true rfl)
    replace hf := iteF c6_1 hf
    by_cases c6_2 : p2 = 2
    · replace hf := iteT c6_2 hf
      refine V_tabC (q := 2) (off := 78) (tgt := 84) d_X11_person_6 c6_2 (by decide) (by decide) ?_
      refine V_aload_n d_X11_person_84 rfl rfl ?_
      refine B_get k_0 fl_RX11_19 d_X11_person_85 g_11_1 ?_
      refine B_get k_3 fl_RX11_159 d_X11_person_88 g_2_8 ?_
      refine V_iload_n d_X11_person_91 rfl rfl ?_
      obtain ⟨t5, ht5, hf⟩ := ob hf
      refine B_iald k_6 ht5 d_X11_person_92 ?_
      cases hf
      exact R_iX hK d_X11_person_93 (Nat.le_of_ble_eq_true rfl) (Nat.le_of_ble_eq_true rfl)
    replace hf := iteF c6_2 hf
    by_cases c6_3 : p2 = 3
    · replace hf := iteT c6_3 hf
      refine V_tabC (q := 3) (off := 88) (tgt := 94) d_X11_person_6 c6_3 (by decide) (by decide) ?_
      refine V_aload_n d_X11_person_94 rfl rfl ?_
      refine B_get k_0 fl_RX11_19 d_X11_person_95 g_11_1 ?_
      refine B_get k_3 fl_RX11_162 d_X11_person_98 g_2_9 ?_
      refine V_iload_n d_X11_person_101 rfl rfl ?_
      obtain ⟨t6, ht6, hf⟩ := ob hf
      refine B_iald k_7 ht6 d_X11_person_102 ?_
      cases hf
      exact R_iX hK d_X11_person_103 (Nat.le_of_ble_eq_true rfl) (Nat.le_of_ble_eq_true rfl)
    replace hf := iteF c6_3 hf
    by_cases c6_4 : p2 = 4
    · replace hf := iteT c6_4 hf
      refine V_tabC (q := 4) (off := 98) (tgt := 104) d_X11_person_6 c6_4 (by decide) (by decide) ?_
      refine V_aload_n d_X11_person_104 rfl rfl ?_
      refine B_get k_0 fl_RX11_19 d_X11_person_105 g_11_1 ?_
      refine B_get k_3 fl_RX11_165 d_X11_person_108 g_2_10 ?_
      refine V_iload_n d_X11_person_111 rfl rfl ?_
      obtain ⟨t7, ht7, hf⟩ := ob hf
      refine B_iald k_8 ht7 d_X11_person_112 ?_
      cases hf
      exact R_iX hK d_X11_person_113 (Nat.le_of_ble_eq_true rfl) (Nat.le_of_ble_eq_true rfl)
    replace hf := iteF c6_4 hf
    by_cases c6_5 : p2 = 5
    · replace hf := iteT c6_5 hf
      refine V_tabC (q := 5) (off := 108) (tgt := 114) d_X11_person_6 c6_5 (by decide) (by decide) ?_
      refine V_aload_n d_X11_person_114 rfl rfl ?_
      refine B_get k_0 fl_RX11_19 d_X11_person_115 g_11_1 ?_
      refine V_iload_n d_X11_person_118 rfl rfl ?_
      obtain ⟨t8, ht8, hf⟩ := ob hf
      refine B_callV1 (s_X2_gaitOf hG L_3 ht8) k_3 clX2 m_X2_gaitOf kv_RX11_168 d_X11_person_119 rfl (Nat.le_of_ble_eq_true rfl) ⟨rfl, rfl, Nat.le_of_ble_eq_true rfl, Nat.le_of_ble_eq_true rfl, Nat.le_of_ble_eq_true rfl⟩ (fun n => ?_)
      cases hf
      exact R_iX hK d_X11_person_122 (Nat.le_of_ble_eq_true rfl) (Nat.le_of_ble_eq_true rfl)
    replace hf := iteF c6_5 hf
    by_cases c6_6 : p2 = 6
    · replace hf := iteT c6_6 hf
      refine V_tabC (q := 6) (off := 117) (tgt := 123) d_X11_person_6 c6_6 (by decide) (by decide) ?_
      refine V_aload_n d_X11_person_123 rfl rfl ?_
      refine B_get k_0 fl_RX11_19 d_X11_person_124 g_11_1 ?_
      refine V_iload_n d_X11_person_127 rfl rfl ?_
      obtain ⟨t9, ht9, hf⟩ := ob hf
      refine B_callV1 (s_X2_heldBy hG L_3 ht9) k_3 clX2 m_X2_heldBy kv_RX11_172 d_X11_person_128 rfl (Nat.le_of_ble_eq_true rfl) ⟨rfl, rfl, Nat.le_of_ble_eq_true rfl, Nat.le_of_ble_eq_true rfl, Nat.le_of_ble_eq_true rfl⟩ (fun n => ?_)
      cases hf
      exact R_iX hK d_X11_person_131 (Nat.le_of_ble_eq_true rfl) (Nat.le_of_ble_eq_true rfl)
    replace hf := iteF c6_6 hf
    by_cases c6_7 : p2 = 7
    · replace hf := iteT c6_7 hf
      refine V_tabC (q := 7) (off := 126) (tgt := 132) d_X11_person_6 c6_7 (by decide) (by decide) ?_
      refine V_aload_n d_X11_person_132 rfl rfl ?_
      refine B_get k_0 fl_RX11_19 d_X11_person_133 g_11_1 ?_
      refine V_iload_n d_X11_person_136 rfl rfl ?_
      obtain ⟨t10, ht10, hf⟩ := ob hf
      refine B_callV1 (s_X2_owedBy hG L_3 ht10) k_3 clX2 m_X2_owedBy kv_RX11_175 d_X11_person_137 rfl (Nat.le_of_ble_eq_true rfl) ⟨rfl, rfl, Nat.le_of_ble_eq_true rfl, Nat.le_of_ble_eq_true rfl, Nat.le_of_ble_eq_true rfl⟩ (fun n => ?_)
      cases hf
      exact R_iX hK d_X11_person_140 (Nat.le_of_ble_eq_true rfl) (Nat.le_of_ble_eq_true rfl)
    replace hf := iteF c6_7 hf
    by_cases c6_8 : p2 = 8
    · replace hf := iteT c6_8 hf
      refine V_tabC (q := 8) (off := 135) (tgt := 141) d_X11_person_6 c6_8 (by decide) (by decide) ?_
      refine V_aload_n d_X11_person_141 rfl rfl ?_
      refine B_get k_0 fl_RX11_19 d_X11_person_142 g_11_1 ?_
      refine V_iload_n d_X11_person_145 rfl rfl ?_
      obtain ⟨t11, ht11, hf⟩ := ob hf
      refine B_callV1 (s_X2_dueTo hG L_3 ht11) k_3 clX2 m_X2_dueTo kv_RX11_178 d_X11_person_146 rfl (Nat.le_of_ble_eq_true rfl) ⟨rfl, rfl, Nat.le_of_ble_eq_true rfl, Nat.le_of_ble_eq_true rfl, Nat.le_of_ble_eq_true rfl⟩ (fun n => ?_)
      cases hf
      exact R_iX hK d_X11_person_149 (Nat.le_of_ble_eq_true rfl) (Nat.le_of_ble_eq_true rfl)
    replace hf := iteF c6_8 hf
    by_cases c6_9 : p2 = 9
    · replace hf := iteT c6_9 hf
      refine V_tabC (q := 9) (off := 144) (tgt := 150) d_X11_person_6 c6_9 (by decide) (by decide) ?_
      refine V_aload_n d_X11_person_150 rfl rfl ?_
      refine B_get k_0 fl_RX11_19 d_X11_person_151 g_11_1 ?_
      refine B_get k_3 fl_RX11_152 d_X11_person_154 g_2_6 ?_
      refine V_iload_n d_X11_person_157 rfl rfl ?_
      obtain ⟨t12, ht12, hf⟩ := ob hf
      refine B_iald k_4 ht12 d_X11_person_158 ?_
      refine V_aload_n d_X11_person_159 rfl rfl ?_
      refine B_get k_0 fl_RX11_19 d_X11_person_160 g_11_1 ?_
      refine V_iload_n d_X11_person_163 rfl rfl ?_
      obtain ⟨t13, ht13, hf⟩ := ob hf
      refine B_callV1 (s_X2_dueTo hG L_3 ht13) k_3 clX2 m_X2_dueTo kv_RX11_178 d_X11_person_164 rfl (Nat.le_of_ble_eq_true rfl) ⟨rfl, rfl, Nat.le_of_ble_eq_true rfl, Nat.le_of_ble_eq_true rfl, Nat.le_of_ble_eq_true rfl⟩ (fun n => ?_)
      refine V_iadd d_X11_person_167 ?_
      refine V_aload_n d_X11_person_168 rfl rfl ?_
      refine B_get k_0 fl_RX11_19 d_X11_person_169 g_11_1 ?_
      refine V_iload_n d_X11_person_172 rfl rfl ?_
      obtain ⟨t14, ht14, hf⟩ := ob hf
      refine B_callV1 (s_X2_owedBy hG L_3 ht14) k_3 clX2 m_X2_owedBy kv_RX11_175 d_X11_person_173 rfl (Nat.le_of_ble_eq_true rfl) ⟨rfl, rfl, Nat.le_of_ble_eq_true rfl, Nat.le_of_ble_eq_true rfl, Nat.le_of_ble_eq_true rfl⟩ (fun n => ?_)
      refine V_isub d_X11_person_176 ?_
      cases hf
      exact R_iX hK d_X11_person_177 (Nat.le_of_ble_eq_true rfl) (Nat.le_of_ble_eq_true rfl)
    replace hf := iteF c6_9 hf
    by_cases c6_10 : p2 = 10
    · replace hf := iteT c6_10 hf
      refine V_tabC (q := 10) (off := 172) (tgt := 178) d_X11_person_6 c6_10 (by decide) (by decide) ?_
      refine V_aload_n d_X11_person_178 rfl rfl ?_
      refine B_get k_0 fl_RX11_19 d_X11_person_179 g_11_1 ?_
      refine V_iload_n d_X11_person_182 rfl rfl ?_
      obtain ⟨t15, ht15, hf⟩ := ob hf
      refine B_callV1 (s_X2_shareOf hG L_3 ht15) k_3 clX2 m_X2_shareOf kv_RX11_181 d_X11_person_183 rfl (Nat.le_of_ble_eq_true rfl) ⟨rfl, rfl, Nat.le_of_ble_eq_true rfl, Nat.le_of_ble_eq_true rfl, Nat.le_of_ble_eq_true rfl⟩ (fun n => ?_)
      cases hf
      exact R_iX hK d_X11_person_186 (Nat.le_of_ble_eq_true rfl) (Nat.le_of_ble_eq_true rfl)
    replace hf := iteF c6_10 hf
    refine V_tabD (ks9 := [0, 1, 2, 3, 4, 5, 6, 7, 8, 9, 10]) (tgt := 187) d_X11_person_6 ⟨c6_0, c6_1, c6_2, c6_3, c6_4, c6_5, c6_6, c6_7, c6_8, c6_9, c6_10, trivial⟩ (by decide) (by decide) ?_
    cases hf
    exact B_throwN (k0 := 4) hK tk_RX11_184_186_188 rfl rfl d_X11_person_187 d_X11_person_190 d_X11_person_191 d_X11_person_193 d_X11_person_196 (Nat.le_of_ble_eq_true rfl) (Nat.le_of_ble_eq_true rfl) (Nat.le_of_ble_eq_true rfl)
theorem s_X11_person {G : Gl} (hG : G.1.stackTraces = false) {μ : Mem} {p1 : Int32} {p2 : Int32} {r : ((Nat × Mem) ⊕ (Int32 × Mem))} (hf : f_X11_person μ p1 p2 = some r) : Rx G yX11_person F_X11_person (.code yX11_person F_X11_person.2.1 F_X11_person.2.2.1 (some .int)) [.ref (G.2.1 + 0), .int p1, .int p2] μ (Sum.map id (fun q => (some (.int q.1), q.2)) r) := fun n => Sd.of hG ⟨by decide +kernel, rfl, rfl⟩ rfl (Nat.le_of_ble_eq_true rfl) rfl (fun C hK => s_X11_person_e hG hf hK)
theorem d_X11_needLace_0 : decode cX11_needLace 0 = .ok (.iload_n 1, 1) := by decide +kernel
theorem d_X11_needLace_1 : decode cX11_needLace 1 = .ok (.iconst 0, 1) := by decide +kernel
theorem d_X11_needLace_2 : decode cX11_needLace 2 = .ok (.iconst 2, 1) := by decide +kernel
theorem d_X11_needLace_3 : decode cX11_needLace 3 = .ok (.aload_n 0, 1) := by decide +kernel
theorem d_X11_needLace_4 : decode cX11_needLace 4 = .ok (.getfield 19, 3) := by decide +kernel
theorem d_X11_needLace_7 : decode cX11_needLace 7 = .ok (.getfield 291, 3) := by decide +kernel
theorem d_X11_needLace_10 : decode cX11_needLace 10 = .ok (.imul, 1) := by decide +kernel
theorem d_X11_needLace_11 : decode cX11_needLace 11 = .ok (.iconst 1, 1) := by decide +kernel
theorem d_X11_needLace_12 : decode cX11_needLace 12 = .ok (.isub, 1) := by decide +kernel
theorem d_X11_needLace_13 : decode cX11_needLace 13 = .ok (.invokestatic 237, 3) := by decide +kernel
theorem d_X11_needLace_16 : decode cX11_needLace 16 = .ok (.ifCond .eq 14, 3) := by decide +kernel
theorem d_X11_needLace_19 : decode cX11_needLace 19 = .ok (.new 430, 3) := by decide +kernel
theorem d_X11_needLace_22 : decode cX11_needLace 22 = .ok (.dup, 1) := by decide +kernel
theorem d_X11_needLace_23 : decode cX11_needLace 23 = .ok (.ldc_w 435, 3) := by decide +kernel
theorem d_X11_needLace_26 : decode cX11_needLace 26 = .ok (.invokespecial 434, 3) := by decide +kernel
theorem d_X11_needLace_29 : decode cX11_needLace 29 = .ok (.athrow, 1) := by decide +kernel
theorem d_X11_needLace_30 : decode cX11_needLace 30 = .ok (.return_, 1) := by decide +kernel
theorem s_X11_needLace_e {G : Gl} (hG : G.1.stackTraces = false) {C : Cx} {n : Nat} {μ : Mem} {p1 : Int32} {r : ((Nat × Mem) ⊕ Mem)} (hf : f_X11_needLace μ p1 = some r) (hK : FinX G C F_X11_needLace none (Sum.map id (fun q => (none, q)) r)) : V G C F_X11_needLace 0 [some (.ref (G.2.1 + 0)), some (.int p1)] [] (pic G μ) n 0 0 := by
  unfold f_X11_needLace at hf
  refine V_iload_n d_X11_needLace_0 rfl rfl ?_
  refine V_iconst (v := 0) d_X11_needLace_1 ic_0 ?_
  refine V_iconst (v := 2) d_X11_needLace_2 ic_2 ?_
  refine V_aload_n d_X11_needLace_3 rfl rfl ?_
  refine B_get k_0 fl_RX11_19 d_X11_needLace_4 g_11_1 ?_
  refine B_get k_3 fl_RX11_291 d_X11_needLace_7 g_2_0 ?_
  refine V_imul d_X11_needLace_10 ?_
  refine V_iconst (v := 1) d_X11_needLace_11 ic_1 ?_
  refine V_isub d_X11_needLace_12 ?_
  obtain ⟨t1, ht1, hf⟩ := ob hf
  refine B_callS1 (s_X11_isOutside hG ht1) m_X11_isOutside ks_RX11_237 d_X11_needLace_13 rfl (Nat.le_of_ble_eq_true rfl) ⟨rfl, rfl, Nat.le_of_ble_eq_true rfl, Nat.le_of_ble_eq_true rfl, Nat.le_of_ble_eq_true rfl⟩ (fun n => ?_)
  refine V_if_eq (tgt := 30) d_X11_needLace_16 (by decide) (fun c16 => ?_) (fun c16 => ?_)
  · replace hf := iteF (b2i_nt (b2i_eq0 c16)) hf
    cases hf
    exact R_vX hK d_X11_needLace_30 (Nat.le_of_ble_eq_true rfl) (Nat.le_of_ble_eq_true rfl)
  · replace hf := iteT (b2i_ne0 c16) hf
    cases hf
    exact B_throwW (k0 := 2) hK tk_RX11_430_435_434 rfl rfl d_X11_needLace_19 d_X11_needLace_22 d_X11_needLace_23 d_X11_needLace_26 d_X11_needLace_29 (Nat.le_of_ble_eq_true rfl) (Nat.le_of_ble_eq_true rfl) (Nat.le_of_ble_eq_true rfl)
theorem s_X11_needLace {G : Gl} (hG : G.1.stackTraces = false) {μ : Mem} {p1 : Int32} {r : ((Nat × Mem) ⊕ Mem)} (hf : f_X11_needLace μ p1 = some r) : Rx G yX11_needLace F_X11_needLace (.code yX11_needLace F_X11_needLace.2.1 F_X11_needLace.2.2.1 none) [.ref (G.2.1 + 0), .int p1] μ (Sum.map id (fun q => (none, q)) r) := fun n => Sd.of hG ⟨by decide +kernel, rfl, rfl⟩ rfl (Nat.le_of_ble_eq_true rfl) rfl (fun C hK => s_X11_needLace_e hG hf hK)
theorem d_X11_lace_0 : decode cX11_lace 0 = .ok (.aload_n 0, 1) := by decide +kernel
theorem d_X11_lace_1 : decode cX11_lace 1 = .ok (.iload_n 1, 1) := by decide +kernel
theorem d_X11_lace_2 : decode cX11_lace 2 = .ok (.invokevirtual 189, 3) := by decide +kernel
theorem d_X11_lace_5 : decode cX11_lace 5 = .ok (.iload_n 2, 1) := by decide +kernel
theorem d_X11_lace_6 : decode cX11_lace 6 = .ok (.tableswitch 98 0 5 #[38, 48, 58, 68, 78, 88], 38) := by decide +kernel
theorem d_X11_lace_44 : decode cX11_lace 44 = .ok (.aload_n 0, 1) := by decide +kernel
theorem d_X11_lace_45 : decode cX11_lace 45 = .ok (.getfield 19, 3) := by decide +kernel
theorem d_X11_lace_48 : decode cX11_lace 48 = .ok (.getfield 192, 3) := by decide +kernel
theorem d_X11_lace_51 : decode cX11_lace 51 = .ok (.iload_n 1, 1) := by decide +kernel
theorem d_X11_lace_52 : decode cX11_lace 52 = .ok (.iaload, 1) := by decide +kernel
theorem d_X11_lace_53 : decode cX11_lace 53 = .ok (.ireturn, 1) := by decide +kernel
theorem d_X11_lace_54 : decode cX11_lace 54 = .ok (.aload_n 0, 1) := by decide +kernel
theorem d_X11_lace_55 : decode cX11_lace 55 = .ok (.getfield 19, 3) := by decide +kernel
theorem d_X11_lace_58 : decode cX11_lace 58 = .ok (.getfield 195, 3) := by decide +kernel
theorem d_X11_lace_61 : decode cX11_lace 61 = .ok (.iload_n 1, 1) := by decide +kernel
theorem d_X11_lace_62 : decode cX11_lace 62 = .ok (.iaload, 1) := by decide +kernel
theorem d_X11_lace_63 : decode cX11_lace 63 = .ok (.ireturn, 1) := by decide +kernel
theorem d_X11_lace_64 : decode cX11_lace 64 = .ok (.aload_n 0, 1) := by decide +kernel
theorem d_X11_lace_65 : decode cX11_lace 65 = .ok (.getfield 19, 3) := by decide +kernel
theorem d_X11_lace_68 : decode cX11_lace 68 = .ok (.getfield 198, 3) := by decide +kernel
theorem d_X11_lace_71 : decode cX11_lace 71 = .ok (.iload_n 1, 1) := by decide +kernel
theorem d_X11_lace_72 : decode cX11_lace 72 = .ok (.iaload, 1) := by decide +kernel
theorem d_X11_lace_73 : decode cX11_lace 73 = .ok (.ireturn, 1) := by decide +kernel
theorem d_X11_lace_74 : decode cX11_lace 74 = .ok (.aload_n 0, 1) := by decide +kernel
theorem d_X11_lace_75 : decode cX11_lace 75 = .ok (.getfield 19, 3) := by decide +kernel
theorem d_X11_lace_78 : decode cX11_lace 78 = .ok (.getfield 201, 3) := by decide +kernel
theorem d_X11_lace_81 : decode cX11_lace 81 = .ok (.iload_n 1, 1) := by decide +kernel
theorem d_X11_lace_82 : decode cX11_lace 82 = .ok (.iaload, 1) := by decide +kernel
theorem d_X11_lace_83 : decode cX11_lace 83 = .ok (.ireturn, 1) := by decide +kernel
theorem d_X11_lace_84 : decode cX11_lace 84 = .ok (.aload_n 0, 1) := by decide +kernel
theorem d_X11_lace_85 : decode cX11_lace 85 = .ok (.getfield 19, 3) := by decide +kernel
theorem d_X11_lace_88 : decode cX11_lace 88 = .ok (.getfield 204, 3) := by decide +kernel
theorem d_X11_lace_91 : decode cX11_lace 91 = .ok (.iload_n 1, 1) := by decide +kernel
theorem d_X11_lace_92 : decode cX11_lace 92 = .ok (.iaload, 1) := by decide +kernel
theorem d_X11_lace_93 : decode cX11_lace 93 = .ok (.ireturn, 1) := by decide +kernel
theorem d_X11_lace_94 : decode cX11_lace 94 = .ok (.aload_n 0, 1) := by decide +kernel
theorem d_X11_lace_95 : decode cX11_lace 95 = .ok (.getfield 19, 3) := by decide +kernel
theorem d_X11_lace_98 : decode cX11_lace 98 = .ok (.getfield 207, 3) := by decide +kernel
theorem d_X11_lace_101 : decode cX11_lace 101 = .ok (.iload_n 1, 1) := by decide +kernel
theorem d_X11_lace_102 : decode cX11_lace 102 = .ok (.iaload, 1) := by decide +kernel
theorem d_X11_lace_103 : decode cX11_lace 103 = .ok (.ireturn, 1) := by decide +kernel
theorem d_X11_lace_104 : decode cX11_lace 104 = .ok (.new 184, 3) := by decide +kernel
theorem d_X11_lace_107 : decode cX11_lace 107 = .ok (.dup, 1) := by decide +kernel
theorem d_X11_lace_108 : decode cX11_lace 108 = .ok (.ldc 210, 2) := by decide +kernel
theorem d_X11_lace_110 : decode cX11_lace 110 = .ok (.invokespecial 188, 3) := by decide +kernel
theorem d_X11_lace_113 : decode cX11_lace 113 = .ok (.athrow, 1) := by decide +kernel
theorem s_X11_lace_e {G : Gl} (hG : G.1.stackTraces = false) {C : Cx} {n : Nat} {μ : Mem} {p1 : Int32} {p2 : Int32} {r : ((Nat × Mem) ⊕ (Int32 × Mem))} (hf : f_X11_lace μ p1 p2 = some r) (hK : FinX G C F_X11_lace (some .int) (Sum.map id (fun q => (some (.int q.1), q.2)) r)) : V G C F_X11_lace 0 [some (.ref (G.2.1 + 0)), some (.int p1), some (.int p2)] [] (pic G μ) n 0 0 := by
  unfold f_X11_lace at hf
  refine V_aload_n d_X11_lace_0 rfl rfl ?_
  refine V_iload_n d_X11_lace_1 rfl rfl ?_
  obtain ⟨q1, hq1, hf⟩ := ob hf
  cases q1 with
  | inl e9 =>
    obtain ⟨k9, μ9⟩ := e9
    refine B_callVXt (kc' := 1) (ks' := 6) (s_X11_needLace hG hq1) k_0 clX11 m_X11_needLace kv_RX11_189 d_X11_lace_2 rfl (Nat.le_of_ble_eq_true rfl) ⟨rfl, rfl, Nat.le_of_ble_eq_true rfl, Nat.le_of_ble_eq_true rfl, Nat.le_of_ble_eq_true rfl⟩ (fun n => ?_)
    cases hf
    exact X_out hK rfl (Nat.le_of_ble_eq_true rfl) (Nat.le_of_ble_eq_true rfl)
  | inr v2 =>
    replace hf := elimR hf
    refine B_callVX0 (kc' := 1) (ks' := 6) (s_X11_needLace hG hq1) k_0 clX11 m_X11_needLace kv_RX11_189 d_X11_lace_2 rfl (Nat.le_of_ble_eq_true rfl) ⟨rfl, rfl, Nat.le_of_ble_eq_true rfl, Nat.le_of_ble_eq_true rfl, Nat.le_of_ble_eq_true rfl⟩ (fun n => ?_)
    refine V_iload_n d_X11_lace_5 rfl rfl ?_
    by_cases c6_0 : p2 = 0
    · replace hf := iteT c6_0 hf
      refine V_tabC (q := 0) (off := 38) (tgt := 44) d_X11_lace_6 c6_0 (by decide) (by decide) ?_
      refine V_aload_n d_X11_lace_44 rfl rfl ?_
      refine B_get k_0 fl_RX11_19 d_X11_lace_45 g_11_1 ?_
      refine B_get k_3 fl_RX11_192 d_X11_lace_48 g_2_11 ?_
      refine V_iload_n d_X11_lace_51 rfl rfl ?_
      obtain ⟨t3, ht3, hf⟩ := ob hf
      refine B_iald k_9 ht3 d_X11_lace_52 ?_
      cases hf
      exact R_iX hK d_X11_lace_53 (Nat.le_of_ble_eq_true rfl) (Nat.le_of_ble_eq_true rfl)
    replace hf := iteF c6_0 hf
    by_cases c6_1 : p2 = 1
    · replace hf := iteT c6_1 hf
      refine V_tabC (q := 1) (off := 48) (tgt := 54) d_X11_lace_6 c6_1 (by decide) (by decide) ?_
      refine V_aload_n d_X11_lace_54 rfl rfl ?_
      refine B_get k_0 fl_RX11_19 d_X11_lace_55 g_11_1 ?_
      refine B_get k_3 fl_RX11_195 d_X11_lace_58 g_2_12 ?_
      refine V_iload_n d_X11_lace_61 rfl rfl ?_
      obtain ⟨t4, ht4, hf⟩ := ob hf
      refine B_iald k_10 ht4 d_X11_lace_62 ?_
      cases hf
      exact R_iX hK d_X11_lace_63 (Nat.le_of_ble_eq_true rfl) (Nat.le_of_ble_eq_true rfl)
    replace hf := iteF c6_1 hf
    by_cases c6_2 : p2 = 2
    · replace hf := iteT c6_2 hf
      refine V_tabC (q := 2) (off := 58) (tgt := 64) d_X11_lace_6 c6_2 (by decide) (by decide) ?_
      refine V_aload_n d_X11_lace_64 rfl rfl ?_
      refine B_get k_0 fl_RX11_19 d_X11_lace_65 g_11_1 ?_
      refine B_get k_3 fl_RX11_198 d_X11_lace_68 g_2_13 ?_
      refine V_iload_n d_X11_lace_71 rfl rfl ?_
      obtain ⟨t5, ht5, hf⟩ := ob hf
      refine B_iald k_11 ht5 d_X11_lace_72 ?_
      cases hf
      exact R_iX hK d_X11_lace_73 (Nat.le_of_ble_eq_true rfl) (Nat.le_of_ble_eq_true rfl)
    replace hf := iteF c6_2 hf
    by_cases c6_3 : p2 = 3
    · replace hf := iteT c6_3 hf
      refine V_tabC (q := 3) (off := 68) (tgt := 74) d_X11_lace_6 c6_3 (by decide) (by decide) ?_
      refine V_aload_n d_X11_lace_74 rfl rfl ?_
      refine B_get k_0 fl_RX11_19 d_X11_lace_75 g_11_1 ?_
      refine B_get k_3 fl_RX11_201 d_X11_lace_78 g_2_14 ?_
      refine V_iload_n d_X11_lace_81 rfl rfl ?_
      obtain ⟨t6, ht6, hf⟩ := ob hf
      refine B_iald k_12 ht6 d_X11_lace_82 ?_
      cases hf
      exact R_iX hK d_X11_lace_83 (Nat.le_of_ble_eq_true rfl) (Nat.le_of_ble_eq_true rfl)
    replace hf := iteF c6_3 hf
    by_cases c6_4 : p2 = 4
    · replace hf := iteT c6_4 hf
      refine V_tabC (q := 4) (off := 78) (tgt := 84) d_X11_lace_6 c6_4 (by decide) (by decide) ?_
      refine V_aload_n d_X11_lace_84 rfl rfl ?_
      refine B_get k_0 fl_RX11_19 d_X11_lace_85 g_11_1 ?_
      refine B_get k_3 fl_RX11_204 d_X11_lace_88 g_2_15 ?_
      refine V_iload_n d_X11_lace_91 rfl rfl ?_
      obtain ⟨t7, ht7, hf⟩ := ob hf
      refine B_iald k_13 ht7 d_X11_lace_92 ?_
      cases hf
      exact R_iX hK d_X11_lace_93 (Nat.le_of_ble_eq_true rfl) (Nat.le_of_ble_eq_true rfl)
    replace hf := iteF c6_4 hf
    by_cases c6_5 : p2 = 5
    · replace hf := iteT c6_5 hf
      refine V_tabC (q := 5) (off := 88) (tgt := 94) d_X11_lace_6 c6_5 (by decide) (by decide) ?_
      refine V_aload_n d_X11_lace_94 rfl rfl ?_
      refine B_get k_0 fl_RX11_19 d_X11_lace_95 g_11_1 ?_
      refine B_get k_3 fl_RX11_207 d_X11_lace_98 g_2_16 ?_
      refine V_iload_n d_X11_lace_101 rfl rfl ?_
      obtain ⟨t8, ht8, hf⟩ := ob hf
      refine B_iald k_14 ht8 d_X11_lace_102 ?_
      cases hf
      exact R_iX hK d_X11_lace_103 (Nat.le_of_ble_eq_true rfl) (Nat.le_of_ble_eq_true rfl)
    replace hf := iteF c6_5 hf
    refine V_tabD (ks9 := [0, 1, 2, 3, 4, 5]) (tgt := 104) d_X11_lace_6 ⟨c6_0, c6_1, c6_2, c6_3, c6_4, c6_5, trivial⟩ (by decide) (by decide) ?_
    cases hf
    exact B_throwN (k0 := 4) hK tk_RX11_184_210_188 rfl rfl d_X11_lace_104 d_X11_lace_107 d_X11_lace_108 d_X11_lace_110 d_X11_lace_113 (Nat.le_of_ble_eq_true rfl) (Nat.le_of_ble_eq_true rfl) (Nat.le_of_ble_eq_true rfl)
theorem s_X11_lace {G : Gl} (hG : G.1.stackTraces = false) {μ : Mem} {p1 : Int32} {p2 : Int32} {r : ((Nat × Mem) ⊕ (Int32 × Mem))} (hf : f_X11_lace μ p1 p2 = some r) : Rx G yX11_lace F_X11_lace (.code yX11_lace F_X11_lace.2.1 F_X11_lace.2.2.1 (some .int)) [.ref (G.2.1 + 0), .int p1, .int p2] μ (Sum.map id (fun q => (some (.int q.1), q.2)) r) := fun n => Sd.of hG ⟨by decide +kernel, rfl, rfl⟩ rfl (Nat.le_of_ble_eq_true rfl) rfl (fun C hK => s_X11_lace_e hG hf hK)
theorem d_X11_needPlace_0 : decode cX11_needPlace 0 = .ok (.iload_n 1, 1) := by decide +kernel
theorem d_X11_needPlace_1 : decode cX11_needPlace 1 = .ok (.iconst 0, 1) := by decide +kernel
theorem d_X11_needPlace_2 : decode cX11_needPlace 2 = .ok (.bipush 19, 2) := by decide +kernel
theorem d_X11_needPlace_4 : decode cX11_needPlace 4 = .ok (.invokestatic 237, 3) := by decide +kernel
theorem d_X11_needPlace_7 : decode cX11_needPlace 7 = .ok (.ifCond .eq 14, 3) := by decide +kernel
theorem d_X11_needPlace_10 : decode cX11_needPlace 10 = .ok (.new 430, 3) := by decide +kernel
theorem d_X11_needPlace_13 : decode cX11_needPlace 13 = .ok (.dup, 1) := by decide +kernel
theorem d_X11_needPlace_14 : decode cX11_needPlace 14 = .ok (.ldc_w 437, 3) := by decide +kernel
theorem d_X11_needPlace_17 : decode cX11_needPlace 17 = .ok (.invokespecial 434, 3) := by decide +kernel
theorem d_X11_needPlace_20 : decode cX11_needPlace 20 = .ok (.athrow, 1) := by decide +kernel
theorem d_X11_needPlace_21 : decode cX11_needPlace 21 = .ok (.return_, 1) := by decide +kernel
theorem s_X11_needPlace_e {G : Gl} (hG : G.1.stackTraces = false) {C : Cx} {n : Nat} {μ : Mem} {p1 : Int32} {r : ((Nat × Mem) ⊕ Mem)} (hf : f_X11_needPlace μ p1 = some r) (hK : FinX G C F_X11_needPlace none (Sum.map id (fun q => (none, q)) r)) : V G C F_X11_needPlace 0 [some (.ref (G.2.1 + 0)), some (.int p1)] [] (pic G μ) n 0 0 := by
  unfold f_X11_needPlace at hf
  refine V_iload_n d_X11_needPlace_0 rfl rfl ?_
  refine V_iconst (v := 0) d_X11_needPlace_1 ic_0 ?_
  refine V_bipush (v := 19) d_X11_needPlace_2 bp_19 ?_
  obtain ⟨t1, ht1, hf⟩ := ob hf
  refine B_callS1 (s_X11_isOutside hG ht1) m_X11_isOutside ks_RX11_237 d_X11_needPlace_4 rfl (Nat.le_of_ble_eq_true rfl) ⟨rfl, rfl, Nat.le_of_ble_eq_true rfl, Nat.le_of_ble_eq_true rfl, Nat.le_of_ble_eq_true rfl⟩ (fun n => ?_)
  refine V_if_eq (tgt := 21) d_X11_needPlace_7 (by decide) (fun c7 => ?_) (fun c7 => ?_)
  · replace hf := iteF (b2i_nt (b2i_eq0 c7)) hf
    cases hf
    exact R_vX hK d_X11_needPlace_21 (Nat.le_of_ble_eq_true rfl) (Nat.le_of_ble_eq_true rfl)
  · replace hf := iteT (b2i_ne0 c7) hf
    cases hf
    exact B_throwW (k0 := 2) hK tk_RX11_430_437_434 rfl rfl d_X11_needPlace_10 d_X11_needPlace_13 d_X11_needPlace_14 d_X11_needPlace_17 d_X11_needPlace_20 (Nat.le_of_ble_eq_true rfl) (Nat.le_of_ble_eq_true rfl) (Nat.le_of_ble_eq_true rfl)
theorem s_X11_needPlace {G : Gl} (hG : G.1.stackTraces = false) {μ : Mem} {p1 : Int32} {r : ((Nat × Mem) ⊕ Mem)} (hf : f_X11_needPlace μ p1 = some r) : Rx G yX11_needPlace F_X11_needPlace (.code yX11_needPlace F_X11_needPlace.2.1 F_X11_needPlace.2.2.1 none) [.ref (G.2.1 + 0), .int p1] μ (Sum.map id (fun q => (none, q)) r) := fun n => Sd.of hG ⟨by decide +kernel, rfl, rfl⟩ rfl (Nat.le_of_ble_eq_true rfl) rfl (fun C hK => s_X11_needPlace_e hG hf hK)
theorem d_X11_mud_0 : decode cX11_mud 0 = .ok (.aload_n 0, 1) := by decide +kernel
theorem d_X11_mud_1 : decode cX11_mud 1 = .ok (.iload_n 1, 1) := by decide +kernel
theorem d_X11_mud_2 : decode cX11_mud 2 = .ok (.invokevirtual 212, 3) := by decide +kernel
theorem d_X11_mud_5 : decode cX11_mud 5 = .ok (.aload_n 0, 1) := by decide +kernel
theorem d_X11_mud_6 : decode cX11_mud 6 = .ok (.getfield 19, 3) := by decide +kernel
theorem d_X11_mud_9 : decode cX11_mud 9 = .ok (.getfield 215, 3) := by decide +kernel
theorem d_X11_mud_12 : decode cX11_mud 12 = .ok (.iload_n 1, 1) := by decide +kernel
theorem d_X11_mud_13 : decode cX11_mud 13 = .ok (.iaload, 1) := by decide +kernel
theorem d_X11_mud_14 : decode cX11_mud 14 = .ok (.ireturn, 1) := by decide +kernel
theorem s_X11_mud_e {G : Gl} (hG : G.1.stackTraces = false) {C : Cx} {n : Nat} {μ : Mem} {p1 : Int32} {r : ((Nat × Mem) ⊕ (Int32 × Mem))} (hf : f_X11_mud μ p1 = some r) (hK : FinX G C F_X11_mud (some .int) (Sum.map id (fun q => (some (.int q.1), q.2)) r)) : V G C F_X11_mud 0 [some (.ref (G.2.1 + 0)), some (.int p1)] [] (pic G μ) n 0 0 := by
  unfold f_X11_mud at hf
  refine V_aload_n d_X11_mud_0 rfl rfl ?_
  refine V_iload_n d_X11_mud_1 rfl rfl ?_
  obtain ⟨q1, hq1, hf⟩ := ob hf
  cases q1 with
  | inl e9 =>
    obtain ⟨k9, μ9⟩ := e9
    refine B_callVXt (kc' := 1) (ks' := 6) (s_X11_needPlace hG hq1) k_0 clX11 m_X11_needPlace kv_RX11_212 d_X11_mud_2 rfl (Nat.le_of_ble_eq_true rfl) ⟨rfl, rfl, Nat.le_of_ble_eq_true rfl, Nat.le_of_ble_eq_true rfl, Nat.le_of_ble_eq_true rfl⟩ (fun n => ?_)
    cases hf
    exact X_out hK rfl (Nat.le_of_ble_eq_true rfl) (Nat.le_of_ble_eq_true rfl)
  | inr v2 =>
    replace hf := elimR hf
    refine B_callVX0 (kc' := 1) (ks' := 6) (s_X11_needPlace hG hq1) k_0 clX11 m_X11_needPlace kv_RX11_212 d_X11_mud_2 rfl (Nat.le_of_ble_eq_true rfl) ⟨rfl, rfl, Nat.le_of_ble_eq_true rfl, Nat.le_of_ble_eq_true rfl, Nat.le_of_ble_eq_true rfl⟩ (fun n => ?_)
    refine V_aload_n d_X11_mud_5 rfl rfl ?_
    refine B_get k_0 fl_RX11_19 d_X11_mud_6 g_11_1 ?_
    refine B_get k_3 fl_RX11_215 d_X11_mud_9 g_2_17 ?_
    refine V_iload_n d_X11_mud_12 rfl rfl ?_
    obtain ⟨t3, ht3, hf⟩ := ob hf
    refine B_iald k_15 ht3 d_X11_mud_13 ?_
    cases hf
    exact R_iX hK d_X11_mud_14 (Nat.le_of_ble_eq_true rfl) (Nat.le_of_ble_eq_true rfl)
theorem s_X11_mud {G : Gl} (hG : G.1.stackTraces = false) {μ : Mem} {p1 : Int32} {r : ((Nat × Mem) ⊕ (Int32 × Mem))} (hf : f_X11_mud μ p1 = some r) : Rx G yX11_mud F_X11_mud (.code yX11_mud F_X11_mud.2.1 F_X11_mud.2.2.1 (some .int)) [.ref (G.2.1 + 0), .int p1] μ (Sum.map id (fun q => (some (.int q.1), q.2)) r) := fun n => Sd.of hG ⟨by decide +kernel, rfl, rfl⟩ rfl (Nat.le_of_ble_eq_true rfl) rfl (fun C hK => s_X11_mud_e hG hf hK)
theorem d_X11_walks_0 : decode cX11_walks 0 = .ok (.aload_n 0, 1) := by decide +kernel
theorem d_X11_walks_1 : decode cX11_walks 1 = .ok (.iload_n 1, 1) := by decide +kernel
theorem d_X11_walks_2 : decode cX11_walks 2 = .ok (.invokevirtual 149, 3) := by decide +kernel
theorem d_X11_walks_5 : decode cX11_walks 5 = .ok (.iload_n 2, 1) := by decide +kernel
theorem d_X11_walks_6 : decode cX11_walks 6 = .ok (.lookupswitch 52 #[(0, 26), (1, 39)], 26) := by decide +kernel
theorem d_X11_walks_32 : decode cX11_walks 32 = .ok (.aload_n 0, 1) := by decide +kernel
theorem d_X11_walks_33 : decode cX11_walks 33 = .ok (.getfield 19, 3) := by decide +kernel
theorem d_X11_walks_36 : decode cX11_walks 36 = .ok (.iload_n 1, 1) := by decide +kernel
theorem d_X11_walks_37 : decode cX11_walks 37 = .ok (.aload_n 0, 1) := by decide +kernel
theorem d_X11_walks_38 : decode cX11_walks 38 = .ok (.getfield 32, 3) := by decide +kernel
theorem d_X11_walks_41 : decode cX11_walks 41 = .ok (.invokevirtual 218, 3) := by decide +kernel
theorem d_X11_walks_44 : decode cX11_walks 44 = .ok (.ireturn, 1) := by decide +kernel
theorem d_X11_walks_45 : decode cX11_walks 45 = .ok (.aload_n 0, 1) := by decide +kernel
theorem d_X11_walks_46 : decode cX11_walks 46 = .ok (.getfield 19, 3) := by decide +kernel
theorem d_X11_walks_49 : decode cX11_walks 49 = .ok (.iload_n 1, 1) := by decide +kernel
theorem d_X11_walks_50 : decode cX11_walks 50 = .ok (.aload_n 0, 1) := by decide +kernel
theorem d_X11_walks_51 : decode cX11_walks 51 = .ok (.getfield 32, 3) := by decide +kernel
theorem d_X11_walks_54 : decode cX11_walks 54 = .ok (.invokevirtual 222, 3) := by decide +kernel
theorem d_X11_walks_57 : decode cX11_walks 57 = .ok (.ireturn, 1) := by decide +kernel
theorem d_X11_walks_58 : decode cX11_walks 58 = .ok (.new 184, 3) := by decide +kernel
theorem d_X11_walks_61 : decode cX11_walks 61 = .ok (.dup, 1) := by decide +kernel
theorem d_X11_walks_62 : decode cX11_walks 62 = .ok (.ldc 225, 2) := by decide +kernel
theorem d_X11_walks_64 : decode cX11_walks 64 = .ok (.invokespecial 188, 3) := by decide +kernel
theorem d_X11_walks_67 : decode cX11_walks 67 = .ok (.athrow, 1) := by decide +kernel
theorem s_X11_walks_e {G : Gl} (hG : G.1.stackTraces = false) {C : Cx} {n : Nat} {μ : Mem} {p1 : Int32} {p2 : Int32} {r : ((Nat × Mem) ⊕ (Int32 × Mem))} (hf : f_X11_walks μ p1 p2 = some r) (hK : FinX G C F_X11_walks (some .int) (Sum.map id (fun q => (some (.int q.1), q.2)) r)) : V G C F_X11_walks 0 [some (.ref (G.2.1 + 0)), some (.int p1), some (.int p2)] [] (pic G μ) n 0 0 := by
  unfold f_X11_walks at hf
  refine V_aload_n d_X11_walks_0 rfl rfl ?_
  refine V_iload_n d_X11_walks_1 rfl rfl ?_
  obtain ⟨q1, hq1, hf⟩ := ob hf
  cases q1 with
  | inl e9 =>
    obtain ⟨k9, μ9⟩ := e9
    refine B_callVXt (kc' := 1) (ks' := 6) (s_X11_needPerson hG hq1) k_0 clX11 m_X11_needPerson kv_RX11_149 d_X11_walks_2 rfl (Nat.le_of_ble_eq_true rfl) ⟨rfl, rfl, Nat.le_of_ble_eq_true rfl, Nat.le_of_ble_eq_true rfl, Nat.le_of_ble_eq_true rfl⟩ (fun n => ?_)
    cases hf
    exact X_out hK rfl (Nat.le_of_ble_eq_true rfl) (Nat.le_of_ble_eq_true rfl)
  | inr v2 =>
    replace hf := elimR hf
    refine B_callVX0 (kc' := 1) (ks' := 6) (s_X11_needPerson hG hq1) k_0 clX11 m_X11_needPerson kv_RX11_149 d_X11_walks_2 rfl (Nat.le_of_ble_eq_true rfl) ⟨rfl, rfl, Nat.le_of_ble_eq_true rfl, Nat.le_of_ble_eq_true rfl, Nat.le_of_ble_eq_true rfl⟩ (fun n => ?_)
    refine V_iload_n d_X11_walks_5 rfl rfl ?_
    by_cases c6_0 : p2 = 0
    · replace hf := iteT c6_0 hf
      refine V_lkC (q := 0) (off := 26) (tgt := 32) d_X11_walks_6 c6_0 (by decide) (by decide) ?_
      refine V_aload_n d_X11_walks_32 rfl rfl ?_
      refine B_get k_0 fl_RX11_19 d_X11_walks_33 g_11_1 ?_
      refine V_iload_n d_X11_walks_36 rfl rfl ?_
      refine V_aload_n d_X11_walks_37 rfl rfl ?_
      refine B_get k_0 fl_RX11_32 d_X11_walks_38 g_11_4 ?_
      obtain ⟨q3, hq3, hf⟩ := ob hf
      refine B_callV1 (s_X2_walkOf hG L_3 W_48 hq3) k_3 clX2 m_X2_walkOf kv_RX11_218 d_X11_walks_41 rfl (Nat.le_of_ble_eq_true rfl) ⟨rfl, rfl, Nat.le_of_ble_eq_true rfl, Nat.le_of_ble_eq_true rfl, Nat.le_of_ble_eq_true rfl⟩ (fun n => ?_)
      cases hf
      exact R_iX hK d_X11_walks_44 (Nat.le_of_ble_eq_true rfl) (Nat.le_of_ble_eq_true rfl)
    replace hf := iteF c6_0 hf
    by_cases c6_1 : p2 = 1
    · replace hf := iteT c6_1 hf
      refine V_lkC (q := 1) (off := 39) (tgt := 45) d_X11_walks_6 c6_1 (by decide) (by decide) ?_
      refine V_aload_n d_X11_walks_45 rfl rfl ?_
      refine B_get k_0 fl_RX11_19 d_X11_walks_46 g_11_1 ?_
      refine V_iload_n d_X11_walks_49 rfl rfl ?_
      refine V_aload_n d_X11_walks_50 rfl rfl ?_
      refine B_get k_0 fl_RX11_32 d_X11_walks_51 g_11_4 ?_
      obtain ⟨q4, hq4, hf⟩ := ob hf
      refine B_callV1 (s_X2_fallOf hG L_3 W_48 hq4) k_3 clX2 m_X2_fallOf kv_RX11_222 d_X11_walks_54 rfl (Nat.le_of_ble_eq_true rfl) ⟨rfl, rfl, Nat.le_of_ble_eq_true rfl, Nat.le_of_ble_eq_true rfl, Nat.le_of_ble_eq_true rfl⟩ (fun n => ?_)
      cases hf
      exact R_iX hK d_X11_walks_57 (Nat.le_of_ble_eq_true rfl) (Nat.le_of_ble_eq_true rfl)
    replace hf := iteF c6_1 hf
    refine V_lkD (ks9 := [0, 1]) (tgt := 58) d_X11_walks_6 ⟨c6_0, c6_1, trivial⟩ (by decide) (by decide) ?_
    cases hf
    exact B_throwN (k0 := 4) hK tk_RX11_184_225_188 rfl rfl d_X11_walks_58 d_X11_walks_61 d_X11_walks_62 d_X11_walks_64 d_X11_walks_67 (Nat.le_of_ble_eq_true rfl) (Nat.le_of_ble_eq_true rfl) (Nat.le_of_ble_eq_true rfl)
theorem s_X11_walks {G : Gl} (hG : G.1.stackTraces = false) {μ : Mem} {p1 : Int32} {p2 : Int32} {r : ((Nat × Mem) ⊕ (Int32 × Mem))} (hf : f_X11_walks μ p1 p2 = some r) : Rx G yX11_walks F_X11_walks (.code yX11_walks F_X11_walks.2.1 F_X11_walks.2.2.1 (some .int)) [.ref (G.2.1 + 0), .int p1, .int p2] μ (Sum.map id (fun q => (some (.int q.1), q.2)) r) := fun n => Sd.of hG ⟨by decide +kernel, rfl, rfl⟩ rfl (Nat.le_of_ble_eq_true rfl) rfl (fun C hK => s_X11_walks_e hG hf hK)
theorem d_X11_grows_0 : decode cX11_grows 0 = .ok (.aload_n 0, 1) := by decide +kernel
theorem d_X11_grows_1 : decode cX11_grows 1 = .ok (.iload_n 1, 1) := by decide +kernel
theorem d_X11_grows_2 : decode cX11_grows 2 = .ok (.invokevirtual 189, 3) := by decide +kernel
theorem d_X11_grows_5 : decode cX11_grows 5 = .ok (.aload_n 0, 1) := by decide +kernel
theorem d_X11_grows_6 : decode cX11_grows 6 = .ok (.getfield 19, 3) := by decide +kernel
theorem d_X11_grows_9 : decode cX11_grows 9 = .ok (.iload_n 1, 1) := by decide +kernel
theorem d_X11_grows_10 : decode cX11_grows 10 = .ok (.invokevirtual 227, 3) := by decide +kernel
theorem d_X11_grows_13 : decode cX11_grows 13 = .ok (.ifCond .eq 18, 3) := by decide +kernel
theorem d_X11_grows_16 : decode cX11_grows 16 = .ok (.aload_n 0, 1) := by decide +kernel
theorem d_X11_grows_17 : decode cX11_grows 17 = .ok (.getfield 19, 3) := by decide +kernel
theorem d_X11_grows_20 : decode cX11_grows 20 = .ok (.iload_n 1, 1) := by decide +kernel
theorem d_X11_grows_21 : decode cX11_grows 21 = .ok (.aload_n 0, 1) := by decide +kernel
theorem d_X11_grows_22 : decode cX11_grows 22 = .ok (.getfield 32, 3) := by decide +kernel
theorem d_X11_grows_25 : decode cX11_grows 25 = .ok (.invokevirtual 231, 3) := by decide +kernel
theorem d_X11_grows_28 : decode cX11_grows 28 = .ok (.goto 4, 3) := by decide +kernel
theorem d_X11_grows_31 : decode cX11_grows 31 = .ok (.iconst 0, 1) := by decide +kernel
theorem d_X11_grows_32 : decode cX11_grows 32 = .ok (.ireturn, 1) := by decide +kernel
theorem s_X11_grows_j32 {G : Gl} (hG : G.1.stackTraces = false) {C : Cx} {n : Nat} {μ : Mem} {k0 : Int32} {r : ((Nat × Mem) ⊕ (Int32 × Mem))} (hf : f_X11_grows_j32 μ k0 = some r) (hK : FinX G C F_X11_grows (some .int) (Sum.map id (fun q => (some (.int q.1), q.2)) r)) : V G C F_X11_grows 32 [none, none] [.int k0] (pic G μ) n 1 6 := by
  unfold f_X11_grows_j32 at hf
  cases hf
  exact R_iX hK d_X11_grows_32 (Nat.le_of_ble_eq_true rfl) (Nat.le_of_ble_eq_true rfl)
theorem s_X11_grows_e {G : Gl} (hG : G.1.stackTraces = false) {C : Cx} {n : Nat} {μ : Mem} {p1 : Int32} {r : ((Nat × Mem) ⊕ (Int32 × Mem))} (hf : f_X11_grows μ p1 = some r) (hK : FinX G C F_X11_grows (some .int) (Sum.map id (fun q => (some (.int q.1), q.2)) r)) : V G C F_X11_grows 0 [some (.ref (G.2.1 + 0)), some (.int p1)] [] (pic G μ) n 0 0 := by
  unfold f_X11_grows at hf
  refine V_aload_n d_X11_grows_0 rfl rfl ?_
  refine V_iload_n d_X11_grows_1 rfl rfl ?_
  obtain ⟨q1, hq1, hf⟩ := ob hf
  cases q1 with
  | inl e9 =>
    obtain ⟨k9, μ9⟩ := e9
    refine B_callVXt (kc' := 1) (ks' := 6) (s_X11_needLace hG hq1) k_0 clX11 m_X11_needLace kv_RX11_189 d_X11_grows_2 rfl (Nat.le_of_ble_eq_true rfl) ⟨rfl, rfl, Nat.le_of_ble_eq_true rfl, Nat.le_of_ble_eq_true rfl, Nat.le_of_ble_eq_true rfl⟩ (fun n => ?_)
    cases hf
    exact X_out hK rfl (Nat.le_of_ble_eq_true rfl) (Nat.le_of_ble_eq_true rfl)
  | inr v2 =>
    replace hf := elimR hf
    refine B_callVX0 (kc' := 1) (ks' := 6) (s_X11_needLace hG hq1) k_0 clX11 m_X11_needLace kv_RX11_189 d_X11_grows_2 rfl (Nat.le_of_ble_eq_true rfl) ⟨rfl, rfl, Nat.le_of_ble_eq_true rfl, Nat.le_of_ble_eq_true rfl, Nat.le_of_ble_eq_true rfl⟩ (fun n => ?_)
    refine V_aload_n d_X11_grows_5 rfl rfl ?_
    refine B_get k_0 fl_RX11_19 d_X11_grows_6 g_11_1 ?_
    refine V_iload_n d_X11_grows_9 rfl rfl ?_
    obtain ⟨t3, ht3, hf⟩ := ob hf
    refine B_callV1 (s_X2_isPledged hG L_3 ht3) k_3 clX2 m_X2_isPledged kv_RX11_227 d_X11_grows_10 rfl (Nat.le_of_ble_eq_true rfl) ⟨rfl, rfl, Nat.le_of_ble_eq_true rfl, Nat.le_of_ble_eq_true rfl, Nat.le_of_ble_eq_true rfl⟩ (fun n => ?_)
    refine V_if_eq (tgt := 31) d_X11_grows_13 (by decide) (fun c13 => ?_) (fun c13 => ?_)
    · replace hf := iteF (b2i_nt (b2i_eq0 c13)) hf
      refine V_iconst (v := 0) d_X11_grows_31 ic_0 ?_
      refine V_less (ls' := [none, none]) trivial ?_
      exact s_X11_grows_j32 hG hf hK
    · replace hf := iteT (b2i_ne0 c13) hf
      refine V_aload_n d_X11_grows_16 rfl rfl ?_
      refine B_get k_0 fl_RX11_19 d_X11_grows_17 g_11_1 ?_
      refine V_iload_n d_X11_grows_20 rfl rfl ?_
      refine V_aload_n d_X11_grows_21 rfl rfl ?_
      refine B_get k_0 fl_RX11_32 d_X11_grows_22 g_11_4 ?_
      obtain ⟨q4, hq4, hf⟩ := ob hf
      refine B_callV1 (s_X2_growthOf hG L_3 W_48 hq4) k_3 clX2 m_X2_growthOf kv_RX11_231 d_X11_grows_25 rfl (Nat.le_of_ble_eq_true rfl) ⟨rfl, rfl, Nat.le_of_ble_eq_true rfl, Nat.le_of_ble_eq_true rfl, Nat.le_of_ble_eq_true rfl⟩ (fun n => ?_)
      refine V_goto (tgt := 32) d_X11_grows_28 (by decide) ?_
      refine V_less (ls' := [none, none]) trivial ?_
      exact s_X11_grows_j32 hG hf hK
theorem s_X11_grows {G : Gl} (hG : G.1.stackTraces = false) {μ : Mem} {p1 : Int32} {r : ((Nat × Mem) ⊕ (Int32 × Mem))} (hf : f_X11_grows μ p1 = some r) : Rx G yX11_grows F_X11_grows (.code yX11_grows F_X11_grows.2.1 F_X11_grows.2.2.1 (some .int)) [.ref (G.2.1 + 0), .int p1] μ (Sum.map id (fun q => (some (.int q.1), q.2)) r) := fun n => Sd.of hG ⟨by decide +kernel, rfl, rfl⟩ rfl (Nat.le_of_ble_eq_true rfl) rfl (fun C hK => s_X11_grows_e hG hf hK)
theorem d_X11_lend_0 : decode cX11_lend 0 = .ok (.aload_n 0, 1) := by decide +kernel
theorem d_X11_lend_1 : decode cX11_lend 1 = .ok (.iload_n 1, 1) := by decide +kernel
theorem d_X11_lend_2 : decode cX11_lend 2 = .ok (.invokevirtual 149, 3) := by decide +kernel
theorem d_X11_lend_5 : decode cX11_lend 5 = .ok (.aload_n 0, 1) := by decide +kernel
theorem d_X11_lend_6 : decode cX11_lend 6 = .ok (.iload_n 2, 1) := by decide +kernel
theorem d_X11_lend_7 : decode cX11_lend 7 = .ok (.invokevirtual 189, 3) := by decide +kernel
theorem d_X11_lend_10 : decode cX11_lend 10 = .ok (.iload_n 1, 1) := by decide +kernel
theorem d_X11_lend_11 : decode cX11_lend 11 = .ok (.iload_n 2, 1) := by decide +kernel
theorem d_X11_lend_12 : decode cX11_lend 12 = .ok (.invokestatic 234, 3) := by decide +kernel
theorem d_X11_lend_15 : decode cX11_lend 15 = .ok (.if_icmp .eq 37, 3) := by decide +kernel
theorem d_X11_lend_18 : decode cX11_lend 18 = .ok (.iload_n 3, 1) := by decide +kernel
theorem d_X11_lend_19 : decode cX11_lend 19 = .ok (.iconst 1, 1) := by decide +kernel
theorem d_X11_lend_20 : decode cX11_lend 20 = .ok (.sipush 999, 3) := by decide +kernel
theorem d_X11_lend_23 : decode cX11_lend 23 = .ok (.invokestatic 237, 3) := by decide +kernel
theorem d_X11_lend_26 : decode cX11_lend 26 = .ok (.ifCond .ne 26, 3) := by decide +kernel
theorem d_X11_lend_29 : decode cX11_lend 29 = .ok (.iload 4, 2) := by decide +kernel
theorem d_X11_lend_31 : decode cX11_lend 31 = .ok (.iconst 0, 1) := by decide +kernel
theorem d_X11_lend_32 : decode cX11_lend 32 = .ok (.bipush 9, 2) := by decide +kernel
theorem d_X11_lend_34 : decode cX11_lend 34 = .ok (.invokestatic 237, 3) := by decide +kernel
theorem d_X11_lend_37 : decode cX11_lend 37 = .ok (.ifCond .ne 15, 3) := by decide +kernel
theorem d_X11_lend_40 : decode cX11_lend 40 = .ok (.iload 5, 2) := by decide +kernel
theorem d_X11_lend_42 : decode cX11_lend 42 = .ok (.iconst 1, 1) := by decide +kernel
theorem d_X11_lend_43 : decode cX11_lend 43 = .ok (.sipush 9999, 3) := by decide +kernel
theorem d_X11_lend_46 : decode cX11_lend 46 = .ok (.invokestatic 237, 3) := by decide +kernel
theorem d_X11_lend_49 : decode cX11_lend 49 = .ok (.ifCond .eq 13, 3) := by decide +kernel
theorem d_X11_lend_52 : decode cX11_lend 52 = .ok (.new 113, 3) := by decide +kernel
theorem d_X11_lend_55 : decode cX11_lend 55 = .ok (.dup, 1) := by decide +kernel
theorem d_X11_lend_56 : decode cX11_lend 56 = .ok (.ldc 241, 2) := by decide +kernel
theorem d_X11_lend_58 : decode cX11_lend 58 = .ok (.invokespecial 117, 3) := by decide +kernel
theorem d_X11_lend_61 : decode cX11_lend 61 = .ok (.athrow, 1) := by decide +kernel
theorem d_X11_lend_62 : decode cX11_lend 62 = .ok (.aload_n 0, 1) := by decide +kernel
theorem d_X11_lend_63 : decode cX11_lend 63 = .ok (.getfield 19, 3) := by decide +kernel
theorem d_X11_lend_66 : decode cX11_lend 66 = .ok (.getfield 192, 3) := by decide +kernel
theorem d_X11_lend_69 : decode cX11_lend 69 = .ok (.iload_n 2, 1) := by decide +kernel
theorem d_X11_lend_70 : decode cX11_lend 70 = .ok (.iaload, 1) := by decide +kernel
theorem d_X11_lend_71 : decode cX11_lend 71 = .ok (.ifCond .ne 16, 3) := by decide +kernel
theorem d_X11_lend_74 : decode cX11_lend 74 = .ok (.aload_n 0, 1) := by decide +kernel
theorem d_X11_lend_75 : decode cX11_lend 75 = .ok (.getfield 19, 3) := by decide +kernel
theorem d_X11_lend_78 : decode cX11_lend 78 = .ok (.getfield 152, 3) := by decide +kernel
theorem d_X11_lend_81 : decode cX11_lend 81 = .ok (.iload_n 1, 1) := by decide +kernel
theorem d_X11_lend_82 : decode cX11_lend 82 = .ok (.iaload, 1) := by decide +kernel
theorem d_X11_lend_83 : decode cX11_lend 83 = .ok (.iload_n 3, 1) := by decide +kernel
theorem d_X11_lend_84 : decode cX11_lend 84 = .ok (.if_icmp .ge 13, 3) := by decide +kernel
theorem d_X11_lend_87 : decode cX11_lend 87 = .ok (.new 243, 3) := by decide +kernel
theorem d_X11_lend_90 : decode cX11_lend 90 = .ok (.dup, 1) := by decide +kernel
theorem d_X11_lend_91 : decode cX11_lend 91 = .ok (.ldc 245, 2) := by decide +kernel
theorem d_X11_lend_93 : decode cX11_lend 93 = .ok (.invokespecial 247, 3) := by decide +kernel
theorem d_X11_lend_96 : decode cX11_lend 96 = .ok (.athrow, 1) := by decide +kernel
theorem d_X11_lend_97 : decode cX11_lend 97 = .ok (.aload_n 0, 1) := by decide +kernel
theorem d_X11_lend_98 : decode cX11_lend 98 = .ok (.getfield 63, 3) := by decide +kernel
theorem d_X11_lend_101 : decode cX11_lend 101 = .ok (.aload_n 0, 1) := by decide +kernel
theorem d_X11_lend_102 : decode cX11_lend 102 = .ok (.getfield 19, 3) := by decide +kernel
theorem d_X11_lend_105 : decode cX11_lend 105 = .ok (.invokevirtual 248, 3) := by decide +kernel
theorem d_X11_lend_108 : decode cX11_lend 108 = .ok (.aload_n 0, 1) := by decide +kernel
theorem d_X11_lend_109 : decode cX11_lend 109 = .ok (.getfield 19, 3) := by decide +kernel
theorem d_X11_lend_112 : decode cX11_lend 112 = .ok (.getfield 152, 3) := by decide +kernel
theorem d_X11_lend_115 : decode cX11_lend 115 = .ok (.iload_n 1, 1) := by decide +kernel
theorem d_X11_lend_116 : decode cX11_lend 116 = .ok (.dup2, 1) := by decide +kernel
theorem d_X11_lend_117 : decode cX11_lend 117 = .ok (.iaload, 1) := by decide +kernel
theorem d_X11_lend_118 : decode cX11_lend 118 = .ok (.iload_n 3, 1) := by decide +kernel
theorem d_X11_lend_119 : decode cX11_lend 119 = .ok (.isub, 1) := by decide +kernel
theorem d_X11_lend_120 : decode cX11_lend 120 = .ok (.iastore, 1) := by decide +kernel
theorem d_X11_lend_121 : decode cX11_lend 121 = .ok (.aload_n 0, 1) := by decide +kernel
theorem d_X11_lend_122 : decode cX11_lend 122 = .ok (.getfield 19, 3) := by decide +kernel
theorem d_X11_lend_125 : decode cX11_lend 125 = .ok (.iload_n 2, 1) := by decide +kernel
theorem d_X11_lend_126 : decode cX11_lend 126 = .ok (.invokestatic 234, 3) := by decide +kernel
theorem d_X11_lend_129 : decode cX11_lend 129 = .ok (.iload_n 3, 1) := by decide +kernel
theorem d_X11_lend_130 : decode cX11_lend 130 = .ok (.invokevirtual 251, 3) := by decide +kernel
theorem d_X11_lend_133 : decode cX11_lend 133 = .ok (.aload_n 0, 1) := by decide +kernel
theorem d_X11_lend_134 : decode cX11_lend 134 = .ok (.getfield 19, 3) := by decide +kernel
theorem d_X11_lend_137 : decode cX11_lend 137 = .ok (.iload_n 2, 1) := by decide +kernel
theorem d_X11_lend_138 : decode cX11_lend 138 = .ok (.iload_n 1, 1) := by decide +kernel
theorem d_X11_lend_139 : decode cX11_lend 139 = .ok (.iload_n 3, 1) := by decide +kernel
theorem d_X11_lend_140 : decode cX11_lend 140 = .ok (.iload 4, 2) := by decide +kernel
theorem d_X11_lend_142 : decode cX11_lend 142 = .ok (.iload 5, 2) := by decide +kernel
theorem d_X11_lend_144 : decode cX11_lend 144 = .ok (.iconst (-1), 1) := by decide +kernel
theorem d_X11_lend_145 : decode cX11_lend 145 = .ok (.invokevirtual 255, 3) := by decide +kernel
theorem d_X11_lend_148 : decode cX11_lend 148 = .ok (.aload_n 0, 1) := by decide +kernel
theorem d_X11_lend_149 : decode cX11_lend 149 = .ok (.getfield 19, 3) := by decide +kernel
theorem d_X11_lend_152 : decode cX11_lend 152 = .ok (.getfield 259, 3) := by decide +kernel
theorem d_X11_lend_155 : decode cX11_lend 155 = .ok (.aload_n 0, 1) := by decide +kernel
theorem d_X11_lend_156 : decode cX11_lend 156 = .ok (.getfield 19, 3) := by decide +kernel
theorem d_X11_lend_159 : decode cX11_lend 159 = .ok (.getfield 263, 3) := by decide +kernel
theorem d_X11_lend_162 : decode cX11_lend 162 = .ok (.iload_n 2, 1) := by decide +kernel
theorem d_X11_lend_163 : decode cX11_lend 163 = .ok (.iconst 0, 1) := by decide +kernel
theorem d_X11_lend_164 : decode cX11_lend 164 = .ok (.iload_n 3, 1) := by decide +kernel
theorem d_X11_lend_165 : decode cX11_lend 165 = .ok (.invokevirtual 266, 3) := by decide +kernel
theorem d_X11_lend_168 : decode cX11_lend 168 = .ok (.aload_n 0, 1) := by decide +kernel
theorem d_X11_lend_169 : decode cX11_lend 169 = .ok (.getfield 19, 3) := by decide +kernel
theorem d_X11_lend_172 : decode cX11_lend 172 = .ok (.getfield 152, 3) := by decide +kernel
theorem d_X11_lend_175 : decode cX11_lend 175 = .ok (.iload_n 1, 1) := by decide +kernel
theorem d_X11_lend_176 : decode cX11_lend 176 = .ok (.iaload, 1) := by decide +kernel
theorem d_X11_lend_177 : decode cX11_lend 177 = .ok (.ireturn, 1) := by decide +kernel
theorem s_X11_lend_j52 {G : Gl} (hG : G.1.stackTraces = false) {C : Cx} {n : Nat} {μ : Mem}  {r : ((Nat × Mem) ⊕ (Int32 × Mem))} (hf : f_X11_lend_j52 μ = some r) (hK : FinX G C F_X11_lend (some .int) (Sum.map id (fun q => (some (.int q.1), q.2)) r)) : V G C F_X11_lend 52 [none, none, none, none, none, none] [] (pic G μ) n 2 12 := by
  unfold f_X11_lend_j52 at hf
  cases hf
  exact B_throw (k0 := 1) hK tk_RX11_113_241_117 rfl rfl d_X11_lend_52 d_X11_lend_55 d_X11_lend_56 d_X11_lend_58 d_X11_lend_61 (Nat.le_of_ble_eq_true rfl) (Nat.le_of_ble_eq_true rfl) (Nat.le_of_ble_eq_true rfl)
theorem s_X11_lend_j87 {G : Gl} (hG : G.1.stackTraces = false) {C : Cx} {n : Nat} {μ : Mem}  {r : ((Nat × Mem) ⊕ (Int32 × Mem))} (hf : f_X11_lend_j87 μ = some r) (hK : FinX G C F_X11_lend (some .int) (Sum.map id (fun q => (some (.int q.1), q.2)) r)) : V G C F_X11_lend 87 [none, none, none, none, none, none] [] (pic G μ) n 3 18 := by
  unfold f_X11_lend_j87 at hf
  cases hf
  exact B_throw (k0 := 3) hK tk_RX11_243_245_247 rfl rfl d_X11_lend_87 d_X11_lend_90 d_X11_lend_91 d_X11_lend_93 d_X11_lend_96 (Nat.le_of_ble_eq_true rfl) (Nat.le_of_ble_eq_true rfl) (Nat.le_of_ble_eq_true rfl)
theorem s_X11_lend_e {G : Gl} (hG : G.1.stackTraces = false) {C : Cx} {n : Nat} {μ : Mem} {p1 : Int32} {p2 : Int32} {p3 : Int32} {p4 : Int32} {p5 : Int32} {r : ((Nat × Mem) ⊕ (Int32 × Mem))} (hf : f_X11_lend μ p1 p2 p3 p4 p5 = some r) (hK : FinX G C F_X11_lend (some .int) (Sum.map id (fun q => (some (.int q.1), q.2)) r)) : V G C F_X11_lend 0 [some (.ref (G.2.1 + 0)), some (.int p1), some (.int p2), some (.int p3), some (.int p4), some (.int p5)] [] (pic G μ) n 0 0 := by
  unfold f_X11_lend at hf
  refine V_aload_n d_X11_lend_0 rfl rfl ?_
  refine V_iload_n d_X11_lend_1 rfl rfl ?_
  obtain ⟨q1, hq1, hf⟩ := ob hf
  cases q1 with
  | inl e9 =>
    obtain ⟨k9, μ9⟩ := e9
    refine B_callVXt (kc' := 1) (ks' := 6) (s_X11_needPerson hG hq1) k_0 clX11 m_X11_needPerson kv_RX11_149 d_X11_lend_2 rfl (Nat.le_of_ble_eq_true rfl) ⟨rfl, rfl, Nat.le_of_ble_eq_true rfl, Nat.le_of_ble_eq_true rfl, Nat.le_of_ble_eq_true rfl⟩ (fun n => ?_)
    cases hf
    exact X_out hK rfl (Nat.le_of_ble_eq_true rfl) (Nat.le_of_ble_eq_true rfl)
  | inr v2 =>
    replace hf := elimR hf
    refine B_callVX0 (kc' := 1) (ks' := 6) (s_X11_needPerson hG hq1) k_0 clX11 m_X11_needPerson kv_RX11_149 d_X11_lend_2 rfl (Nat.le_of_ble_eq_true rfl) ⟨rfl, rfl, Nat.le_of_ble_eq_true rfl, Nat.le_of_ble_eq_true rfl, Nat.le_of_ble_eq_true rfl⟩ (fun n => ?_)
    refine V_aload_n d_X11_lend_5 rfl rfl ?_
    refine V_iload_n d_X11_lend_6 rfl rfl ?_
    obtain ⟨q3, hq3, hf⟩ := ob hf
    cases q3 with
    | inl e9 =>
      obtain ⟨k9, μ9⟩ := e9
      refine B_callVXt (kc' := 2) (ks' := 12) (s_X11_needLace hG hq3) k_0 clX11 m_X11_needLace kv_RX11_189 d_X11_lend_7 rfl (Nat.le_of_ble_eq_true rfl) ⟨rfl, rfl, Nat.le_of_ble_eq_true rfl, Nat.le_of_ble_eq_true rfl, Nat.le_of_ble_eq_true rfl⟩ (fun n => ?_)
      cases hf
      exact X_out hK rfl (Nat.le_of_ble_eq_true rfl) (Nat.le_of_ble_eq_true rfl)
    | inr v4 =>
      replace hf := elimR hf
      refine B_callVX0 (kc' := 2) (ks' := 12) (s_X11_needLace hG hq3) k_0 clX11 m_X11_needLace kv_RX11_189 d_X11_lend_7 rfl (Nat.le_of_ble_eq_true rfl) ⟨rfl, rfl, Nat.le_of_ble_eq_true rfl, Nat.le_of_ble_eq_true rfl, Nat.le_of_ble_eq_true rfl⟩ (fun n => ?_)
      refine V_iload_n d_X11_lend_10 rfl rfl ?_
      refine V_iload_n d_X11_lend_11 rfl rfl ?_
      obtain ⟨t5, ht5, hf⟩ := ob hf
      refine B_callS1 (s_X11_ownerOf hG ht5) m_X11_ownerOf ks_RX11_234 d_X11_lend_12 rfl (Nat.le_of_ble_eq_true rfl) ⟨rfl, rfl, Nat.le_of_ble_eq_true rfl, Nat.le_of_ble_eq_true rfl, Nat.le_of_ble_eq_true rfl⟩ (fun n => ?_)
      refine V_icmp_eq (tgt := 52) d_X11_lend_15 (by decide) (fun c15 => ?_) (fun c15 => ?_)
      · replace hf := iteT c15 hf
        refine V_less (ls' := [none, none, none, none, none, none]) trivial ?_
        exact s_X11_lend_j52 hG hf hK
      · replace hf := iteF c15 hf
        refine V_iload_n d_X11_lend_18 rfl rfl ?_
        refine V_iconst (v := 1) d_X11_lend_19 ic_1 ?_
        refine V_sipush (v := 999) d_X11_lend_20 sp_999 ?_
        obtain ⟨t6, ht6, hf⟩ := ob hf
        refine B_callS1 (s_X11_isOutside hG ht6) m_X11_isOutside ks_RX11_237 d_X11_lend_23 rfl (Nat.le_of_ble_eq_true rfl) ⟨rfl, rfl, Nat.le_of_ble_eq_true rfl, Nat.le_of_ble_eq_true rfl, Nat.le_of_ble_eq_true rfl⟩ (fun n => ?_)
        refine V_if_ne (tgt := 52) d_X11_lend_26 (by decide) (fun c26 => ?_) (fun c26 => ?_)
        · replace hf := iteT (b2i_ne0 c26) hf
          refine V_less (ls' := [none, none, none, none, none, none]) trivial ?_
          exact s_X11_lend_j52 hG hf hK
        · replace hf := iteF (b2i_nt (b2i_eq0 c26)) hf
          refine V_iload d_X11_lend_29 rfl ?_
          refine V_iconst (v := 0) d_X11_lend_31 ic_0 ?_
          refine V_bipush (v := 9) d_X11_lend_32 bp_9 ?_
          obtain ⟨t7, ht7, hf⟩ := ob hf
          refine B_callS1 (s_X11_isOutside hG ht7) m_X11_isOutside ks_RX11_237 d_X11_lend_34 rfl (Nat.le_of_ble_eq_true rfl) ⟨rfl, rfl, Nat.le_of_ble_eq_true rfl, Nat.le_of_ble_eq_true rfl, Nat.le_of_ble_eq_true rfl⟩ (fun n => ?_)
          refine V_if_ne (tgt := 52) d_X11_lend_37 (by decide) (fun c37 => ?_) (fun c37 => ?_)
          · replace hf := iteT (b2i_ne0 c37) hf
            refine V_less (ls' := [none, none, none, none, none, none]) trivial ?_
            exact s_X11_lend_j52 hG hf hK
          · replace hf := iteF (b2i_nt (b2i_eq0 c37)) hf
            refine V_iload d_X11_lend_40 rfl ?_
            refine V_iconst (v := 1) d_X11_lend_42 ic_1 ?_
            refine V_sipush (v := 9999) d_X11_lend_43 sp_9999 ?_
            obtain ⟨t8, ht8, hf⟩ := ob hf
            refine B_callS1 (s_X11_isOutside hG ht8) m_X11_isOutside ks_RX11_237 d_X11_lend_46 rfl (Nat.le_of_ble_eq_true rfl) ⟨rfl, rfl, Nat.le_of_ble_eq_true rfl, Nat.le_of_ble_eq_true rfl, Nat.le_of_ble_eq_true rfl⟩ (fun n => ?_)
            refine V_if_eq (tgt := 62) d_X11_lend_49 (by decide) (fun c49 => ?_) (fun c49 => ?_)
            · replace hf := iteF (b2i_nt (b2i_eq0 c49)) hf
              refine V_aload_n d_X11_lend_62 rfl rfl ?_
              refine B_get k_0 fl_RX11_19 d_X11_lend_63 g_11_1 ?_
              refine B_get k_3 fl_RX11_192 d_X11_lend_66 g_2_11 ?_
              refine V_iload_n d_X11_lend_69 rfl rfl ?_
              obtain ⟨t9, ht9, hf⟩ := ob hf
              refine B_iald k_9 ht9 d_X11_lend_70 ?_
              refine V_if_ne (tgt := 87) d_X11_lend_71 (by decide) (fun c71 => ?_) (fun c71 => ?_)
              · replace hf := iteF c71 hf
                refine V_widen (k2 := 3) (s2 := 18) (by decide) (by decide) ?_
                refine V_less (ls' := [none, none, none, none, none, none]) trivial ?_
                exact s_X11_lend_j87 hG hf hK
              · replace hf := iteT c71 hf
                refine V_aload_n d_X11_lend_74 rfl rfl ?_
                refine B_get k_0 fl_RX11_19 d_X11_lend_75 g_11_1 ?_
                refine B_get k_3 fl_RX11_152 d_X11_lend_78 g_2_6 ?_
                refine V_iload_n d_X11_lend_81 rfl rfl ?_
                obtain ⟨t10, ht10, hf⟩ := ob hf
                refine B_iald k_4 ht10 d_X11_lend_82 ?_
                refine V_iload_n d_X11_lend_83 rfl rfl ?_
                refine V_icmp_ge (tgt := 97) d_X11_lend_84 (by decide) (fun c84 => ?_) (fun c84 => ?_)
                · replace hf := iteT c84 hf
                  refine V_aload_n d_X11_lend_97 rfl rfl ?_
                  refine B_get k_0 fl_RX11_63 d_X11_lend_98 g_11_9 ?_
                  refine V_aload_n d_X11_lend_101 rfl rfl ?_
                  refine B_get k_0 fl_RX11_19 d_X11_lend_102 g_11_1 ?_
                  obtain ⟨q11, hq11, hf⟩ := ob hf
                  refine B_callV0 (s_X0_remember hG L_3 hq11) k_74 clX0 m_X0_remember kv_RX11_248 d_X11_lend_105 rfl (Nat.le_of_ble_eq_true rfl) ⟨rfl, rfl, Nat.le_of_ble_eq_true rfl, Nat.le_of_ble_eq_true rfl, Nat.le_of_ble_eq_true rfl⟩ (fun n => ?_)
                  refine V_aload_n d_X11_lend_108 rfl rfl ?_
                  refine B_get k_0 fl_RX11_19 d_X11_lend_109 g_11_1 ?_
                  refine B_get k_3 fl_RX11_152 d_X11_lend_112 g_2_6 ?_
                  refine V_iload_n d_X11_lend_115 rfl rfl ?_
                  refine V_dup2 d_X11_lend_116 rfl rfl ?_
                  obtain ⟨t12, ht12, hf⟩ := ob hf
                  refine B_iald k_4 ht12 d_X11_lend_117 ?_
                  refine V_iload_n d_X11_lend_118 rfl rfl ?_
                  refine V_isub d_X11_lend_119 ?_
                  obtain ⟨μ13, hμ13, hf⟩ := ob hf
                  refine B_iast k_4 hμ13 d_X11_lend_120 ?_
                  refine V_aload_n d_X11_lend_121 rfl rfl ?_
                  refine B_get k_0 fl_RX11_19 d_X11_lend_122 g_11_1 ?_
                  refine V_iload_n d_X11_lend_125 rfl rfl ?_
                  obtain ⟨t14, ht14, hf⟩ := ob hf
                  refine B_callS1 (s_X11_ownerOf hG ht14) m_X11_ownerOf ks_RX11_234 d_X11_lend_126 rfl (Nat.le_of_ble_eq_true rfl) ⟨rfl, rfl, Nat.le_of_ble_eq_true rfl, Nat.le_of_ble_eq_true rfl, Nat.le_of_ble_eq_true rfl⟩ (fun n => ?_)
                  refine V_iload_n d_X11_lend_129 rfl rfl ?_
                  obtain ⟨q15, hq15, hf⟩ := ob hf
                  refine B_callV0 (s_X2_earn hG L_3 hq15) k_3 clX2 m_X2_earn kv_RX11_251 d_X11_lend_130 rfl (Nat.le_of_ble_eq_true rfl) ⟨rfl, rfl, Nat.le_of_ble_eq_true rfl, Nat.le_of_ble_eq_true rfl, Nat.le_of_ble_eq_true rfl⟩ (fun n => ?_)
                  refine V_aload_n d_X11_lend_133 rfl rfl ?_
                  refine B_get k_0 fl_RX11_19 d_X11_lend_134 g_11_1 ?_
                  refine V_iload_n d_X11_lend_137 rfl rfl ?_
                  refine V_iload_n d_X11_lend_138 rfl rfl ?_
                  refine V_iload_n d_X11_lend_139 rfl rfl ?_
                  refine V_iload d_X11_lend_140 rfl ?_
                  refine V_iload d_X11_lend_142 rfl ?_
                  refine V_iconst (v := (-1)) d_X11_lend_144 ic_m1 ?_
                  obtain ⟨q16, hq16, hf⟩ := ob hf
                  refine B_callV0 (s_X2_pledge hG L_3 hq16) k_3 clX2 m_X2_pledge kv_RX11_255 d_X11_lend_145 rfl (Nat.le_of_ble_eq_true rfl) ⟨rfl, rfl, Nat.le_of_ble_eq_true rfl, Nat.le_of_ble_eq_true rfl, Nat.le_of_ble_eq_true rfl⟩ (fun n => ?_)
                  refine V_aload_n d_X11_lend_148 rfl rfl ?_
                  refine B_get k_0 fl_RX11_19 d_X11_lend_149 g_11_1 ?_
                  refine B_get k_3 fl_RX11_259 d_X11_lend_152 g_2_18 ?_
                  refine V_aload_n d_X11_lend_155 rfl rfl ?_
                  refine B_get k_0 fl_RX11_19 d_X11_lend_156 g_11_1 ?_
                  refine B_get k_3 fl_RX11_263 d_X11_lend_159 g_2_2 ?_
                  refine V_iload_n d_X11_lend_162 rfl rfl ?_
                  refine V_iconst (v := 0) d_X11_lend_163 ic_0 ?_
                  refine V_iload_n d_X11_lend_164 rfl rfl ?_
                  obtain ⟨q17, hq17, hf⟩ := ob hf
                  refine B_callV0 (s_X1_add hG B_16 hq17) k_16 clX1 m_X1_add kv_RX11_266 d_X11_lend_165 rfl (Nat.le_of_ble_eq_true rfl) ⟨rfl, rfl, Nat.le_of_ble_eq_true rfl, Nat.le_of_ble_eq_true rfl, Nat.le_of_ble_eq_true rfl⟩ (fun n => ?_)
                  refine V_aload_n d_X11_lend_168 rfl rfl ?_
                  refine B_get k_0 fl_RX11_19 d_X11_lend_169 g_11_1 ?_
                  refine B_get k_3 fl_RX11_152 d_X11_lend_172 g_2_6 ?_
                  refine V_iload_n d_X11_lend_175 rfl rfl ?_
                  obtain ⟨t18, ht18, hf⟩ := ob hf
                  refine B_iald k_4 ht18 d_X11_lend_176 ?_
                  cases hf
                  exact R_iX hK d_X11_lend_177 (Nat.le_of_ble_eq_true rfl) (Nat.le_of_ble_eq_true rfl)
                · replace hf := iteF c84 hf
                  refine V_widen (k2 := 3) (s2 := 18) (by decide) (by decide) ?_
                  refine V_less (ls' := [none, none, none, none, none, none]) trivial ?_
                  exact s_X11_lend_j87 hG hf hK
            · replace hf := iteT (b2i_ne0 c49) hf
              refine V_less (ls' := [none, none, none, none, none, none]) trivial ?_
              exact s_X11_lend_j52 hG hf hK
theorem s_X11_lend {G : Gl} (hG : G.1.stackTraces = false) {μ : Mem} {p1 : Int32} {p2 : Int32} {p3 : Int32} {p4 : Int32} {p5 : Int32} {r : ((Nat × Mem) ⊕ (Int32 × Mem))} (hf : f_X11_lend μ p1 p2 p3 p4 p5 = some r) : Rx G yX11_lend F_X11_lend (.code yX11_lend F_X11_lend.2.1 F_X11_lend.2.2.1 (some .int)) [.ref (G.2.1 + 0), .int p1, .int p2, .int p3, .int p4, .int p5] μ (Sum.map id (fun q => (some (.int q.1), q.2)) r) := fun n => Sd.of hG ⟨by decide +kernel, rfl, rfl⟩ rfl (Nat.le_of_ble_eq_true rfl) rfl (fun C hK => s_X11_lend_e hG hf hK)
theorem d_X11_pay_0 : decode cX11_pay 0 = .ok (.aload_n 0, 1) := by decide +kernel
theorem d_X11_pay_1 : decode cX11_pay 1 = .ok (.iload_n 1, 1) := by decide +kernel
theorem d_X11_pay_2 : decode cX11_pay 2 = .ok (.invokevirtual 189, 3) := by decide +kernel
theorem d_X11_pay_5 : decode cX11_pay 5 = .ok (.iload_n 1, 1) := by decide +kernel
theorem d_X11_pay_6 : decode cX11_pay 6 = .ok (.invokestatic 234, 3) := by decide +kernel
theorem d_X11_pay_9 : decode cX11_pay 9 = .ok (.istore_n 2, 1) := by decide +kernel
theorem d_X11_pay_10 : decode cX11_pay 10 = .ok (.aload_n 0, 1) := by decide +kernel
theorem d_X11_pay_11 : decode cX11_pay 11 = .ok (.getfield 19, 3) := by decide +kernel
theorem d_X11_pay_14 : decode cX11_pay 14 = .ok (.iload_n 1, 1) := by decide +kernel
theorem d_X11_pay_15 : decode cX11_pay 15 = .ok (.invokevirtual 227, 3) := by decide +kernel
theorem d_X11_pay_18 : decode cX11_pay 18 = .ok (.ifCond .eq 24, 3) := by decide +kernel
theorem d_X11_pay_21 : decode cX11_pay 21 = .ok (.aload_n 0, 1) := by decide +kernel
theorem d_X11_pay_22 : decode cX11_pay 22 = .ok (.getfield 19, 3) := by decide +kernel
theorem d_X11_pay_25 : decode cX11_pay 25 = .ok (.getfield 152, 3) := by decide +kernel
theorem d_X11_pay_28 : decode cX11_pay 28 = .ok (.iload_n 2, 1) := by decide +kernel
theorem d_X11_pay_29 : decode cX11_pay 29 = .ok (.iaload, 1) := by decide +kernel
theorem d_X11_pay_30 : decode cX11_pay 30 = .ok (.aload_n 0, 1) := by decide +kernel
theorem d_X11_pay_31 : decode cX11_pay 31 = .ok (.getfield 19, 3) := by decide +kernel
theorem d_X11_pay_34 : decode cX11_pay 34 = .ok (.getfield 198, 3) := by decide +kernel
theorem d_X11_pay_37 : decode cX11_pay 37 = .ok (.iload_n 1, 1) := by decide +kernel
theorem d_X11_pay_38 : decode cX11_pay 38 = .ok (.iaload, 1) := by decide +kernel
theorem d_X11_pay_39 : decode cX11_pay 39 = .ok (.if_icmp .ge 14, 3) := by decide +kernel
theorem d_X11_pay_42 : decode cX11_pay 42 = .ok (.new 243, 3) := by decide +kernel
theorem d_X11_pay_45 : decode cX11_pay 45 = .ok (.dup, 1) := by decide +kernel
theorem d_X11_pay_46 : decode cX11_pay 46 = .ok (.ldc_w 271, 3) := by decide +kernel
theorem d_X11_pay_49 : decode cX11_pay 49 = .ok (.invokespecial 247, 3) := by decide +kernel
theorem d_X11_pay_52 : decode cX11_pay 52 = .ok (.athrow, 1) := by decide +kernel
theorem d_X11_pay_53 : decode cX11_pay 53 = .ok (.aload_n 0, 1) := by decide +kernel
theorem d_X11_pay_54 : decode cX11_pay 54 = .ok (.getfield 63, 3) := by decide +kernel
theorem d_X11_pay_57 : decode cX11_pay 57 = .ok (.aload_n 0, 1) := by decide +kernel
theorem d_X11_pay_58 : decode cX11_pay 58 = .ok (.getfield 19, 3) := by decide +kernel
theorem d_X11_pay_61 : decode cX11_pay 61 = .ok (.invokevirtual 248, 3) := by decide +kernel
theorem d_X11_pay_64 : decode cX11_pay 64 = .ok (.aload_n 0, 1) := by decide +kernel
theorem d_X11_pay_65 : decode cX11_pay 65 = .ok (.getfield 19, 3) := by decide +kernel
theorem d_X11_pay_68 : decode cX11_pay 68 = .ok (.getfield 198, 3) := by decide +kernel
theorem d_X11_pay_71 : decode cX11_pay 71 = .ok (.iload_n 1, 1) := by decide +kernel
theorem d_X11_pay_72 : decode cX11_pay 72 = .ok (.iaload, 1) := by decide +kernel
theorem d_X11_pay_73 : decode cX11_pay 73 = .ok (.istore_n 3, 1) := by decide +kernel
theorem d_X11_pay_74 : decode cX11_pay 74 = .ok (.aload_n 0, 1) := by decide +kernel
theorem d_X11_pay_75 : decode cX11_pay 75 = .ok (.getfield 19, 3) := by decide +kernel
theorem d_X11_pay_78 : decode cX11_pay 78 = .ok (.iload_n 1, 1) := by decide +kernel
theorem d_X11_pay_79 : decode cX11_pay 79 = .ok (.iload_n 2, 1) := by decide +kernel
theorem d_X11_pay_80 : decode cX11_pay 80 = .ok (.invokevirtual 273, 3) := by decide +kernel
theorem d_X11_pay_83 : decode cX11_pay 83 = .ok (.iload_n 3, 1) := by decide +kernel
theorem d_X11_pay_84 : decode cX11_pay 84 = .ok (.ireturn, 1) := by decide +kernel
theorem s_X11_pay_j42 {G : Gl} (hG : G.1.stackTraces = false) {C : Cx} {n : Nat} {μ : Mem}  {r : ((Nat × Mem) ⊕ (Int32 × Mem))} (hf : f_X11_pay_j42 μ = some r) (hK : FinX G C F_X11_pay (some .int) (Sum.map id (fun q => (some (.int q.1), q.2)) r)) : V G C F_X11_pay 42 [none, none, none, none] [] (pic G μ) n 1 6 := by
  unfold f_X11_pay_j42 at hf
  cases hf
  exact B_throwW (k0 := 3) hK tk_RX11_243_271_247 rfl rfl d_X11_pay_42 d_X11_pay_45 d_X11_pay_46 d_X11_pay_49 d_X11_pay_52 (Nat.le_of_ble_eq_true rfl) (Nat.le_of_ble_eq_true rfl) (Nat.le_of_ble_eq_true rfl)
theorem s_X11_pay_e {G : Gl} (hG : G.1.stackTraces = false) {C : Cx} {n : Nat} {μ : Mem} {p1 : Int32} {r : ((Nat × Mem) ⊕ (Int32 × Mem))} (hf : f_X11_pay μ p1 = some r) (hK : FinX G C F_X11_pay (some .int) (Sum.map id (fun q => (some (.int q.1), q.2)) r)) : V G C F_X11_pay 0 [some (.ref (G.2.1 + 0)), some (.int p1), none, none] [] (pic G μ) n 0 0 := by
  unfold f_X11_pay at hf
  refine V_aload_n d_X11_pay_0 rfl rfl ?_
  refine V_iload_n d_X11_pay_1 rfl rfl ?_
  obtain ⟨q1, hq1, hf⟩ := ob hf
  cases q1 with
  | inl e9 =>
    obtain ⟨k9, μ9⟩ := e9
    refine B_callVXt (kc' := 1) (ks' := 6) (s_X11_needLace hG hq1) k_0 clX11 m_X11_needLace kv_RX11_189 d_X11_pay_2 rfl (Nat.le_of_ble_eq_true rfl) ⟨rfl, rfl, Nat.le_of_ble_eq_true rfl, Nat.le_of_ble_eq_true rfl, Nat.le_of_ble_eq_true rfl⟩ (fun n => ?_)
    cases hf
    exact X_out hK rfl (Nat.le_of_ble_eq_true rfl) (Nat.le_of_ble_eq_true rfl)
  | inr v2 =>
    replace hf := elimR hf
    refine B_callVX0 (kc' := 1) (ks' := 6) (s_X11_needLace hG hq1) k_0 clX11 m_X11_needLace kv_RX11_189 d_X11_pay_2 rfl (Nat.le_of_ble_eq_true rfl) ⟨rfl, rfl, Nat.le_of_ble_eq_true rfl, Nat.le_of_ble_eq_true rfl, Nat.le_of_ble_eq_true rfl⟩ (fun n => ?_)
    refine V_iload_n d_X11_pay_5 rfl rfl ?_
    obtain ⟨t3, ht3, hf⟩ := ob hf
    refine B_callS1 (s_X11_ownerOf hG ht3) m_X11_ownerOf ks_RX11_234 d_X11_pay_6 rfl (Nat.le_of_ble_eq_true rfl) ⟨rfl, rfl, Nat.le_of_ble_eq_true rfl, Nat.le_of_ble_eq_true rfl, Nat.le_of_ble_eq_true rfl⟩ (fun n => ?_)
    refine V_istore_n (ls' := [_, _, _, _]) d_X11_pay_9 rfl rfl rfl ?_
    refine V_aload_n d_X11_pay_10 rfl rfl ?_
    refine B_get k_0 fl_RX11_19 d_X11_pay_11 g_11_1 ?_
    refine V_iload_n d_X11_pay_14 rfl rfl ?_
    obtain ⟨t4, ht4, hf⟩ := ob hf
    refine B_callV1 (s_X2_isPledged hG L_3 ht4) k_3 clX2 m_X2_isPledged kv_RX11_227 d_X11_pay_15 rfl (Nat.le_of_ble_eq_true rfl) ⟨rfl, rfl, Nat.le_of_ble_eq_true rfl, Nat.le_of_ble_eq_true rfl, Nat.le_of_ble_eq_true rfl⟩ (fun n => ?_)
    refine V_if_eq (tgt := 42) d_X11_pay_18 (by decide) (fun c18 => ?_) (fun c18 => ?_)
    · replace hf := iteF (b2i_nt (b2i_eq0 c18)) hf
      refine V_less (ls' := [none, none, none, none]) trivial ?_
      exact s_X11_pay_j42 hG hf hK
    · replace hf := iteT (b2i_ne0 c18) hf
      refine V_aload_n d_X11_pay_21 rfl rfl ?_
      refine B_get k_0 fl_RX11_19 d_X11_pay_22 g_11_1 ?_
      refine B_get k_3 fl_RX11_152 d_X11_pay_25 g_2_6 ?_
      refine V_iload_n d_X11_pay_28 rfl rfl ?_
      obtain ⟨t5, ht5, hf⟩ := ob hf
      refine B_iald k_4 ht5 d_X11_pay_29 ?_
      refine V_aload_n d_X11_pay_30 rfl rfl ?_
      refine B_get k_0 fl_RX11_19 d_X11_pay_31 g_11_1 ?_
      refine B_get k_3 fl_RX11_198 d_X11_pay_34 g_2_13 ?_
      refine V_iload_n d_X11_pay_37 rfl rfl ?_
      obtain ⟨t6, ht6, hf⟩ := ob hf
      refine B_iald k_11 ht6 d_X11_pay_38 ?_
      refine V_icmp_ge (tgt := 53) d_X11_pay_39 (by decide) (fun c39 => ?_) (fun c39 => ?_)
      · replace hf := iteT c39 hf
        refine V_aload_n d_X11_pay_53 rfl rfl ?_
        refine B_get k_0 fl_RX11_63 d_X11_pay_54 g_11_9 ?_
        refine V_aload_n d_X11_pay_57 rfl rfl ?_
        refine B_get k_0 fl_RX11_19 d_X11_pay_58 g_11_1 ?_
        obtain ⟨q7, hq7, hf⟩ := ob hf
        refine B_callV0 (s_X0_remember hG L_3 hq7) k_74 clX0 m_X0_remember kv_RX11_248 d_X11_pay_61 rfl (Nat.le_of_ble_eq_true rfl) ⟨rfl, rfl, Nat.le_of_ble_eq_true rfl, Nat.le_of_ble_eq_true rfl, Nat.le_of_ble_eq_true rfl⟩ (fun n => ?_)
        refine V_aload_n d_X11_pay_64 rfl rfl ?_
        refine B_get k_0 fl_RX11_19 d_X11_pay_65 g_11_1 ?_
        refine B_get k_3 fl_RX11_198 d_X11_pay_68 g_2_13 ?_
        refine V_iload_n d_X11_pay_71 rfl rfl ?_
        obtain ⟨t8, ht8, hf⟩ := ob hf
        refine B_iald k_11 ht8 d_X11_pay_72 ?_
        refine V_istore_n (ls' := [_, _, _, _]) d_X11_pay_73 rfl rfl rfl ?_
        refine V_aload_n d_X11_pay_74 rfl rfl ?_
        refine B_get k_0 fl_RX11_19 d_X11_pay_75 g_11_1 ?_
        refine V_iload_n d_X11_pay_78 rfl rfl ?_
        refine V_iload_n d_X11_pay_79 rfl rfl ?_
        obtain ⟨q9, hq9, hf⟩ := ob hf
        refine B_callV0 (s_X2_payOff hG L_3 hq9) k_3 clX2 m_X2_payOff kv_RX11_273 d_X11_pay_80 rfl (Nat.le_of_ble_eq_true rfl) ⟨rfl, rfl, Nat.le_of_ble_eq_true rfl, Nat.le_of_ble_eq_true rfl, Nat.le_of_ble_eq_true rfl⟩ (fun n => ?_)
        refine V_iload_n d_X11_pay_83 rfl rfl ?_
        cases hf
        exact R_iX hK d_X11_pay_84 (Nat.le_of_ble_eq_true rfl) (Nat.le_of_ble_eq_true rfl)
      · replace hf := iteF c39 hf
        refine V_less (ls' := [none, none, none, none]) trivial ?_
        exact s_X11_pay_j42 hG hf hK
theorem s_X11_pay {G : Gl} (hG : G.1.stackTraces = false) {μ : Mem} {p1 : Int32} {r : ((Nat × Mem) ⊕ (Int32 × Mem))} (hf : f_X11_pay μ p1 = some r) : Rx G yX11_pay F_X11_pay (.code yX11_pay F_X11_pay.2.1 F_X11_pay.2.2.1 (some .int)) [.ref (G.2.1 + 0), .int p1] μ (Sum.map id (fun q => (some (.int q.1), q.2)) r) := fun n => Sd.of hG ⟨by decide +kernel, rfl, rfl⟩ rfl (Nat.le_of_ble_eq_true rfl) rfl (fun C hK => s_X11_pay_e hG hf hK)
theorem d_X11_needPledged_0 : decode cX11_needPledged 0 = .ok (.aload_n 0, 1) := by decide +kernel
theorem d_X11_needPledged_1 : decode cX11_needPledged 1 = .ok (.getfield 19, 3) := by decide +kernel
theorem d_X11_needPledged_4 : decode cX11_needPledged 4 = .ok (.iload_n 1, 1) := by decide +kernel
theorem d_X11_needPledged_5 : decode cX11_needPledged 5 = .ok (.invokevirtual 227, 3) := by decide +kernel
theorem d_X11_needPledged_8 : decode cX11_needPledged 8 = .ok (.ifCond .ne 14, 3) := by decide +kernel
theorem d_X11_needPledged_11 : decode cX11_needPledged 11 = .ok (.new 243, 3) := by decide +kernel
theorem d_X11_needPledged_14 : decode cX11_needPledged 14 = .ok (.dup, 1) := by decide +kernel
theorem d_X11_needPledged_15 : decode cX11_needPledged 15 = .ok (.ldc_w 439, 3) := by decide +kernel
theorem d_X11_needPledged_18 : decode cX11_needPledged 18 = .ok (.invokespecial 247, 3) := by decide +kernel
theorem d_X11_needPledged_21 : decode cX11_needPledged 21 = .ok (.athrow, 1) := by decide +kernel
theorem d_X11_needPledged_22 : decode cX11_needPledged 22 = .ok (.return_, 1) := by decide +kernel
theorem s_X11_needPledged_e {G : Gl} (hG : G.1.stackTraces = false) {C : Cx} {n : Nat} {μ : Mem} {p1 : Int32} {r : ((Nat × Mem) ⊕ Mem)} (hf : f_X11_needPledged μ p1 = some r) (hK : FinX G C F_X11_needPledged none (Sum.map id (fun q => (none, q)) r)) : V G C F_X11_needPledged 0 [some (.ref (G.2.1 + 0)), some (.int p1)] [] (pic G μ) n 0 0 := by
  unfold f_X11_needPledged at hf
  refine V_aload_n d_X11_needPledged_0 rfl rfl ?_
  refine B_get k_0 fl_RX11_19 d_X11_needPledged_1 g_11_1 ?_
  refine V_iload_n d_X11_needPledged_4 rfl rfl ?_
  obtain ⟨t1, ht1, hf⟩ := ob hf
  refine B_callV1 (s_X2_isPledged hG L_3 ht1) k_3 clX2 m_X2_isPledged kv_RX11_227 d_X11_needPledged_5 rfl (Nat.le_of_ble_eq_true rfl) ⟨rfl, rfl, Nat.le_of_ble_eq_true rfl, Nat.le_of_ble_eq_true rfl, Nat.le_of_ble_eq_true rfl⟩ (fun n => ?_)
  refine V_if_ne (tgt := 22) d_X11_needPledged_8 (by decide) (fun c8 => ?_) (fun c8 => ?_)
  · replace hf := iteT (b2i_ne0 c8) hf
    cases hf
    exact R_vX hK d_X11_needPledged_22 (Nat.le_of_ble_eq_true rfl) (Nat.le_of_ble_eq_true rfl)
  · replace hf := iteF (b2i_nt (b2i_eq0 c8)) hf
    cases hf
    exact B_throwW (k0 := 3) hK tk_RX11_243_439_247 rfl rfl d_X11_needPledged_11 d_X11_needPledged_14 d_X11_needPledged_15 d_X11_needPledged_18 d_X11_needPledged_21 (Nat.le_of_ble_eq_true rfl) (Nat.le_of_ble_eq_true rfl) (Nat.le_of_ble_eq_true rfl)
theorem s_X11_needPledged {G : Gl} (hG : G.1.stackTraces = false) {μ : Mem} {p1 : Int32} {r : ((Nat × Mem) ⊕ Mem)} (hf : f_X11_needPledged μ p1 = some r) : Rx G yX11_needPledged F_X11_needPledged (.code yX11_needPledged F_X11_needPledged.2.1 F_X11_needPledged.2.2.1 none) [.ref (G.2.1 + 0), .int p1] μ (Sum.map id (fun q => (none, q)) r) := fun n => Sd.of hG ⟨by decide +kernel, rfl, rfl⟩ rfl (Nat.le_of_ble_eq_true rfl) rfl (fun C hK => s_X11_needPledged_e hG hf hK)
theorem d_X11_surety_0 : decode cX11_surety 0 = .ok (.aload_n 0, 1) := by decide +kernel
theorem d_X11_surety_1 : decode cX11_surety 1 = .ok (.iload_n 1, 1) := by decide +kernel
theorem d_X11_surety_2 : decode cX11_surety 2 = .ok (.invokevirtual 189, 3) := by decide +kernel
theorem d_X11_surety_5 : decode cX11_surety 5 = .ok (.iload_n 2, 1) := by decide +kernel
theorem d_X11_surety_6 : decode cX11_surety 6 = .ok (.iconst (-1), 1) := by decide +kernel
theorem d_X11_surety_7 : decode cX11_surety 7 = .ok (.if_icmp .eq 40, 3) := by decide +kernel
theorem d_X11_surety_10 : decode cX11_surety 10 = .ok (.aload_n 0, 1) := by decide +kernel
theorem d_X11_surety_11 : decode cX11_surety 11 = .ok (.iload_n 2, 1) := by decide +kernel
theorem d_X11_surety_12 : decode cX11_surety 12 = .ok (.invokevirtual 149, 3) := by decide +kernel
theorem d_X11_surety_15 : decode cX11_surety 15 = .ok (.iload_n 2, 1) := by decide +kernel
theorem d_X11_surety_16 : decode cX11_surety 16 = .ok (.iload_n 1, 1) := by decide +kernel
theorem d_X11_surety_17 : decode cX11_surety 17 = .ok (.invokestatic 234, 3) := by decide +kernel
theorem d_X11_surety_20 : decode cX11_surety 20 = .ok (.if_icmp .eq 16, 3) := by decide +kernel
theorem d_X11_surety_23 : decode cX11_surety 23 = .ok (.iload_n 2, 1) := by decide +kernel
theorem d_X11_surety_24 : decode cX11_surety 24 = .ok (.aload_n 0, 1) := by decide +kernel
theorem d_X11_surety_25 : decode cX11_surety 25 = .ok (.getfield 19, 3) := by decide +kernel
theorem d_X11_surety_28 : decode cX11_surety 28 = .ok (.getfield 195, 3) := by decide +kernel
theorem d_X11_surety_31 : decode cX11_surety 31 = .ok (.iload_n 1, 1) := by decide +kernel
theorem d_X11_surety_32 : decode cX11_surety 32 = .ok (.iaload, 1) := by decide +kernel
theorem d_X11_surety_33 : decode cX11_surety 33 = .ok (.if_icmp .ne 14, 3) := by decide +kernel
theorem d_X11_surety_36 : decode cX11_surety 36 = .ok (.new 113, 3) := by decide +kernel
theorem d_X11_surety_39 : decode cX11_surety 39 = .ok (.dup, 1) := by decide +kernel
theorem d_X11_surety_40 : decode cX11_surety 40 = .ok (.ldc_w 276, 3) := by decide +kernel
theorem d_X11_surety_43 : decode cX11_surety 43 = .ok (.invokespecial 117, 3) := by decide +kernel
theorem d_X11_surety_46 : decode cX11_surety 46 = .ok (.athrow, 1) := by decide +kernel
theorem d_X11_surety_47 : decode cX11_surety 47 = .ok (.aload_n 0, 1) := by decide +kernel
theorem d_X11_surety_48 : decode cX11_surety 48 = .ok (.iload_n 1, 1) := by decide +kernel
theorem d_X11_surety_49 : decode cX11_surety 49 = .ok (.invokevirtual 278, 3) := by decide +kernel
theorem d_X11_surety_52 : decode cX11_surety 52 = .ok (.aload_n 0, 1) := by decide +kernel
theorem d_X11_surety_53 : decode cX11_surety 53 = .ok (.getfield 63, 3) := by decide +kernel
theorem d_X11_surety_56 : decode cX11_surety 56 = .ok (.aload_n 0, 1) := by decide +kernel
theorem d_X11_surety_57 : decode cX11_surety 57 = .ok (.getfield 19, 3) := by decide +kernel
theorem d_X11_surety_60 : decode cX11_surety 60 = .ok (.invokevirtual 248, 3) := by decide +kernel
theorem d_X11_surety_63 : decode cX11_surety 63 = .ok (.aload_n 0, 1) := by decide +kernel
theorem d_X11_surety_64 : decode cX11_surety 64 = .ok (.getfield 19, 3) := by decide +kernel
theorem d_X11_surety_67 : decode cX11_surety 67 = .ok (.getfield 207, 3) := by decide +kernel
theorem d_X11_surety_70 : decode cX11_surety 70 = .ok (.iload_n 1, 1) := by decide +kernel
theorem d_X11_surety_71 : decode cX11_surety 71 = .ok (.iaload, 1) := by decide +kernel
theorem d_X11_surety_72 : decode cX11_surety 72 = .ok (.istore_n 3, 1) := by decide +kernel
theorem d_X11_surety_73 : decode cX11_surety 73 = .ok (.aload_n 0, 1) := by decide +kernel
theorem d_X11_surety_74 : decode cX11_surety 74 = .ok (.getfield 19, 3) := by decide +kernel
theorem d_X11_surety_77 : decode cX11_surety 77 = .ok (.getfield 207, 3) := by decide +kernel
theorem d_X11_surety_80 : decode cX11_surety 80 = .ok (.iload_n 1, 1) := by decide +kernel
theorem d_X11_surety_81 : decode cX11_surety 81 = .ok (.iload_n 2, 1) := by decide +kernel
theorem d_X11_surety_82 : decode cX11_surety 82 = .ok (.iastore, 1) := by decide +kernel
theorem d_X11_surety_83 : decode cX11_surety 83 = .ok (.iload_n 3, 1) := by decide +kernel
theorem d_X11_surety_84 : decode cX11_surety 84 = .ok (.ireturn, 1) := by decide +kernel
theorem s_X11_surety_j47 {G : Gl} (hG : G.1.stackTraces = false) {C : Cx} {n : Nat} {μ : Mem} {l1 : Int32} {l2 : Int32} {r : ((Nat × Mem) ⊕ (Int32 × Mem))} (hf : f_X11_surety_j47 μ l1 l2 = some r) (hK : FinX G C F_X11_surety (some .int) (Sum.map id (fun q => (some (.int q.1), q.2)) r)) : V G C F_X11_surety 47 [some (.ref (G.2.1 + 0)), some (.int l1), some (.int l2), none] [] (pic G μ) n 3 18 := by
  unfold f_X11_surety_j47 at hf
  refine V_aload_n d_X11_surety_47 rfl rfl ?_
  refine V_iload_n d_X11_surety_48 rfl rfl ?_
  obtain ⟨q1, hq1, hf⟩ := ob hf
  cases q1 with
  | inl e9 =>
    obtain ⟨k9, μ9⟩ := e9
    refine B_callVXt (kc' := 4) (ks' := 24) (s_X11_needPledged hG hq1) k_0 clX11 m_X11_needPledged kv_RX11_278 d_X11_surety_49 rfl (Nat.le_of_ble_eq_true rfl) ⟨rfl, rfl, Nat.le_of_ble_eq_true rfl, Nat.le_of_ble_eq_true rfl, Nat.le_of_ble_eq_true rfl⟩ (fun n => ?_)
    cases hf
    exact X_out hK rfl (Nat.le_of_ble_eq_true rfl) (Nat.le_of_ble_eq_true rfl)
  | inr v2 =>
    replace hf := elimR hf
    refine B_callVX0 (kc' := 4) (ks' := 24) (s_X11_needPledged hG hq1) k_0 clX11 m_X11_needPledged kv_RX11_278 d_X11_surety_49 rfl (Nat.le_of_ble_eq_true rfl) ⟨rfl, rfl, Nat.le_of_ble_eq_true rfl, Nat.le_of_ble_eq_true rfl, Nat.le_of_ble_eq_true rfl⟩ (fun n => ?_)
    refine V_aload_n d_X11_surety_52 rfl rfl ?_
    refine B_get k_0 fl_RX11_63 d_X11_surety_53 g_11_9 ?_
    refine V_aload_n d_X11_surety_56 rfl rfl ?_
    refine B_get k_0 fl_RX11_19 d_X11_surety_57 g_11_1 ?_
    obtain ⟨q3, hq3, hf⟩ := ob hf
    refine B_callV0 (s_X0_remember hG L_3 hq3) k_74 clX0 m_X0_remember kv_RX11_248 d_X11_surety_60 rfl (Nat.le_of_ble_eq_true rfl) ⟨rfl, rfl, Nat.le_of_ble_eq_true rfl, Nat.le_of_ble_eq_true rfl, Nat.le_of_ble_eq_true rfl⟩ (fun n => ?_)
    refine V_aload_n d_X11_surety_63 rfl rfl ?_
    refine B_get k_0 fl_RX11_19 d_X11_surety_64 g_11_1 ?_
    refine B_get k_3 fl_RX11_207 d_X11_surety_67 g_2_16 ?_
    refine V_iload_n d_X11_surety_70 rfl rfl ?_
    obtain ⟨t4, ht4, hf⟩ := ob hf
    refine B_iald k_14 ht4 d_X11_surety_71 ?_
    refine V_istore_n (ls' := [_, _, _, _]) d_X11_surety_72 rfl rfl rfl ?_
    refine V_aload_n d_X11_surety_73 rfl rfl ?_
    refine B_get k_0 fl_RX11_19 d_X11_surety_74 g_11_1 ?_
    refine B_get k_3 fl_RX11_207 d_X11_surety_77 g_2_16 ?_
    refine V_iload_n d_X11_surety_80 rfl rfl ?_
    refine V_iload_n d_X11_surety_81 rfl rfl ?_
    obtain ⟨μ5, hμ5, hf⟩ := ob hf
    refine B_iast k_14 hμ5 d_X11_surety_82 ?_
    refine V_iload_n d_X11_surety_83 rfl rfl ?_
    cases hf
    exact R_iX hK d_X11_surety_84 (Nat.le_of_ble_eq_true rfl) (Nat.le_of_ble_eq_true rfl)
theorem s_X11_surety_j36 {G : Gl} (hG : G.1.stackTraces = false) {C : Cx} {n : Nat} {μ : Mem}  {r : ((Nat × Mem) ⊕ (Int32 × Mem))} (hf : f_X11_surety_j36 μ = some r) (hK : FinX G C F_X11_surety (some .int) (Sum.map id (fun q => (some (.int q.1), q.2)) r)) : V G C F_X11_surety 36 [none, none, none, none] [] (pic G μ) n 2 12 := by
  unfold f_X11_surety_j36 at hf
  cases hf
  exact B_throwW (k0 := 1) hK tk_RX11_113_276_117 rfl rfl d_X11_surety_36 d_X11_surety_39 d_X11_surety_40 d_X11_surety_43 d_X11_surety_46 (Nat.le_of_ble_eq_true rfl) (Nat.le_of_ble_eq_true rfl) (Nat.le_of_ble_eq_true rfl)
theorem s_X11_surety_e {G : Gl} (hG : G.1.stackTraces = false) {C : Cx} {n : Nat} {μ : Mem} {p1 : Int32} {p2 : Int32} {r : ((Nat × Mem) ⊕ (Int32 × Mem))} (hf : f_X11_surety μ p1 p2 = some r) (hK : FinX G C F_X11_surety (some .int) (Sum.map id (fun q => (some (.int q.1), q.2)) r)) : V G C F_X11_surety 0 [some (.ref (G.2.1 + 0)), some (.int p1), some (.int p2), none] [] (pic G μ) n 0 0 := by
  unfold f_X11_surety at hf
  refine V_aload_n d_X11_surety_0 rfl rfl ?_
  refine V_iload_n d_X11_surety_1 rfl rfl ?_
  obtain ⟨q1, hq1, hf⟩ := ob hf
  cases q1 with
  | inl e9 =>
    obtain ⟨k9, μ9⟩ := e9
    refine B_callVXt (kc' := 1) (ks' := 6) (s_X11_needLace hG hq1) k_0 clX11 m_X11_needLace kv_RX11_189 d_X11_surety_2 rfl (Nat.le_of_ble_eq_true rfl) ⟨rfl, rfl, Nat.le_of_ble_eq_true rfl, Nat.le_of_ble_eq_true rfl, Nat.le_of_ble_eq_true rfl⟩ (fun n => ?_)
    cases hf
    exact X_out hK rfl (Nat.le_of_ble_eq_true rfl) (Nat.le_of_ble_eq_true rfl)
  | inr v2 =>
    replace hf := elimR hf
    refine B_callVX0 (kc' := 1) (ks' := 6) (s_X11_needLace hG hq1) k_0 clX11 m_X11_needLace kv_RX11_189 d_X11_surety_2 rfl (Nat.le_of_ble_eq_true rfl) ⟨rfl, rfl, Nat.le_of_ble_eq_true rfl, Nat.le_of_ble_eq_true rfl, Nat.le_of_ble_eq_true rfl⟩ (fun n => ?_)
    refine V_iload_n d_X11_surety_5 rfl rfl ?_
    refine V_iconst (v := (-1)) d_X11_surety_6 ic_m1 ?_
    refine V_icmp_eq (tgt := 47) d_X11_surety_7 (by decide) (fun c7 => ?_) (fun c7 => ?_)
    · replace hf := iteT c7 hf
      refine V_widen (k2 := 3) (s2 := 18) (by decide) (by decide) ?_
      refine V_less (ls' := [some _, some _, some _, none]) ⟨rfl, rfl, rfl, trivial⟩ ?_
      exact s_X11_surety_j47 hG hf hK
    · replace hf := iteF c7 hf
      refine V_aload_n d_X11_surety_10 rfl rfl ?_
      refine V_iload_n d_X11_surety_11 rfl rfl ?_
      obtain ⟨q3, hq3, hf⟩ := ob hf
      cases q3 with
      | inl e9 =>
        obtain ⟨k9, μ9⟩ := e9
        refine B_callVXt (kc' := 2) (ks' := 12) (s_X11_needPerson hG hq3) k_0 clX11 m_X11_needPerson kv_RX11_149 d_X11_surety_12 rfl (Nat.le_of_ble_eq_true rfl) ⟨rfl, rfl, Nat.le_of_ble_eq_true rfl, Nat.le_of_ble_eq_true rfl, Nat.le_of_ble_eq_true rfl⟩ (fun n => ?_)
        cases hf
        exact X_out hK rfl (Nat.le_of_ble_eq_true rfl) (Nat.le_of_ble_eq_true rfl)
      | inr v4 =>
        replace hf := elimR hf
        refine B_callVX0 (kc' := 2) (ks' := 12) (s_X11_needPerson hG hq3) k_0 clX11 m_X11_needPerson kv_RX11_149 d_X11_surety_12 rfl (Nat.le_of_ble_eq_true rfl) ⟨rfl, rfl, Nat.le_of_ble_eq_true rfl, Nat.le_of_ble_eq_true rfl, Nat.le_of_ble_eq_true rfl⟩ (fun n => ?_)
        refine V_iload_n d_X11_surety_15 rfl rfl ?_
        refine V_iload_n d_X11_surety_16 rfl rfl ?_
        obtain ⟨t5, ht5, hf⟩ := ob hf
        refine B_callS1 (s_X11_ownerOf hG ht5) m_X11_ownerOf ks_RX11_234 d_X11_surety_17 rfl (Nat.le_of_ble_eq_true rfl) ⟨rfl, rfl, Nat.le_of_ble_eq_true rfl, Nat.le_of_ble_eq_true rfl, Nat.le_of_ble_eq_true rfl⟩ (fun n => ?_)
        refine V_icmp_eq (tgt := 36) d_X11_surety_20 (by decide) (fun c20 => ?_) (fun c20 => ?_)
        · replace hf := iteT c20 hf
          refine V_less (ls' := [none, none, none, none]) trivial ?_
          exact s_X11_surety_j36 hG hf hK
        · replace hf := iteF c20 hf
          refine V_iload_n d_X11_surety_23 rfl rfl ?_
          refine V_aload_n d_X11_surety_24 rfl rfl ?_
          refine B_get k_0 fl_RX11_19 d_X11_surety_25 g_11_1 ?_
          refine B_get k_3 fl_RX11_195 d_X11_surety_28 g_2_12 ?_
          refine V_iload_n d_X11_surety_31 rfl rfl ?_
          obtain ⟨t6, ht6, hf⟩ := ob hf
          refine B_iald k_10 ht6 d_X11_surety_32 ?_
          refine V_icmp_ne (tgt := 47) d_X11_surety_33 (by decide) (fun c33 => ?_) (fun c33 => ?_)
          · replace hf := iteF c33 hf
            refine V_widen (k2 := 3) (s2 := 18) (by decide) (by decide) ?_
            refine V_less (ls' := [some _, some _, some _, none]) ⟨rfl, rfl, rfl, trivial⟩ ?_
            exact s_X11_surety_j47 hG hf hK
          · replace hf := iteT c33 hf
            refine V_less (ls' := [none, none, none, none]) trivial ?_
            exact s_X11_surety_j36 hG hf hK
theorem s_X11_surety {G : Gl} (hG : G.1.stackTraces = false) {μ : Mem} {p1 : Int32} {p2 : Int32} {r : ((Nat × Mem) ⊕ (Int32 × Mem))} (hf : f_X11_surety μ p1 p2 = some r) : Rx G yX11_surety F_X11_surety (.code yX11_surety F_X11_surety.2.1 F_X11_surety.2.2.1 (some .int)) [.ref (G.2.1 + 0), .int p1, .int p2] μ (Sum.map id (fun q => (some (.int q.1), q.2)) r) := fun n => Sd.of hG ⟨by decide +kernel, rfl, rfl⟩ rfl (Nat.le_of_ble_eq_true rfl) rfl (fun C hK => s_X11_surety_e hG hf hK)
theorem d_X11_give_0 : decode cX11_give 0 = .ok (.aload_n 0, 1) := by decide +kernel
theorem d_X11_give_1 : decode cX11_give 1 = .ok (.iload_n 1, 1) := by decide +kernel
theorem d_X11_give_2 : decode cX11_give 2 = .ok (.invokevirtual 189, 3) := by decide +kernel
theorem d_X11_give_5 : decode cX11_give 5 = .ok (.aload_n 0, 1) := by decide +kernel
theorem d_X11_give_6 : decode cX11_give 6 = .ok (.iload_n 2, 1) := by decide +kernel
theorem d_X11_give_7 : decode cX11_give 7 = .ok (.invokevirtual 149, 3) := by decide +kernel
theorem d_X11_give_10 : decode cX11_give 10 = .ok (.iload_n 2, 1) := by decide +kernel
theorem d_X11_give_11 : decode cX11_give 11 = .ok (.iload_n 1, 1) := by decide +kernel
theorem d_X11_give_12 : decode cX11_give 12 = .ok (.invokestatic 234, 3) := by decide +kernel
theorem d_X11_give_15 : decode cX11_give 15 = .ok (.if_icmp .eq 29, 3) := by decide +kernel
theorem d_X11_give_18 : decode cX11_give 18 = .ok (.iload_n 2, 1) := by decide +kernel
theorem d_X11_give_19 : decode cX11_give 19 = .ok (.aload_n 0, 1) := by decide +kernel
theorem d_X11_give_20 : decode cX11_give 20 = .ok (.getfield 19, 3) := by decide +kernel
theorem d_X11_give_23 : decode cX11_give 23 = .ok (.getfield 195, 3) := by decide +kernel
theorem d_X11_give_26 : decode cX11_give 26 = .ok (.iload_n 1, 1) := by decide +kernel
theorem d_X11_give_27 : decode cX11_give 27 = .ok (.iaload, 1) := by decide +kernel
theorem d_X11_give_28 : decode cX11_give 28 = .ok (.if_icmp .eq 16, 3) := by decide +kernel
theorem d_X11_give_31 : decode cX11_give 31 = .ok (.iload_n 2, 1) := by decide +kernel
theorem d_X11_give_32 : decode cX11_give 32 = .ok (.aload_n 0, 1) := by decide +kernel
theorem d_X11_give_33 : decode cX11_give 33 = .ok (.getfield 19, 3) := by decide +kernel
theorem d_X11_give_36 : decode cX11_give 36 = .ok (.getfield 207, 3) := by decide +kernel
theorem d_X11_give_39 : decode cX11_give 39 = .ok (.iload_n 1, 1) := by decide +kernel
theorem d_X11_give_40 : decode cX11_give 40 = .ok (.iaload, 1) := by decide +kernel
theorem d_X11_give_41 : decode cX11_give 41 = .ok (.if_icmp .ne 14, 3) := by decide +kernel
theorem d_X11_give_44 : decode cX11_give 44 = .ok (.new 113, 3) := by decide +kernel
theorem d_X11_give_47 : decode cX11_give 47 = .ok (.dup, 1) := by decide +kernel
theorem d_X11_give_48 : decode cX11_give 48 = .ok (.ldc_w 281, 3) := by decide +kernel
theorem d_X11_give_51 : decode cX11_give 51 = .ok (.invokespecial 117, 3) := by decide +kernel
theorem d_X11_give_54 : decode cX11_give 54 = .ok (.athrow, 1) := by decide +kernel
theorem d_X11_give_55 : decode cX11_give 55 = .ok (.aload_n 0, 1) := by decide +kernel
theorem d_X11_give_56 : decode cX11_give 56 = .ok (.iload_n 1, 1) := by decide +kernel
theorem d_X11_give_57 : decode cX11_give 57 = .ok (.invokevirtual 278, 3) := by decide +kernel
theorem d_X11_give_60 : decode cX11_give 60 = .ok (.aload_n 0, 1) := by decide +kernel
theorem d_X11_give_61 : decode cX11_give 61 = .ok (.getfield 19, 3) := by decide +kernel
theorem d_X11_give_64 : decode cX11_give 64 = .ok (.getfield 152, 3) := by decide +kernel
theorem d_X11_give_67 : decode cX11_give 67 = .ok (.iload_n 2, 1) := by decide +kernel
theorem d_X11_give_68 : decode cX11_give 68 = .ok (.iaload, 1) := by decide +kernel
theorem d_X11_give_69 : decode cX11_give 69 = .ok (.aload_n 0, 1) := by decide +kernel
theorem d_X11_give_70 : decode cX11_give 70 = .ok (.getfield 19, 3) := by decide +kernel
theorem d_X11_give_73 : decode cX11_give 73 = .ok (.getfield 198, 3) := by decide +kernel
theorem d_X11_give_76 : decode cX11_give 76 = .ok (.iload_n 1, 1) := by decide +kernel
theorem d_X11_give_77 : decode cX11_give 77 = .ok (.iaload, 1) := by decide +kernel
theorem d_X11_give_78 : decode cX11_give 78 = .ok (.if_icmp .ge 14, 3) := by decide +kernel
theorem d_X11_give_81 : decode cX11_give 81 = .ok (.new 243, 3) := by decide +kernel
theorem d_X11_give_84 : decode cX11_give 84 = .ok (.dup, 1) := by decide +kernel
theorem d_X11_give_85 : decode cX11_give 85 = .ok (.ldc_w 283, 3) := by decide +kernel
theorem d_X11_give_88 : decode cX11_give 88 = .ok (.invokespecial 247, 3) := by decide +kernel
theorem d_X11_give_91 : decode cX11_give 91 = .ok (.athrow, 1) := by decide +kernel
theorem d_X11_give_92 : decode cX11_give 92 = .ok (.aload_n 0, 1) := by decide +kernel
theorem d_X11_give_93 : decode cX11_give 93 = .ok (.getfield 63, 3) := by decide +kernel
theorem d_X11_give_96 : decode cX11_give 96 = .ok (.aload_n 0, 1) := by decide +kernel
theorem d_X11_give_97 : decode cX11_give 97 = .ok (.getfield 19, 3) := by decide +kernel
theorem d_X11_give_100 : decode cX11_give 100 = .ok (.invokevirtual 248, 3) := by decide +kernel
theorem d_X11_give_103 : decode cX11_give 103 = .ok (.aload_n 0, 1) := by decide +kernel
theorem d_X11_give_104 : decode cX11_give 104 = .ok (.getfield 19, 3) := by decide +kernel
theorem d_X11_give_107 : decode cX11_give 107 = .ok (.getfield 195, 3) := by decide +kernel
theorem d_X11_give_110 : decode cX11_give 110 = .ok (.iload_n 1, 1) := by decide +kernel
theorem d_X11_give_111 : decode cX11_give 111 = .ok (.iaload, 1) := by decide +kernel
theorem d_X11_give_112 : decode cX11_give 112 = .ok (.istore_n 3, 1) := by decide +kernel
theorem d_X11_give_113 : decode cX11_give 113 = .ok (.aload_n 0, 1) := by decide +kernel
theorem d_X11_give_114 : decode cX11_give 114 = .ok (.getfield 19, 3) := by decide +kernel
theorem d_X11_give_117 : decode cX11_give 117 = .ok (.getfield 152, 3) := by decide +kernel
theorem d_X11_give_120 : decode cX11_give 120 = .ok (.iload_n 2, 1) := by decide +kernel
theorem d_X11_give_121 : decode cX11_give 121 = .ok (.dup2, 1) := by decide +kernel
theorem d_X11_give_122 : decode cX11_give 122 = .ok (.iaload, 1) := by decide +kernel
theorem d_X11_give_123 : decode cX11_give 123 = .ok (.aload_n 0, 1) := by decide +kernel
theorem d_X11_give_124 : decode cX11_give 124 = .ok (.getfield 19, 3) := by decide +kernel
theorem d_X11_give_127 : decode cX11_give 127 = .ok (.getfield 198, 3) := by decide +kernel
theorem d_X11_give_130 : decode cX11_give 130 = .ok (.iload_n 1, 1) := by decide +kernel
theorem d_X11_give_131 : decode cX11_give 131 = .ok (.iaload, 1) := by decide +kernel
theorem d_X11_give_132 : decode cX11_give 132 = .ok (.isub, 1) := by decide +kernel
theorem d_X11_give_133 : decode cX11_give 133 = .ok (.iastore, 1) := by decide +kernel
theorem d_X11_give_134 : decode cX11_give 134 = .ok (.aload_n 0, 1) := by decide +kernel
theorem d_X11_give_135 : decode cX11_give 135 = .ok (.getfield 19, 3) := by decide +kernel
theorem d_X11_give_138 : decode cX11_give 138 = .ok (.iload_n 3, 1) := by decide +kernel
theorem d_X11_give_139 : decode cX11_give 139 = .ok (.aload_n 0, 1) := by decide +kernel
theorem d_X11_give_140 : decode cX11_give 140 = .ok (.getfield 19, 3) := by decide +kernel
theorem d_X11_give_143 : decode cX11_give 143 = .ok (.getfield 198, 3) := by decide +kernel
theorem d_X11_give_146 : decode cX11_give 146 = .ok (.iload_n 1, 1) := by decide +kernel
theorem d_X11_give_147 : decode cX11_give 147 = .ok (.iaload, 1) := by decide +kernel
theorem d_X11_give_148 : decode cX11_give 148 = .ok (.invokevirtual 251, 3) := by decide +kernel
theorem d_X11_give_151 : decode cX11_give 151 = .ok (.aload_n 0, 1) := by decide +kernel
theorem d_X11_give_152 : decode cX11_give 152 = .ok (.getfield 19, 3) := by decide +kernel
theorem d_X11_give_155 : decode cX11_give 155 = .ok (.getfield 195, 3) := by decide +kernel
theorem d_X11_give_158 : decode cX11_give 158 = .ok (.iload_n 1, 1) := by decide +kernel
theorem d_X11_give_159 : decode cX11_give 159 = .ok (.iload_n 2, 1) := by decide +kernel
theorem d_X11_give_160 : decode cX11_give 160 = .ok (.iastore, 1) := by decide +kernel
theorem d_X11_give_161 : decode cX11_give 161 = .ok (.iload_n 3, 1) := by decide +kernel
theorem d_X11_give_162 : decode cX11_give 162 = .ok (.ireturn, 1) := by decide +kernel
theorem s_X11_give_j44 {G : Gl} (hG : G.1.stackTraces = false) {C : Cx} {n : Nat} {μ : Mem}  {r : ((Nat × Mem) ⊕ (Int32 × Mem))} (hf : f_X11_give_j44 μ = some r) (hK : FinX G C F_X11_give (some .int) (Sum.map id (fun q => (some (.int q.1), q.2)) r)) : V G C F_X11_give 44 [none, none, none, none] [] (pic G μ) n 2 12 := by
  unfold f_X11_give_j44 at hf
  cases hf
  exact B_throwW (k0 := 1) hK tk_RX11_113_281_117 rfl rfl d_X11_give_44 d_X11_give_47 d_X11_give_48 d_X11_give_51 d_X11_give_54 (Nat.le_of_ble_eq_true rfl) (Nat.le_of_ble_eq_true rfl) (Nat.le_of_ble_eq_true rfl)
theorem s_X11_give_e {G : Gl} (hG : G.1.stackTraces = false) {C : Cx} {n : Nat} {μ : Mem} {p1 : Int32} {p2 : Int32} {r : ((Nat × Mem) ⊕ (Int32 × Mem))} (hf : f_X11_give μ p1 p2 = some r) (hK : FinX G C F_X11_give (some .int) (Sum.map id (fun q => (some (.int q.1), q.2)) r)) : V G C F_X11_give 0 [some (.ref (G.2.1 + 0)), some (.int p1), some (.int p2), none] [] (pic G μ) n 0 0 := by
  unfold f_X11_give at hf
  refine V_aload_n d_X11_give_0 rfl rfl ?_
  refine V_iload_n d_X11_give_1 rfl rfl ?_
  obtain ⟨q1, hq1, hf⟩ := ob hf
  cases q1 with
  | inl e9 =>
    obtain ⟨k9, μ9⟩ := e9
    refine B_callVXt (kc' := 1) (ks' := 6) (s_X11_needLace hG hq1) k_0 clX11 m_X11_needLace kv_RX11_189 d_X11_give_2 rfl (Nat.le_of_ble_eq_true rfl) ⟨rfl, rfl, Nat.le_of_ble_eq_true rfl, Nat.le_of_ble_eq_true rfl, Nat.le_of_ble_eq_true rfl⟩ (fun n => ?_)
    cases hf
    exact X_out hK rfl (Nat.le_of_ble_eq_true rfl) (Nat.le_of_ble_eq_true rfl)
  | inr v2 =>
    replace hf := elimR hf
    refine B_callVX0 (kc' := 1) (ks' := 6) (s_X11_needLace hG hq1) k_0 clX11 m_X11_needLace kv_RX11_189 d_X11_give_2 rfl (Nat.le_of_ble_eq_true rfl) ⟨rfl, rfl, Nat.le_of_ble_eq_true rfl, Nat.le_of_ble_eq_true rfl, Nat.le_of_ble_eq_true rfl⟩ (fun n => ?_)
    refine V_aload_n d_X11_give_5 rfl rfl ?_
    refine V_iload_n d_X11_give_6 rfl rfl ?_
    obtain ⟨q3, hq3, hf⟩ := ob hf
    cases q3 with
    | inl e9 =>
      obtain ⟨k9, μ9⟩ := e9
      refine B_callVXt (kc' := 2) (ks' := 12) (s_X11_needPerson hG hq3) k_0 clX11 m_X11_needPerson kv_RX11_149 d_X11_give_7 rfl (Nat.le_of_ble_eq_true rfl) ⟨rfl, rfl, Nat.le_of_ble_eq_true rfl, Nat.le_of_ble_eq_true rfl, Nat.le_of_ble_eq_true rfl⟩ (fun n => ?_)
      cases hf
      exact X_out hK rfl (Nat.le_of_ble_eq_true rfl) (Nat.le_of_ble_eq_true rfl)
    | inr v4 =>
      replace hf := elimR hf
      refine B_callVX0 (kc' := 2) (ks' := 12) (s_X11_needPerson hG hq3) k_0 clX11 m_X11_needPerson kv_RX11_149 d_X11_give_7 rfl (Nat.le_of_ble_eq_true rfl) ⟨rfl, rfl, Nat.le_of_ble_eq_true rfl, Nat.le_of_ble_eq_true rfl, Nat.le_of_ble_eq_true rfl⟩ (fun n => ?_)
      refine V_iload_n d_X11_give_10 rfl rfl ?_
      refine V_iload_n d_X11_give_11 rfl rfl ?_
      obtain ⟨t5, ht5, hf⟩ := ob hf
      refine B_callS1 (s_X11_ownerOf hG ht5) m_X11_ownerOf ks_RX11_234 d_X11_give_12 rfl (Nat.le_of_ble_eq_true rfl) ⟨rfl, rfl, Nat.le_of_ble_eq_true rfl, Nat.le_of_ble_eq_true rfl, Nat.le_of_ble_eq_true rfl⟩ (fun n => ?_)
      refine V_icmp_eq (tgt := 44) d_X11_give_15 (by decide) (fun c15 => ?_) (fun c15 => ?_)
      · replace hf := iteT c15 hf
        refine V_less (ls' := [none, none, none, none]) trivial ?_
        exact s_X11_give_j44 hG hf hK
      · replace hf := iteF c15 hf
        refine V_iload_n d_X11_give_18 rfl rfl ?_
        refine V_aload_n d_X11_give_19 rfl rfl ?_
        refine B_get k_0 fl_RX11_19 d_X11_give_20 g_11_1 ?_
        refine B_get k_3 fl_RX11_195 d_X11_give_23 g_2_12 ?_
        refine V_iload_n d_X11_give_26 rfl rfl ?_
        obtain ⟨t6, ht6, hf⟩ := ob hf
        refine B_iald k_10 ht6 d_X11_give_27 ?_
        refine V_icmp_eq (tgt := 44) d_X11_give_28 (by decide) (fun c28 => ?_) (fun c28 => ?_)
        · replace hf := iteT c28 hf
          refine V_less (ls' := [none, none, none, none]) trivial ?_
          exact s_X11_give_j44 hG hf hK
        · replace hf := iteF c28 hf
          refine V_iload_n d_X11_give_31 rfl rfl ?_
          refine V_aload_n d_X11_give_32 rfl rfl ?_
          refine B_get k_0 fl_RX11_19 d_X11_give_33 g_11_1 ?_
          refine B_get k_3 fl_RX11_207 d_X11_give_36 g_2_16 ?_
          refine V_iload_n d_X11_give_39 rfl rfl ?_
          obtain ⟨t7, ht7, hf⟩ := ob hf
          refine B_iald k_14 ht7 d_X11_give_40 ?_
          refine V_icmp_ne (tgt := 55) d_X11_give_41 (by decide) (fun c41 => ?_) (fun c41 => ?_)
          · replace hf := iteF c41 hf
            refine V_aload_n d_X11_give_55 rfl rfl ?_
            refine V_iload_n d_X11_give_56 rfl rfl ?_
            obtain ⟨q8, hq8, hf⟩ := ob hf
            cases q8 with
            | inl e9 =>
              obtain ⟨k9, μ9⟩ := e9
              refine B_callVXt (kc' := 3) (ks' := 18) (s_X11_needPledged hG hq8) k_0 clX11 m_X11_needPledged kv_RX11_278 d_X11_give_57 rfl (Nat.le_of_ble_eq_true rfl) ⟨rfl, rfl, Nat.le_of_ble_eq_true rfl, Nat.le_of_ble_eq_true rfl, Nat.le_of_ble_eq_true rfl⟩ (fun n => ?_)
              cases hf
              exact X_out hK rfl (Nat.le_of_ble_eq_true rfl) (Nat.le_of_ble_eq_true rfl)
            | inr v9 =>
              replace hf := elimR hf
              refine B_callVX0 (kc' := 3) (ks' := 18) (s_X11_needPledged hG hq8) k_0 clX11 m_X11_needPledged kv_RX11_278 d_X11_give_57 rfl (Nat.le_of_ble_eq_true rfl) ⟨rfl, rfl, Nat.le_of_ble_eq_true rfl, Nat.le_of_ble_eq_true rfl, Nat.le_of_ble_eq_true rfl⟩ (fun n => ?_)
              refine V_aload_n d_X11_give_60 rfl rfl ?_
              refine B_get k_0 fl_RX11_19 d_X11_give_61 g_11_1 ?_
              refine B_get k_3 fl_RX11_152 d_X11_give_64 g_2_6 ?_
              refine V_iload_n d_X11_give_67 rfl rfl ?_
              obtain ⟨t10, ht10, hf⟩ := ob hf
              refine B_iald k_4 ht10 d_X11_give_68 ?_
              refine V_aload_n d_X11_give_69 rfl rfl ?_
              refine B_get k_0 fl_RX11_19 d_X11_give_70 g_11_1 ?_
              refine B_get k_3 fl_RX11_198 d_X11_give_73 g_2_13 ?_
              refine V_iload_n d_X11_give_76 rfl rfl ?_
              obtain ⟨t11, ht11, hf⟩ := ob hf
              refine B_iald k_11 ht11 d_X11_give_77 ?_
              refine V_icmp_ge (tgt := 92) d_X11_give_78 (by decide) (fun c78 => ?_) (fun c78 => ?_)
              · replace hf := iteT c78 hf
                refine V_aload_n d_X11_give_92 rfl rfl ?_
                refine B_get k_0 fl_RX11_63 d_X11_give_93 g_11_9 ?_
                refine V_aload_n d_X11_give_96 rfl rfl ?_
                refine B_get k_0 fl_RX11_19 d_X11_give_97 g_11_1 ?_
                obtain ⟨q12, hq12, hf⟩ := ob hf
                refine B_callV0 (s_X0_remember hG L_3 hq12) k_74 clX0 m_X0_remember kv_RX11_248 d_X11_give_100 rfl (Nat.le_of_ble_eq_true rfl) ⟨rfl, rfl, Nat.le_of_ble_eq_true rfl, Nat.le_of_ble_eq_true rfl, Nat.le_of_ble_eq_true rfl⟩ (fun n => ?_)
                refine V_aload_n d_X11_give_103 rfl rfl ?_
                refine B_get k_0 fl_RX11_19 d_X11_give_104 g_11_1 ?_
                refine B_get k_3 fl_RX11_195 d_X11_give_107 g_2_12 ?_
                refine V_iload_n d_X11_give_110 rfl rfl ?_
                obtain ⟨t13, ht13, hf⟩ := ob hf
                refine B_iald k_10 ht13 d_X11_give_111 ?_
                refine V_istore_n (ls' := [_, _, _, _]) d_X11_give_112 rfl rfl rfl ?_
                refine V_aload_n d_X11_give_113 rfl rfl ?_
                refine B_get k_0 fl_RX11_19 d_X11_give_114 g_11_1 ?_
                refine B_get k_3 fl_RX11_152 d_X11_give_117 g_2_6 ?_
                refine V_iload_n d_X11_give_120 rfl rfl ?_
                refine V_dup2 d_X11_give_121 rfl rfl ?_
                obtain ⟨t14, ht14, hf⟩ := ob hf
                refine B_iald k_4 ht14 d_X11_give_122 ?_
                refine V_aload_n d_X11_give_123 rfl rfl ?_
                refine B_get k_0 fl_RX11_19 d_X11_give_124 g_11_1 ?_
                refine B_get k_3 fl_RX11_198 d_X11_give_127 g_2_13 ?_
                refine V_iload_n d_X11_give_130 rfl rfl ?_
                obtain ⟨t15, ht15, hf⟩ := ob hf
                refine B_iald k_11 ht15 d_X11_give_131 ?_
                refine V_isub d_X11_give_132 ?_
                obtain ⟨μ16, hμ16, hf⟩ := ob hf
                refine B_iast k_4 hμ16 d_X11_give_133 ?_
                refine V_aload_n d_X11_give_134 rfl rfl ?_
                refine B_get k_0 fl_RX11_19 d_X11_give_135 g_11_1 ?_
                refine V_iload_n d_X11_give_138 rfl rfl ?_
                refine V_aload_n d_X11_give_139 rfl rfl ?_
                refine B_get k_0 fl_RX11_19 d_X11_give_140 g_11_1 ?_
                refine B_get k_3 fl_RX11_198 d_X11_give_143 g_2_13 ?_
                refine V_iload_n d_X11_give_146 rfl rfl ?_
                obtain ⟨t17, ht17, hf⟩ := ob hf
                refine B_iald k_11 ht17 d_X11_give_147 ?_
                obtain ⟨q18, hq18, hf⟩ := ob hf
                refine B_callV0 (s_X2_earn hG L_3 hq18) k_3 clX2 m_X2_earn kv_RX11_251 d_X11_give_148 rfl (Nat.le_of_ble_eq_true rfl) ⟨rfl, rfl, Nat.le_of_ble_eq_true rfl, Nat.le_of_ble_eq_true rfl, Nat.le_of_ble_eq_true rfl⟩ (fun n => ?_)
                refine V_aload_n d_X11_give_151 rfl rfl ?_
                refine B_get k_0 fl_RX11_19 d_X11_give_152 g_11_1 ?_
                refine B_get k_3 fl_RX11_195 d_X11_give_155 g_2_12 ?_
                refine V_iload_n d_X11_give_158 rfl rfl ?_
                refine V_iload_n d_X11_give_159 rfl rfl ?_
                obtain ⟨μ19, hμ19, hf⟩ := ob hf
                refine B_iast k_10 hμ19 d_X11_give_160 ?_
                refine V_iload_n d_X11_give_161 rfl rfl ?_
                cases hf
                exact R_iX hK d_X11_give_162 (Nat.le_of_ble_eq_true rfl) (Nat.le_of_ble_eq_true rfl)
              · replace hf := iteF c78 hf
                cases hf
                exact B_throwW (k0 := 3) hK tk_RX11_243_283_247 rfl rfl d_X11_give_81 d_X11_give_84 d_X11_give_85 d_X11_give_88 d_X11_give_91 (Nat.le_of_ble_eq_true rfl) (Nat.le_of_ble_eq_true rfl) (Nat.le_of_ble_eq_true rfl)
          · replace hf := iteT c41 hf
            refine V_less (ls' := [none, none, none, none]) trivial ?_
            exact s_X11_give_j44 hG hf hK
theorem s_X11_give {G : Gl} (hG : G.1.stackTraces = false) {μ : Mem} {p1 : Int32} {p2 : Int32} {r : ((Nat × Mem) ⊕ (Int32 × Mem))} (hf : f_X11_give μ p1 p2 = some r) : Rx G yX11_give F_X11_give (.code yX11_give F_X11_give.2.1 F_X11_give.2.2.1 (some .int)) [.ref (G.2.1 + 0), .int p1, .int p2] μ (Sum.map id (fun q => (some (.int q.1), q.2)) r) := fun n => Sd.of hG ⟨by decide +kernel, rfl, rfl⟩ rfl (Nat.le_of_ble_eq_true rfl) rfl (fun C hK => s_X11_give_e hG hf hK)
theorem d_X11_goal_0 : decode cX11_goal 0 = .ok (.aload_n 0, 1) := by decide +kernel
theorem d_X11_goal_1 : decode cX11_goal 1 = .ok (.iload_n 1, 1) := by decide +kernel
theorem d_X11_goal_2 : decode cX11_goal 2 = .ok (.invokevirtual 149, 3) := by decide +kernel
theorem d_X11_goal_5 : decode cX11_goal 5 = .ok (.aload_n 0, 1) := by decide +kernel
theorem d_X11_goal_6 : decode cX11_goal 6 = .ok (.iload_n 2, 1) := by decide +kernel
theorem d_X11_goal_7 : decode cX11_goal 7 = .ok (.invokevirtual 212, 3) := by decide +kernel
theorem d_X11_goal_10 : decode cX11_goal 10 = .ok (.aload_n 0, 1) := by decide +kernel
theorem d_X11_goal_11 : decode cX11_goal 11 = .ok (.getfield 63, 3) := by decide +kernel
theorem d_X11_goal_14 : decode cX11_goal 14 = .ok (.aload_n 0, 1) := by decide +kernel
theorem d_X11_goal_15 : decode cX11_goal 15 = .ok (.getfield 19, 3) := by decide +kernel
theorem d_X11_goal_18 : decode cX11_goal 18 = .ok (.invokevirtual 248, 3) := by decide +kernel
theorem d_X11_goal_21 : decode cX11_goal 21 = .ok (.aload_n 0, 1) := by decide +kernel
theorem d_X11_goal_22 : decode cX11_goal 22 = .ok (.getfield 19, 3) := by decide +kernel
theorem d_X11_goal_25 : decode cX11_goal 25 = .ok (.getfield 162, 3) := by decide +kernel
theorem d_X11_goal_28 : decode cX11_goal 28 = .ok (.iload_n 1, 1) := by decide +kernel
theorem d_X11_goal_29 : decode cX11_goal 29 = .ok (.iaload, 1) := by decide +kernel
theorem d_X11_goal_30 : decode cX11_goal 30 = .ok (.istore_n 3, 1) := by decide +kernel
theorem d_X11_goal_31 : decode cX11_goal 31 = .ok (.aload_n 0, 1) := by decide +kernel
theorem d_X11_goal_32 : decode cX11_goal 32 = .ok (.getfield 19, 3) := by decide +kernel
theorem d_X11_goal_35 : decode cX11_goal 35 = .ok (.getfield 162, 3) := by decide +kernel
theorem d_X11_goal_38 : decode cX11_goal 38 = .ok (.iload_n 1, 1) := by decide +kernel
theorem d_X11_goal_39 : decode cX11_goal 39 = .ok (.iload_n 2, 1) := by decide +kernel
theorem d_X11_goal_40 : decode cX11_goal 40 = .ok (.iastore, 1) := by decide +kernel
theorem d_X11_goal_41 : decode cX11_goal 41 = .ok (.iload_n 3, 1) := by decide +kernel
theorem d_X11_goal_42 : decode cX11_goal 42 = .ok (.ireturn, 1) := by decide +kernel
theorem s_X11_goal_e {G : Gl} (hG : G.1.stackTraces = false) {C : Cx} {n : Nat} {μ : Mem} {p1 : Int32} {p2 : Int32} {r : ((Nat × Mem) ⊕ (Int32 × Mem))} (hf : f_X11_goal μ p1 p2 = some r) (hK : FinX G C F_X11_goal (some .int) (Sum.map id (fun q => (some (.int q.1), q.2)) r)) : V G C F_X11_goal 0 [some (.ref (G.2.1 + 0)), some (.int p1), some (.int p2), none] [] (pic G μ) n 0 0 := by
  unfold f_X11_goal at hf
  refine V_aload_n d_X11_goal_0 rfl rfl ?_
  refine V_iload_n d_X11_goal_1 rfl rfl ?_
  obtain ⟨q1, hq1, hf⟩ := ob hf
  cases q1 with
  | inl e9 =>
    obtain ⟨k9, μ9⟩ := e9
    refine B_callVXt (kc' := 1) (ks' := 6) (s_X11_needPerson hG hq1) k_0 clX11 m_X11_needPerson kv_RX11_149 d_X11_goal_2 rfl (Nat.le_of_ble_eq_true rfl) ⟨rfl, rfl, Nat.le_of_ble_eq_true rfl, Nat.le_of_ble_eq_true rfl, Nat.le_of_ble_eq_true rfl⟩ (fun n => ?_)
    cases hf
    exact X_out hK rfl (Nat.le_of_ble_eq_true rfl) (Nat.le_of_ble_eq_true rfl)
  | inr v2 =>
    replace hf := elimR hf
    refine B_callVX0 (kc' := 1) (ks' := 6) (s_X11_needPerson hG hq1) k_0 clX11 m_X11_needPerson kv_RX11_149 d_X11_goal_2 rfl (Nat.le_of_ble_eq_true rfl) ⟨rfl, rfl, Nat.le_of_ble_eq_true rfl, Nat.le_of_ble_eq_true rfl, Nat.le_of_ble_eq_true rfl⟩ (fun n => ?_)
    refine V_aload_n d_X11_goal_5 rfl rfl ?_
    refine V_iload_n d_X11_goal_6 rfl rfl ?_
    obtain ⟨q3, hq3, hf⟩ := ob hf
    cases q3 with
    | inl e9 =>
      obtain ⟨k9, μ9⟩ := e9
      refine B_callVXt (kc' := 2) (ks' := 12) (s_X11_needPlace hG hq3) k_0 clX11 m_X11_needPlace kv_RX11_212 d_X11_goal_7 rfl (Nat.le_of_ble_eq_true rfl) ⟨rfl, rfl, Nat.le_of_ble_eq_true rfl, Nat.le_of_ble_eq_true rfl, Nat.le_of_ble_eq_true rfl⟩ (fun n => ?_)
      cases hf
      exact X_out hK rfl (Nat.le_of_ble_eq_true rfl) (Nat.le_of_ble_eq_true rfl)
    | inr v4 =>
      replace hf := elimR hf
      refine B_callVX0 (kc' := 2) (ks' := 12) (s_X11_needPlace hG hq3) k_0 clX11 m_X11_needPlace kv_RX11_212 d_X11_goal_7 rfl (Nat.le_of_ble_eq_true rfl) ⟨rfl, rfl, Nat.le_of_ble_eq_true rfl, Nat.le_of_ble_eq_true rfl, Nat.le_of_ble_eq_true rfl⟩ (fun n => ?_)
      refine V_aload_n d_X11_goal_10 rfl rfl ?_
      refine B_get k_0 fl_RX11_63 d_X11_goal_11 g_11_9 ?_
      refine V_aload_n d_X11_goal_14 rfl rfl ?_
      refine B_get k_0 fl_RX11_19 d_X11_goal_15 g_11_1 ?_
      obtain ⟨q5, hq5, hf⟩ := ob hf
      refine B_callV0 (s_X0_remember hG L_3 hq5) k_74 clX0 m_X0_remember kv_RX11_248 d_X11_goal_18 rfl (Nat.le_of_ble_eq_true rfl) ⟨rfl, rfl, Nat.le_of_ble_eq_true rfl, Nat.le_of_ble_eq_true rfl, Nat.le_of_ble_eq_true rfl⟩ (fun n => ?_)
      refine V_aload_n d_X11_goal_21 rfl rfl ?_
      refine B_get k_0 fl_RX11_19 d_X11_goal_22 g_11_1 ?_
      refine B_get k_3 fl_RX11_162 d_X11_goal_25 g_2_9 ?_
      refine V_iload_n d_X11_goal_28 rfl rfl ?_
      obtain ⟨t6, ht6, hf⟩ := ob hf
      refine B_iald k_7 ht6 d_X11_goal_29 ?_
      refine V_istore_n (ls' := [_, _, _, _]) d_X11_goal_30 rfl rfl rfl ?_
      refine V_aload_n d_X11_goal_31 rfl rfl ?_
      refine B_get k_0 fl_RX11_19 d_X11_goal_32 g_11_1 ?_
      refine B_get k_3 fl_RX11_162 d_X11_goal_35 g_2_9 ?_
      refine V_iload_n d_X11_goal_38 rfl rfl ?_
      refine V_iload_n d_X11_goal_39 rfl rfl ?_
      obtain ⟨μ7, hμ7, hf⟩ := ob hf
      refine B_iast k_7 hμ7 d_X11_goal_40 ?_
      refine V_iload_n d_X11_goal_41 rfl rfl ?_
      cases hf
      exact R_iX hK d_X11_goal_42 (Nat.le_of_ble_eq_true rfl) (Nat.le_of_ble_eq_true rfl)
theorem s_X11_goal {G : Gl} (hG : G.1.stackTraces = false) {μ : Mem} {p1 : Int32} {p2 : Int32} {r : ((Nat × Mem) ⊕ (Int32 × Mem))} (hf : f_X11_goal μ p1 p2 = some r) : Rx G yX11_goal F_X11_goal (.code yX11_goal F_X11_goal.2.1 F_X11_goal.2.2.1 (some .int)) [.ref (G.2.1 + 0), .int p1, .int p2] μ (Sum.map id (fun q => (some (.int q.1), q.2)) r) := fun n => Sd.of hG ⟨by decide +kernel, rfl, rfl⟩ rfl (Nat.le_of_ble_eq_true rfl) rfl (fun C hK => s_X11_goal_e hG hf hK)
theorem d_X11_rest_0 : decode cX11_rest 0 = .ok (.aload_n 0, 1) := by decide +kernel
theorem d_X11_rest_1 : decode cX11_rest 1 = .ok (.iload_n 1, 1) := by decide +kernel
theorem d_X11_rest_2 : decode cX11_rest 2 = .ok (.invokevirtual 149, 3) := by decide +kernel
theorem d_X11_rest_5 : decode cX11_rest 5 = .ok (.aload_n 0, 1) := by decide +kernel
theorem d_X11_rest_6 : decode cX11_rest 6 = .ok (.getfield 63, 3) := by decide +kernel
theorem d_X11_rest_9 : decode cX11_rest 9 = .ok (.aload_n 0, 1) := by decide +kernel
theorem d_X11_rest_10 : decode cX11_rest 10 = .ok (.getfield 19, 3) := by decide +kernel
theorem d_X11_rest_13 : decode cX11_rest 13 = .ok (.invokevirtual 248, 3) := by decide +kernel
theorem d_X11_rest_16 : decode cX11_rest 16 = .ok (.aload_n 0, 1) := by decide +kernel
theorem d_X11_rest_17 : decode cX11_rest 17 = .ok (.getfield 19, 3) := by decide +kernel
theorem d_X11_rest_20 : decode cX11_rest 20 = .ok (.getfield 165, 3) := by decide +kernel
theorem d_X11_rest_23 : decode cX11_rest 23 = .ok (.iload_n 1, 1) := by decide +kernel
theorem d_X11_rest_24 : decode cX11_rest 24 = .ok (.iaload, 1) := by decide +kernel
theorem d_X11_rest_25 : decode cX11_rest 25 = .ok (.istore_n 2, 1) := by decide +kernel
theorem d_X11_rest_26 : decode cX11_rest 26 = .ok (.aload_n 0, 1) := by decide +kernel
theorem d_X11_rest_27 : decode cX11_rest 27 = .ok (.getfield 19, 3) := by decide +kernel
theorem d_X11_rest_30 : decode cX11_rest 30 = .ok (.getfield 165, 3) := by decide +kernel
theorem d_X11_rest_33 : decode cX11_rest 33 = .ok (.iload_n 1, 1) := by decide +kernel
theorem d_X11_rest_34 : decode cX11_rest 34 = .ok (.iconst 0, 1) := by decide +kernel
theorem d_X11_rest_35 : decode cX11_rest 35 = .ok (.iastore, 1) := by decide +kernel
theorem d_X11_rest_36 : decode cX11_rest 36 = .ok (.iload_n 2, 1) := by decide +kernel
theorem d_X11_rest_37 : decode cX11_rest 37 = .ok (.ireturn, 1) := by decide +kernel
theorem s_X11_rest_e {G : Gl} (hG : G.1.stackTraces = false) {C : Cx} {n : Nat} {μ : Mem} {p1 : Int32} {r : ((Nat × Mem) ⊕ (Int32 × Mem))} (hf : f_X11_rest μ p1 = some r) (hK : FinX G C F_X11_rest (some .int) (Sum.map id (fun q => (some (.int q.1), q.2)) r)) : V G C F_X11_rest 0 [some (.ref (G.2.1 + 0)), some (.int p1), none] [] (pic G μ) n 0 0 := by
  unfold f_X11_rest at hf
  refine V_aload_n d_X11_rest_0 rfl rfl ?_
  refine V_iload_n d_X11_rest_1 rfl rfl ?_
  obtain ⟨q1, hq1, hf⟩ := ob hf
  cases q1 with
  | inl e9 =>
    obtain ⟨k9, μ9⟩ := e9
    refine B_callVXt (kc' := 1) (ks' := 6) (s_X11_needPerson hG hq1) k_0 clX11 m_X11_needPerson kv_RX11_149 d_X11_rest_2 rfl (Nat.le_of_ble_eq_true rfl) ⟨rfl, rfl, Nat.le_of_ble_eq_true rfl, Nat.le_of_ble_eq_true rfl, Nat.le_of_ble_eq_true rfl⟩ (fun n => ?_)
    cases hf
    exact X_out hK rfl (Nat.le_of_ble_eq_true rfl) (Nat.le_of_ble_eq_true rfl)
  | inr v2 =>
    replace hf := elimR hf
    refine B_callVX0 (kc' := 1) (ks' := 6) (s_X11_needPerson hG hq1) k_0 clX11 m_X11_needPerson kv_RX11_149 d_X11_rest_2 rfl (Nat.le_of_ble_eq_true rfl) ⟨rfl, rfl, Nat.le_of_ble_eq_true rfl, Nat.le_of_ble_eq_true rfl, Nat.le_of_ble_eq_true rfl⟩ (fun n => ?_)
    refine V_aload_n d_X11_rest_5 rfl rfl ?_
    refine B_get k_0 fl_RX11_63 d_X11_rest_6 g_11_9 ?_
    refine V_aload_n d_X11_rest_9 rfl rfl ?_
    refine B_get k_0 fl_RX11_19 d_X11_rest_10 g_11_1 ?_
    obtain ⟨q3, hq3, hf⟩ := ob hf
    refine B_callV0 (s_X0_remember hG L_3 hq3) k_74 clX0 m_X0_remember kv_RX11_248 d_X11_rest_13 rfl (Nat.le_of_ble_eq_true rfl) ⟨rfl, rfl, Nat.le_of_ble_eq_true rfl, Nat.le_of_ble_eq_true rfl, Nat.le_of_ble_eq_true rfl⟩ (fun n => ?_)
    refine V_aload_n d_X11_rest_16 rfl rfl ?_
    refine B_get k_0 fl_RX11_19 d_X11_rest_17 g_11_1 ?_
    refine B_get k_3 fl_RX11_165 d_X11_rest_20 g_2_10 ?_
    refine V_iload_n d_X11_rest_23 rfl rfl ?_
    obtain ⟨t4, ht4, hf⟩ := ob hf
    refine B_iald k_8 ht4 d_X11_rest_24 ?_
    refine V_istore_n (ls' := [_, _, _]) d_X11_rest_25 rfl rfl rfl ?_
    refine V_aload_n d_X11_rest_26 rfl rfl ?_
    refine B_get k_0 fl_RX11_19 d_X11_rest_27 g_11_1 ?_
    refine B_get k_3 fl_RX11_165 d_X11_rest_30 g_2_10 ?_
    refine V_iload_n d_X11_rest_33 rfl rfl ?_
    refine V_iconst (v := 0) d_X11_rest_34 ic_0 ?_
    obtain ⟨μ5, hμ5, hf⟩ := ob hf
    refine B_iast k_8 hμ5 d_X11_rest_35 ?_
    refine V_iload_n d_X11_rest_36 rfl rfl ?_
    cases hf
    exact R_iX hK d_X11_rest_37 (Nat.le_of_ble_eq_true rfl) (Nat.le_of_ble_eq_true rfl)
theorem s_X11_rest {G : Gl} (hG : G.1.stackTraces = false) {μ : Mem} {p1 : Int32} {r : ((Nat × Mem) ⊕ (Int32 × Mem))} (hf : f_X11_rest μ p1 = some r) : Rx G yX11_rest F_X11_rest (.code yX11_rest F_X11_rest.2.1 F_X11_rest.2.2.1 (some .int)) [.ref (G.2.1 + 0), .int p1] μ (Sum.map id (fun q => (some (.int q.1), q.2)) r) := fun n => Sd.of hG ⟨by decide +kernel, rfl, rfl⟩ rfl (Nat.le_of_ble_eq_true rfl) rfl (fun C hK => s_X11_rest_e hG hf hK)
theorem d_X11_days_0 : decode cX11_days 0 = .ok (.iload_n 1, 1) := by decide +kernel
theorem d_X11_days_1 : decode cX11_days 1 = .ok (.iconst 1, 1) := by decide +kernel
theorem d_X11_days_2 : decode cX11_days 2 = .ok (.bipush 60, 2) := by decide +kernel
theorem d_X11_days_4 : decode cX11_days 4 = .ok (.invokestatic 237, 3) := by decide +kernel
theorem d_X11_days_7 : decode cX11_days 7 = .ok (.ifCond .eq 14, 3) := by decide +kernel
theorem d_X11_days_10 : decode cX11_days 10 = .ok (.new 113, 3) := by decide +kernel
theorem d_X11_days_13 : decode cX11_days 13 = .ok (.dup, 1) := by decide +kernel
theorem d_X11_days_14 : decode cX11_days 14 = .ok (.ldc_w 285, 3) := by decide +kernel
theorem d_X11_days_17 : decode cX11_days 17 = .ok (.invokespecial 117, 3) := by decide +kernel
theorem d_X11_days_20 : decode cX11_days 20 = .ok (.athrow, 1) := by decide +kernel
theorem d_X11_days_21 : decode cX11_days 21 = .ok (.aload_n 0, 1) := by decide +kernel
theorem d_X11_days_22 : decode cX11_days 22 = .ok (.getfield 63, 3) := by decide +kernel
theorem d_X11_days_25 : decode cX11_days 25 = .ok (.aload_n 0, 1) := by decide +kernel
theorem d_X11_days_26 : decode cX11_days 26 = .ok (.getfield 19, 3) := by decide +kernel
theorem d_X11_days_29 : decode cX11_days 29 = .ok (.invokevirtual 248, 3) := by decide +kernel
theorem d_X11_days_32 : decode cX11_days 32 = .ok (.aload_n 0, 1) := by decide +kernel
theorem d_X11_days_33 : decode cX11_days 33 = .ok (.getfield 19, 3) := by decide +kernel
theorem d_X11_days_36 : decode cX11_days 36 = .ok (.iload_n 1, 1) := by decide +kernel
theorem d_X11_days_37 : decode cX11_days 37 = .ok (.aload_n 0, 1) := by decide +kernel
theorem d_X11_days_38 : decode cX11_days 38 = .ok (.getfield 32, 3) := by decide +kernel
theorem d_X11_days_41 : decode cX11_days 41 = .ok (.iconst 1, 1) := by decide +kernel
theorem d_X11_days_42 : decode cX11_days 42 = .ok (.invokevirtual 287, 3) := by decide +kernel
theorem d_X11_days_45 : decode cX11_days 45 = .ok (.ireturn, 1) := by decide +kernel
theorem s_X11_days_e {G : Gl} (hG : G.1.stackTraces = false) {C : Cx} {n : Nat} {μ : Mem} {p1 : Int32} {r : ((Nat × Mem) ⊕ (Int32 × Mem))} (hf : f_X11_days μ p1 = some r) (hK : FinX G C F_X11_days (some .int) (Sum.map id (fun q => (some (.int q.1), q.2)) r)) : V G C F_X11_days 0 [some (.ref (G.2.1 + 0)), some (.int p1)] [] (pic G μ) n 0 0 := by
  unfold f_X11_days at hf
  refine V_iload_n d_X11_days_0 rfl rfl ?_
  refine V_iconst (v := 1) d_X11_days_1 ic_1 ?_
  refine V_bipush (v := 60) d_X11_days_2 bp_60 ?_
  obtain ⟨t1, ht1, hf⟩ := ob hf
  refine B_callS1 (s_X11_isOutside hG ht1) m_X11_isOutside ks_RX11_237 d_X11_days_4 rfl (Nat.le_of_ble_eq_true rfl) ⟨rfl, rfl, Nat.le_of_ble_eq_true rfl, Nat.le_of_ble_eq_true rfl, Nat.le_of_ble_eq_true rfl⟩ (fun n => ?_)
  refine V_if_eq (tgt := 21) d_X11_days_7 (by decide) (fun c7 => ?_) (fun c7 => ?_)
  · replace hf := iteF (b2i_nt (b2i_eq0 c7)) hf
    refine V_aload_n d_X11_days_21 rfl rfl ?_
    refine B_get k_0 fl_RX11_63 d_X11_days_22 g_11_9 ?_
    refine V_aload_n d_X11_days_25 rfl rfl ?_
    refine B_get k_0 fl_RX11_19 d_X11_days_26 g_11_1 ?_
    obtain ⟨q2, hq2, hf⟩ := ob hf
    refine B_callV0 (s_X0_remember hG L_3 hq2) k_74 clX0 m_X0_remember kv_RX11_248 d_X11_days_29 rfl (Nat.le_of_ble_eq_true rfl) ⟨rfl, rfl, Nat.le_of_ble_eq_true rfl, Nat.le_of_ble_eq_true rfl, Nat.le_of_ble_eq_true rfl⟩ (fun n => ?_)
    refine V_aload_n d_X11_days_32 rfl rfl ?_
    refine B_get k_0 fl_RX11_19 d_X11_days_33 g_11_1 ?_
    refine V_iload_n d_X11_days_36 rfl rfl ?_
    refine V_aload_n d_X11_days_37 rfl rfl ?_
    refine B_get k_0 fl_RX11_32 d_X11_days_38 g_11_4 ?_
    refine V_iconst (v := 1) d_X11_days_41 ic_1 ?_
    obtain ⟨q3, hq3, hf⟩ := ob hf
    refine B_callV1 (s_X2_liveOn hG L_3 W_48 hq3) k_3 clX2 m_X2_liveOn kv_RX11_287 d_X11_days_42 rfl (Nat.le_of_ble_eq_true rfl) ⟨rfl, rfl, Nat.le_of_ble_eq_true rfl, Nat.le_of_ble_eq_true rfl, Nat.le_of_ble_eq_true rfl⟩ (fun n => ?_)
    cases hf
    exact R_iX hK d_X11_days_45 (Nat.le_of_ble_eq_true rfl) (Nat.le_of_ble_eq_true rfl)
  · replace hf := iteT (b2i_ne0 c7) hf
    cases hf
    exact B_throwW (k0 := 1) hK tk_RX11_113_285_117 rfl rfl d_X11_days_10 d_X11_days_13 d_X11_days_14 d_X11_days_17 d_X11_days_20 (Nat.le_of_ble_eq_true rfl) (Nat.le_of_ble_eq_true rfl) (Nat.le_of_ble_eq_true rfl)
theorem s_X11_days {G : Gl} (hG : G.1.stackTraces = false) {μ : Mem} {p1 : Int32} {r : ((Nat × Mem) ⊕ (Int32 × Mem))} (hf : f_X11_days μ p1 = some r) : Rx G yX11_days F_X11_days (.code yX11_days F_X11_days.2.1 F_X11_days.2.2.1 (some .int)) [.ref (G.2.1 + 0), .int p1] μ (Sum.map id (fun q => (some (.int q.1), q.2)) r) := fun n => Sd.of hG ⟨by decide +kernel, rfl, rfl⟩ rfl (Nat.le_of_ble_eq_true rfl) rfl (fun C hK => s_X11_days_e hG hf hK)
theorem d_X11_solvent_0 : decode cX11_solvent 0 = .ok (.iconst 0, 1) := by decide +kernel
theorem d_X11_solvent_1 : decode cX11_solvent 1 = .ok (.istore_n 1, 1) := by decide +kernel
theorem d_X11_solvent_2 : decode cX11_solvent 2 = .ok (.iconst 0, 1) := by decide +kernel
theorem d_X11_solvent_3 : decode cX11_solvent 3 = .ok (.istore_n 2, 1) := by decide +kernel
theorem d_X11_solvent_4 : decode cX11_solvent 4 = .ok (.iload_n 2, 1) := by decide +kernel
theorem d_X11_solvent_5 : decode cX11_solvent 5 = .ok (.aload_n 0, 1) := by decide +kernel
theorem d_X11_solvent_6 : decode cX11_solvent 6 = .ok (.getfield 19, 3) := by decide +kernel
theorem d_X11_solvent_9 : decode cX11_solvent 9 = .ok (.getfield 291, 3) := by decide +kernel
theorem d_X11_solvent_12 : decode cX11_solvent 12 = .ok (.if_icmp .ge 35, 3) := by decide +kernel
theorem d_X11_solvent_15 : decode cX11_solvent 15 = .ok (.aload_n 0, 1) := by decide +kernel
theorem d_X11_solvent_16 : decode cX11_solvent 16 = .ok (.getfield 19, 3) := by decide +kernel
theorem d_X11_solvent_19 : decode cX11_solvent 19 = .ok (.getfield 152, 3) := by decide +kernel
theorem d_X11_solvent_22 : decode cX11_solvent 22 = .ok (.iload_n 2, 1) := by decide +kernel
theorem d_X11_solvent_23 : decode cX11_solvent 23 = .ok (.iaload, 1) := by decide +kernel
theorem d_X11_solvent_24 : decode cX11_solvent 24 = .ok (.aload_n 0, 1) := by decide +kernel
theorem d_X11_solvent_25 : decode cX11_solvent 25 = .ok (.getfield 19, 3) := by decide +kernel
theorem d_X11_solvent_28 : decode cX11_solvent 28 = .ok (.iload_n 2, 1) := by decide +kernel
theorem d_X11_solvent_29 : decode cX11_solvent 29 = .ok (.invokevirtual 175, 3) := by decide +kernel
theorem d_X11_solvent_32 : decode cX11_solvent 32 = .ok (.if_icmp .lt 9, 3) := by decide +kernel
theorem d_X11_solvent_35 : decode cX11_solvent 35 = .ok (.iload_n 1, 1) := by decide +kernel
theorem d_X11_solvent_36 : decode cX11_solvent 36 = .ok (.iconst 1, 1) := by decide +kernel
theorem d_X11_solvent_37 : decode cX11_solvent 37 = .ok (.iload_n 2, 1) := by decide +kernel
theorem d_X11_solvent_38 : decode cX11_solvent 38 = .ok (.ishl, 1) := by decide +kernel
theorem d_X11_solvent_39 : decode cX11_solvent 39 = .ok (.ior, 1) := by decide +kernel
theorem d_X11_solvent_40 : decode cX11_solvent 40 = .ok (.istore_n 1, 1) := by decide +kernel
theorem d_X11_solvent_41 : decode cX11_solvent 41 = .ok (.iinc 2 1, 3) := by decide +kernel
theorem d_X11_solvent_44 : decode cX11_solvent 44 = .ok (.goto (-40), 3) := by decide +kernel
theorem d_X11_solvent_47 : decode cX11_solvent 47 = .ok (.iload_n 1, 1) := by decide +kernel
theorem d_X11_solvent_48 : decode cX11_solvent 48 = .ok (.ireturn, 1) := by decide +kernel
theorem s_X11_solvent_b4 {G : Gl} (hG : G.1.stackTraces = false) {C : Cx} {n : Nat} {μ : Mem} {l1 : Int32} {l2 : Int32} {y : ((Int32 × Int32) ⊕ Int32)} (hf : f_X11_solvent_b4 μ l1 l2 = some y) (hK : (∀ z', y = .inl z' → ∀ n, V G C F_X11_solvent 4 [some (.ref (G.2.1 + 0)), some (.int z'.1), some (.int z'.2)] [] (pic G μ) n 0 0) ∧ (∀ x', y = .inr x' → ∀ n, V G C F_X11_solvent 47 [none, some (.int x'), none] [] (pic G μ) n 0 0)) : V G C F_X11_solvent 4 [some (.ref (G.2.1 + 0)), some (.int l1), some (.int l2)] [] (pic G μ) n 0 0 := by
  unfold f_X11_solvent_b4 at hf
  refine V_iload_n d_X11_solvent_4 rfl rfl ?_
  refine V_aload_n d_X11_solvent_5 rfl rfl ?_
  refine B_get k_0 fl_RX11_19 d_X11_solvent_6 g_11_1 ?_
  refine B_get k_3 fl_RX11_291 d_X11_solvent_9 g_2_0 ?_
  refine V_icmp_ge (tgt := 47) d_X11_solvent_12 (by decide) (fun c12 => ?_) (fun c12 => ?_)
  · replace hf := iteT c12 hf
    refine V_less (ls' := [none, some _, none]) ⟨rfl, trivial⟩ ?_
    cases hf
    exact hK.2 _ rfl _
  · replace hf := iteF c12 hf
    refine V_aload_n d_X11_solvent_15 rfl rfl ?_
    refine B_get k_0 fl_RX11_19 d_X11_solvent_16 g_11_1 ?_
    refine B_get k_3 fl_RX11_152 d_X11_solvent_19 g_2_6 ?_
    refine V_iload_n d_X11_solvent_22 rfl rfl ?_
    obtain ⟨t1, ht1, hf⟩ := ob hf
    refine B_iald k_4 ht1 d_X11_solvent_23 ?_
    refine V_aload_n d_X11_solvent_24 rfl rfl ?_
    refine B_get k_0 fl_RX11_19 d_X11_solvent_25 g_11_1 ?_
    refine V_iload_n d_X11_solvent_28 rfl rfl ?_
    obtain ⟨t2, ht2, hf⟩ := ob hf
    refine B_callV1 (s_X2_owedBy hG L_3 ht2) k_3 clX2 m_X2_owedBy kv_RX11_175 d_X11_solvent_29 rfl (Nat.le_of_ble_eq_true rfl) ⟨rfl, rfl, Nat.le_of_ble_eq_true rfl, Nat.le_of_ble_eq_true rfl, Nat.le_of_ble_eq_true rfl⟩ (fun n => ?_)
    have hJj3 : ∀ j3 : Int32, j3 = (if t1 < t2 then (l1 : Int32) else (l1 ||| (1 <<< (l2 &&& 31)))) → V G C F_X11_solvent 41 [some (.ref (G.2.1 + 0)), some (.int j3), some (.int l2)] [] (pic G μ) n 0 0 := by
      intro j3 ej3
      subst ej3
      refine V_iinc (v := (l2 + 1)) (ls' := [_, _, _]) d_X11_solvent_41 rfl (by rw [ic_1]) rfl ?_
      refine V_goto (tgt := 4) d_X11_solvent_44 (by decide) ?_
      refine V_less (ls' := [some _, some _, some _]) ⟨rfl, rfl, rfl, trivial⟩ ?_
      cases hf
      exact hK.1 _ rfl _
    refine V_icmp_lt (tgt := 41) d_X11_solvent_32 (by decide) (fun c32 => ?_) (fun c32 => ?_)
    · refine V_less (ls' := [some _, some _, some _]) ⟨rfl, rfl, rfl, trivial⟩ ?_
      exact hJj3 l1 (by rw [if_pos c32])
    · refine V_iload_n d_X11_solvent_35 rfl rfl ?_
      refine V_iconst (v := 1) d_X11_solvent_36 ic_1 ?_
      refine V_iload_n d_X11_solvent_37 rfl rfl ?_
      refine V_ishl d_X11_solvent_38 ?_
      refine V_ior d_X11_solvent_39 ?_
      refine V_istore_n (ls' := [_, _, _]) d_X11_solvent_40 rfl rfl rfl ?_
      refine V_less (ls' := [some _, some _, some _]) ⟨rfl, rfl, rfl, trivial⟩ ?_
      exact hJj3 (l1 ||| (1 <<< (l2 &&& 31))) (by rw [if_neg c32])
theorem s_X11_solvent_j47 {G : Gl} (hG : G.1.stackTraces = false) {C : Cx} {n : Nat} {μ : Mem} {l1 : Int32} {r : Int32} (hf : f_X11_solvent_j47 μ l1 = some r) (hK : FinR G C F_X11_solvent (some .int) (some (.int r)) μ) : V G C F_X11_solvent 47 [none, some (.int l1), none] [] (pic G μ) n 0 0 := by
  unfold f_X11_solvent_j47 at hf
  refine V_iload_n d_X11_solvent_47 rfl rfl ?_
  cases hf
  exact R_i hK d_X11_solvent_48 (Nat.le_of_ble_eq_true rfl) (Nat.le_of_ble_eq_true rfl)
theorem s_X11_solvent_l4 {G : Gl} (hG : G.1.stackTraces = false) {C : Cx} {n : Nat} {μ : Mem} {l1 : Int32} {l2 : Int32} {r : Int32} (hf : f_X11_solvent_l4 μ l1 l2 = some r) (hK : FinR G C F_X11_solvent (some .int) (some (.int r)) μ) : V G C F_X11_solvent 4 [some (.ref (G.2.1 + 0)), some (.int l1), some (.int l2)] [] (pic G μ) n 0 0 := by
  unfold f_X11_solvent_l4 at hf
  obtain ⟨t, hl, hf⟩ := ob hf
  refine loopV (P := fun z => ∀ n, V G C F_X11_solvent 4 [some (.ref (G.2.1 + 0)), some (.int z.1), some (.int z.2)] [] (pic G μ) n 0 0) (t := t) ?_ _ _ hl n
  intro z y' hy hI hT n
  refine s_X11_solvent_b4 hG hy ⟨hI, fun x9 ex => ?_⟩
  have ex2 := hT x9 ex
  subst ex2
  intro n
  exact s_X11_solvent_j47 hG hf hK
theorem s_X11_solvent_e {G : Gl} (hG : G.1.stackTraces = false) {C : Cx} {n : Nat} {μ : Mem}  {r : Int32} (hf : f_X11_solvent μ = some r) (hK : FinR G C F_X11_solvent (some .int) (some (.int r)) μ) : V G C F_X11_solvent 0 [some (.ref (G.2.1 + 0)), none, none] [] (pic G μ) n 0 0 := by
  unfold f_X11_solvent at hf
  refine V_iconst (v := 0) d_X11_solvent_0 ic_0 ?_
  refine V_istore_n (ls' := [_, _, _]) d_X11_solvent_1 rfl rfl rfl ?_
  refine V_iconst (v := 0) d_X11_solvent_2 ic_0 ?_
  refine V_istore_n (ls' := [_, _, _]) d_X11_solvent_3 rfl rfl rfl ?_
  refine V_less (ls' := [some _, some _, some _]) ⟨rfl, rfl, rfl, trivial⟩ ?_
  exact s_X11_solvent_l4 hG hf hK
theorem s_X11_solvent {G : Gl} (hG : G.1.stackTraces = false) {μ : Mem} {r : Int32} (hf : f_X11_solvent μ = some r) : Rt G yX11_solvent F_X11_solvent (some .int) [.ref (G.2.1 + 0)] μ (some (.int r)) μ := fun n => Sd.of hG ⟨by decide +kernel, rfl, rfl⟩ rfl (Nat.le_of_ble_eq_true rfl) rfl (fun C hK => s_X11_solvent_e hG hf hK)
theorem d_X11_daysTo_0 : decode cX11_daysTo 0 = .ok (.aload_n 0, 1) := by decide +kernel
theorem d_X11_daysTo_1 : decode cX11_daysTo 1 = .ok (.getfield 23, 3) := by decide +kernel
theorem d_X11_daysTo_4 : decode cX11_daysTo 4 = .ok (.aload_n 0, 1) := by decide +kernel
theorem d_X11_daysTo_5 : decode cX11_daysTo 5 = .ok (.getfield 19, 3) := by decide +kernel
theorem d_X11_daysTo_8 : decode cX11_daysTo 8 = .ok (.invokevirtual 102, 3) := by decide +kernel
theorem d_X11_daysTo_11 : decode cX11_daysTo 11 = .ok (.aload_n 0, 1) := by decide +kernel
theorem d_X11_daysTo_12 : decode cX11_daysTo 12 = .ok (.getfield 23, 3) := by decide +kernel
theorem d_X11_daysTo_15 : decode cX11_daysTo 15 = .ok (.getfield 162, 3) := by decide +kernel
theorem d_X11_daysTo_18 : decode cX11_daysTo 18 = .ok (.iload_n 1, 1) := by decide +kernel
theorem d_X11_daysTo_19 : decode cX11_daysTo 19 = .ok (.iload_n 2, 1) := by decide +kernel
theorem d_X11_daysTo_20 : decode cX11_daysTo 20 = .ok (.iastore, 1) := by decide +kernel
theorem d_X11_daysTo_21 : decode cX11_daysTo 21 = .ok (.iconst 0, 1) := by decide +kernel
theorem d_X11_daysTo_22 : decode cX11_daysTo 22 = .ok (.istore_n 3, 1) := by decide +kernel
theorem d_X11_daysTo_23 : decode cX11_daysTo 23 = .ok (.iload_n 3, 1) := by decide +kernel
theorem d_X11_daysTo_24 : decode cX11_daysTo 24 = .ok (.bipush 60, 2) := by decide +kernel
theorem d_X11_daysTo_26 : decode cX11_daysTo 26 = .ok (.if_icmp .gt 38, 3) := by decide +kernel
theorem d_X11_daysTo_29 : decode cX11_daysTo 29 = .ok (.aload_n 0, 1) := by decide +kernel
theorem d_X11_daysTo_30 : decode cX11_daysTo 30 = .ok (.getfield 23, 3) := by decide +kernel
theorem d_X11_daysTo_33 : decode cX11_daysTo 33 = .ok (.getfield 159, 3) := by decide +kernel
theorem d_X11_daysTo_36 : decode cX11_daysTo 36 = .ok (.iload_n 1, 1) := by decide +kernel
theorem d_X11_daysTo_37 : decode cX11_daysTo 37 = .ok (.iaload, 1) := by decide +kernel
theorem d_X11_daysTo_38 : decode cX11_daysTo 38 = .ok (.iload_n 2, 1) := by decide +kernel
theorem d_X11_daysTo_39 : decode cX11_daysTo 39 = .ok (.if_icmp .ne 5, 3) := by decide +kernel
theorem d_X11_daysTo_42 : decode cX11_daysTo 42 = .ok (.iload_n 3, 1) := by decide +kernel
theorem d_X11_daysTo_43 : decode cX11_daysTo 43 = .ok (.ireturn, 1) := by decide +kernel
theorem d_X11_daysTo_44 : decode cX11_daysTo 44 = .ok (.aload_n 0, 1) := by decide +kernel
theorem d_X11_daysTo_45 : decode cX11_daysTo 45 = .ok (.getfield 23, 3) := by decide +kernel
theorem d_X11_daysTo_48 : decode cX11_daysTo 48 = .ok (.iconst 1, 1) := by decide +kernel
theorem d_X11_daysTo_49 : decode cX11_daysTo 49 = .ok (.aload_n 0, 1) := by decide +kernel
theorem d_X11_daysTo_50 : decode cX11_daysTo 50 = .ok (.getfield 32, 3) := by decide +kernel
theorem d_X11_daysTo_53 : decode cX11_daysTo 53 = .ok (.iconst 0, 1) := by decide +kernel
theorem d_X11_daysTo_54 : decode cX11_daysTo 54 = .ok (.invokevirtual 287, 3) := by decide +kernel
theorem d_X11_daysTo_57 : decode cX11_daysTo 57 = .ok (.pop, 1) := by decide +kernel
theorem d_X11_daysTo_58 : decode cX11_daysTo 58 = .ok (.iinc 3 1, 3) := by decide +kernel
theorem d_X11_daysTo_61 : decode cX11_daysTo 61 = .ok (.goto (-38), 3) := by decide +kernel
theorem d_X11_daysTo_64 : decode cX11_daysTo 64 = .ok (.iconst (-1), 1) := by decide +kernel
theorem d_X11_daysTo_65 : decode cX11_daysTo 65 = .ok (.ireturn, 1) := by decide +kernel
theorem s_X11_daysTo_b23 {G : Gl} (hG : G.1.stackTraces = false) {C : Cx} {n : Nat} {μ : Mem} {l1 : Int32} {l2 : Int32} {l3 : Int32} {y : ((Int32 × Mem) ⊕ (Mem ⊕ (Int32 × Mem)))} (hf : f_X11_daysTo_b23 μ l1 l2 l3 = some y) (hK : (∀ z', y = .inl z' → ∀ n, V G C F_X11_daysTo 23 [some (.ref (G.2.1 + 0)), some (.int l1), some (.int l2), some (.int z'.1)] [] (pic G z'.2) n 0 0) ∧ (∀ x', y = .inr x' → ((∀ x'', x' = .inl x'' → ∀ n, V G C F_X11_daysTo 64 [none, none, none, none] [] (pic G x'') n 0 0) ∧ (∀ x''', x' = .inr x''' → FinR G C F_X11_daysTo (some .int) (some (.int x'''.1)) x'''.2)))) : V G C F_X11_daysTo 23 [some (.ref (G.2.1 + 0)), some (.int l1), some (.int l2), some (.int l3)] [] (pic G μ) n 0 0 := by
  unfold f_X11_daysTo_b23 at hf
  refine V_iload_n d_X11_daysTo_23 rfl rfl ?_
  refine V_bipush (v := 60) d_X11_daysTo_24 bp_60 ?_
  refine V_icmp_gt (tgt := 64) d_X11_daysTo_26 (by decide) (fun c26 => ?_) (fun c26 => ?_)
  · replace hf := iteT c26 hf
    refine V_less (ls' := [none, none, none, none]) trivial ?_
    cases hf
    exact (hK.2 _ rfl).1 _ rfl _
  · replace hf := iteF c26 hf
    refine V_aload_n d_X11_daysTo_29 rfl rfl ?_
    refine B_get k_0 fl_RX11_23 d_X11_daysTo_30 g_11_2 ?_
    refine B_get k_18 fl_RX11_159 d_X11_daysTo_33 g_2_8 ?_
    refine V_iload_n d_X11_daysTo_36 rfl rfl ?_
    obtain ⟨t1, ht1, hf⟩ := ob hf
    refine B_iald k_21 ht1 d_X11_daysTo_37 ?_
    refine V_iload_n d_X11_daysTo_38 rfl rfl ?_
    refine V_icmp_ne (tgt := 44) d_X11_daysTo_39 (by decide) (fun c39 => ?_) (fun c39 => ?_)
    · replace hf := iteF c39 hf
      refine V_aload_n d_X11_daysTo_44 rfl rfl ?_
      refine B_get k_0 fl_RX11_23 d_X11_daysTo_45 g_11_2 ?_
      refine V_iconst (v := 1) d_X11_daysTo_48 ic_1 ?_
      refine V_aload_n d_X11_daysTo_49 rfl rfl ?_
      refine B_get k_0 fl_RX11_32 d_X11_daysTo_50 g_11_4 ?_
      refine V_iconst (v := 0) d_X11_daysTo_53 ic_0 ?_
      obtain ⟨q2, hq2, hf⟩ := ob hf
      refine B_callV1 (s_X2_liveOn hG L_18 W_48 hq2) k_18 clX2 m_X2_liveOn kv_RX11_287 d_X11_daysTo_54 rfl (Nat.le_of_ble_eq_true rfl) ⟨rfl, rfl, Nat.le_of_ble_eq_true rfl, Nat.le_of_ble_eq_true rfl, Nat.le_of_ble_eq_true rfl⟩ (fun n => ?_)
      refine V_pop d_X11_daysTo_57 rfl ?_
      refine V_iinc (v := (l3 + 1)) (ls' := [_, _, _, _]) d_X11_daysTo_58 rfl (by rw [ic_1]) rfl ?_
      refine V_goto (tgt := 23) d_X11_daysTo_61 (by decide) ?_
      refine V_less (ls' := [some _, some _, some _, some _]) ⟨rfl, rfl, rfl, rfl, trivial⟩ ?_
      cases hf
      exact hK.1 _ rfl _
    · replace hf := iteT c39 hf
      refine V_iload_n d_X11_daysTo_42 rfl rfl ?_
      cases hf
      exact R_i ((hK.2 _ rfl).2 _ rfl) d_X11_daysTo_43 (Nat.le_of_ble_eq_true rfl) (Nat.le_of_ble_eq_true rfl)
theorem s_X11_daysTo_j64 {G : Gl} (hG : G.1.stackTraces = false) {C : Cx} {n : Nat} {μ : Mem}  {r : (Int32 × Mem)} (hf : f_X11_daysTo_j64 μ = some r) (hK : FinR G C F_X11_daysTo (some .int) (some (.int r.1)) r.2) : V G C F_X11_daysTo 64 [none, none, none, none] [] (pic G μ) n 0 0 := by
  unfold f_X11_daysTo_j64 at hf
  refine V_iconst (v := (-1)) d_X11_daysTo_64 ic_m1 ?_
  cases hf
  exact R_i hK d_X11_daysTo_65 (Nat.le_of_ble_eq_true rfl) (Nat.le_of_ble_eq_true rfl)
theorem s_X11_daysTo_l23 {G : Gl} (hG : G.1.stackTraces = false) {C : Cx} {n : Nat} {μ : Mem} {l1 : Int32} {l2 : Int32} {l3 : Int32} {r : (Int32 × Mem)} (hf : f_X11_daysTo_l23 μ l1 l2 l3 = some r) (hK : FinR G C F_X11_daysTo (some .int) (some (.int r.1)) r.2) : V G C F_X11_daysTo 23 [some (.ref (G.2.1 + 0)), some (.int l1), some (.int l2), some (.int l3)] [] (pic G μ) n 0 0 := by
  unfold f_X11_daysTo_l23 at hf
  obtain ⟨t, hl, hf⟩ := ob hf
  refine loopV (P := fun z => ∀ n, V G C F_X11_daysTo 23 [some (.ref (G.2.1 + 0)), some (.int l1), some (.int l2), some (.int z.1)] [] (pic G z.2) n 0 0) (t := t) ?_ _ _ hl n
  intro z y' hy hI hT n
  refine s_X11_daysTo_b23 hG hy ⟨hI, fun x9 ex => ?_⟩
  have ex2 := hT x9 ex
  subst ex2
  refine ⟨fun e he => ?_, fun x2 hx => ?_⟩
  · subst he
    intro n
    exact s_X11_daysTo_j64 hG hf hK
  · subst hx
    cases hf
    exact hK
theorem s_X11_daysTo_e {G : Gl} (hG : G.1.stackTraces = false) {C : Cx} {n : Nat} {μ : Mem} {p1 : Int32} {p2 : Int32} {r : (Int32 × Mem)} (hf : f_X11_daysTo μ p1 p2 = some r) (hK : FinR G C F_X11_daysTo (some .int) (some (.int r.1)) r.2) : V G C F_X11_daysTo 0 [some (.ref (G.2.1 + 0)), some (.int p1), some (.int p2), none] [] (pic G μ) n 0 0 := by
  unfold f_X11_daysTo at hf
  refine V_aload_n d_X11_daysTo_0 rfl rfl ?_
  refine B_get k_0 fl_RX11_23 d_X11_daysTo_1 g_11_2 ?_
  refine V_aload_n d_X11_daysTo_4 rfl rfl ?_
  refine B_get k_0 fl_RX11_19 d_X11_daysTo_5 g_11_1 ?_
  obtain ⟨q1, hq1, hf⟩ := ob hf
  refine B_callV0 (s_X2_copyFrom hG L_18 L_3 hq1) k_18 clX2 m_X2_copyFrom kv_RX11_102 d_X11_daysTo_8 rfl (Nat.le_of_ble_eq_true rfl) ⟨rfl, rfl, Nat.le_of_ble_eq_true rfl, Nat.le_of_ble_eq_true rfl, Nat.le_of_ble_eq_true rfl⟩ (fun n => ?_)
  refine V_aload_n d_X11_daysTo_11 rfl rfl ?_
  refine B_get k_0 fl_RX11_23 d_X11_daysTo_12 g_11_2 ?_
  refine B_get k_18 fl_RX11_162 d_X11_daysTo_15 g_2_9 ?_
  refine V_iload_n d_X11_daysTo_18 rfl rfl ?_
  refine V_iload_n d_X11_daysTo_19 rfl rfl ?_
  obtain ⟨μ2, hμ2, hf⟩ := ob hf
  refine B_iast k_22 hμ2 d_X11_daysTo_20 ?_
  refine V_iconst (v := 0) d_X11_daysTo_21 ic_0 ?_
  refine V_istore_n (ls' := [_, _, _, _]) d_X11_daysTo_22 rfl rfl rfl ?_
  refine V_less (ls' := [some _, some _, some _, some _]) ⟨rfl, rfl, rfl, rfl, trivial⟩ ?_
  exact s_X11_daysTo_l23 hG hf hK
theorem s_X11_daysTo {G : Gl} (hG : G.1.stackTraces = false) {μ : Mem} {p1 : Int32} {p2 : Int32} {r : (Int32 × Mem)} (hf : f_X11_daysTo μ p1 p2 = some r) : Rt G yX11_daysTo F_X11_daysTo (some .int) [.ref (G.2.1 + 0), .int p1, .int p2] μ (some (.int r.1)) r.2 := fun n => Sd.of hG ⟨by decide +kernel, rfl, rfl⟩ rfl (Nat.le_of_ble_eq_true rfl) rfl (fun C hK => s_X11_daysTo_e hG hf hK)
theorem d_X11_comes_0 : decode cX11_comes 0 = .ok (.aload_n 0, 1) := by decide +kernel
theorem d_X11_comes_1 : decode cX11_comes 1 = .ok (.iload_n 1, 1) := by decide +kernel
theorem d_X11_comes_2 : decode cX11_comes 2 = .ok (.invokevirtual 149, 3) := by decide +kernel
theorem d_X11_comes_5 : decode cX11_comes 5 = .ok (.aload_n 0, 1) := by decide +kernel
theorem d_X11_comes_6 : decode cX11_comes 6 = .ok (.iload_n 2, 1) := by decide +kernel
theorem d_X11_comes_7 : decode cX11_comes 7 = .ok (.invokevirtual 212, 3) := by decide +kernel
theorem d_X11_comes_10 : decode cX11_comes 10 = .ok (.aload_n 0, 1) := by decide +kernel
theorem d_X11_comes_11 : decode cX11_comes 11 = .ok (.iload_n 1, 1) := by decide +kernel
theorem d_X11_comes_12 : decode cX11_comes 12 = .ok (.iload_n 2, 1) := by decide +kernel
theorem d_X11_comes_13 : decode cX11_comes 13 = .ok (.invokevirtual 294, 3) := by decide +kernel
theorem d_X11_comes_16 : decode cX11_comes 16 = .ok (.ireturn, 1) := by decide +kernel
theorem s_X11_comes_e {G : Gl} (hG : G.1.stackTraces = false) {C : Cx} {n : Nat} {μ : Mem} {p1 : Int32} {p2 : Int32} {r : ((Nat × Mem) ⊕ (Int32 × Mem))} (hf : f_X11_comes μ p1 p2 = some r) (hK : FinX G C F_X11_comes (some .int) (Sum.map id (fun q => (some (.int q.1), q.2)) r)) : V G C F_X11_comes 0 [some (.ref (G.2.1 + 0)), some (.int p1), some (.int p2)] [] (pic G μ) n 0 0 := by
  unfold f_X11_comes at hf
  refine V_aload_n d_X11_comes_0 rfl rfl ?_
  refine V_iload_n d_X11_comes_1 rfl rfl ?_
  obtain ⟨q1, hq1, hf⟩ := ob hf
  cases q1 with
  | inl e9 =>
    obtain ⟨k9, μ9⟩ := e9
    refine B_callVXt (kc' := 1) (ks' := 6) (s_X11_needPerson hG hq1) k_0 clX11 m_X11_needPerson kv_RX11_149 d_X11_comes_2 rfl (Nat.le_of_ble_eq_true rfl) ⟨rfl, rfl, Nat.le_of_ble_eq_true rfl, Nat.le_of_ble_eq_true rfl, Nat.le_of_ble_eq_true rfl⟩ (fun n => ?_)
    cases hf
    exact X_out hK rfl (Nat.le_of_ble_eq_true rfl) (Nat.le_of_ble_eq_true rfl)
  | inr v2 =>
    replace hf := elimR hf
    refine B_callVX0 (kc' := 1) (ks' := 6) (s_X11_needPerson hG hq1) k_0 clX11 m_X11_needPerson kv_RX11_149 d_X11_comes_2 rfl (Nat.le_of_ble_eq_true rfl) ⟨rfl, rfl, Nat.le_of_ble_eq_true rfl, Nat.le_of_ble_eq_true rfl, Nat.le_of_ble_eq_true rfl⟩ (fun n => ?_)
    refine V_aload_n d_X11_comes_5 rfl rfl ?_
    refine V_iload_n d_X11_comes_6 rfl rfl ?_
    obtain ⟨q3, hq3, hf⟩ := ob hf
    cases q3 with
    | inl e9 =>
      obtain ⟨k9, μ9⟩ := e9
      refine B_callVXt (kc' := 2) (ks' := 12) (s_X11_needPlace hG hq3) k_0 clX11 m_X11_needPlace kv_RX11_212 d_X11_comes_7 rfl (Nat.le_of_ble_eq_true rfl) ⟨rfl, rfl, Nat.le_of_ble_eq_true rfl, Nat.le_of_ble_eq_true rfl, Nat.le_of_ble_eq_true rfl⟩ (fun n => ?_)
      cases hf
      exact X_out hK rfl (Nat.le_of_ble_eq_true rfl) (Nat.le_of_ble_eq_true rfl)
    | inr v4 =>
      replace hf := elimR hf
      refine B_callVX0 (kc' := 2) (ks' := 12) (s_X11_needPlace hG hq3) k_0 clX11 m_X11_needPlace kv_RX11_212 d_X11_comes_7 rfl (Nat.le_of_ble_eq_true rfl) ⟨rfl, rfl, Nat.le_of_ble_eq_true rfl, Nat.le_of_ble_eq_true rfl, Nat.le_of_ble_eq_true rfl⟩ (fun n => ?_)
      refine V_aload_n d_X11_comes_10 rfl rfl ?_
      refine V_iload_n d_X11_comes_11 rfl rfl ?_
      refine V_iload_n d_X11_comes_12 rfl rfl ?_
      obtain ⟨q5, hq5, hf⟩ := ob hf
      refine B_callV1 (s_X11_daysTo hG hq5) k_0 clX11 m_X11_daysTo kv_RX11_294 d_X11_comes_13 rfl (Nat.le_of_ble_eq_true rfl) ⟨rfl, rfl, Nat.le_of_ble_eq_true rfl, Nat.le_of_ble_eq_true rfl, Nat.le_of_ble_eq_true rfl⟩ (fun n => ?_)
      cases hf
      exact R_iX hK d_X11_comes_16 (Nat.le_of_ble_eq_true rfl) (Nat.le_of_ble_eq_true rfl)
theorem s_X11_comes {G : Gl} (hG : G.1.stackTraces = false) {μ : Mem} {p1 : Int32} {p2 : Int32} {r : ((Nat × Mem) ⊕ (Int32 × Mem))} (hf : f_X11_comes μ p1 p2 = some r) : Rx G yX11_comes F_X11_comes (.code yX11_comes F_X11_comes.2.1 F_X11_comes.2.2.1 (some .int)) [.ref (G.2.1 + 0), .int p1, .int p2] μ (Sum.map id (fun q => (some (.int q.1), q.2)) r) := fun n => Sd.of hG ⟨by decide +kernel, rfl, rfl⟩ rfl (Nat.le_of_ble_eq_true rfl) rfl (fun C hK => s_X11_comes_e hG hf hK)
theorem d_X11_soonest_0 : decode cX11_soonest 0 = .ok (.aload_n 0, 1) := by decide +kernel
theorem d_X11_soonest_1 : decode cX11_soonest 1 = .ok (.iload_n 1, 1) := by decide +kernel
theorem d_X11_soonest_2 : decode cX11_soonest 2 = .ok (.invokevirtual 212, 3) := by decide +kernel
theorem d_X11_soonest_5 : decode cX11_soonest 5 = .ok (.iconst (-1), 1) := by decide +kernel
theorem d_X11_soonest_6 : decode cX11_soonest 6 = .ok (.istore_n 2, 1) := by decide +kernel
theorem d_X11_soonest_7 : decode cX11_soonest 7 = .ok (.bipush 61, 2) := by decide +kernel
theorem d_X11_soonest_9 : decode cX11_soonest 9 = .ok (.istore_n 3, 1) := by decide +kernel
theorem d_X11_soonest_10 : decode cX11_soonest 10 = .ok (.iconst 0, 1) := by decide +kernel
theorem d_X11_soonest_11 : decode cX11_soonest 11 = .ok (.istore 4, 2) := by decide +kernel
theorem d_X11_soonest_13 : decode cX11_soonest 13 = .ok (.iload 4, 2) := by decide +kernel
theorem d_X11_soonest_15 : decode cX11_soonest 15 = .ok (.aload_n 0, 1) := by decide +kernel
theorem d_X11_soonest_16 : decode cX11_soonest 16 = .ok (.getfield 19, 3) := by decide +kernel
theorem d_X11_soonest_19 : decode cX11_soonest 19 = .ok (.getfield 291, 3) := by decide +kernel
theorem d_X11_soonest_22 : decode cX11_soonest 22 = .ok (.if_icmp .ge 36, 3) := by decide +kernel
theorem d_X11_soonest_25 : decode cX11_soonest 25 = .ok (.aload_n 0, 1) := by decide +kernel
theorem d_X11_soonest_26 : decode cX11_soonest 26 = .ok (.iload 4, 2) := by decide +kernel
theorem d_X11_soonest_28 : decode cX11_soonest 28 = .ok (.iload_n 1, 1) := by decide +kernel
theorem d_X11_soonest_29 : decode cX11_soonest 29 = .ok (.invokevirtual 294, 3) := by decide +kernel
theorem d_X11_soonest_32 : decode cX11_soonest 32 = .ok (.istore 5, 2) := by decide +kernel
theorem d_X11_soonest_34 : decode cX11_soonest 34 = .ok (.iload 5, 2) := by decide +kernel
theorem d_X11_soonest_36 : decode cX11_soonest 36 = .ok (.iconst (-1), 1) := by decide +kernel
theorem d_X11_soonest_37 : decode cX11_soonest 37 = .ok (.if_icmp .eq 15, 3) := by decide +kernel
theorem d_X11_soonest_40 : decode cX11_soonest 40 = .ok (.iload 5, 2) := by decide +kernel
theorem d_X11_soonest_42 : decode cX11_soonest 42 = .ok (.iload_n 3, 1) := by decide +kernel
theorem d_X11_soonest_43 : decode cX11_soonest 43 = .ok (.if_icmp .ge 9, 3) := by decide +kernel
theorem d_X11_soonest_46 : decode cX11_soonest 46 = .ok (.iload 5, 2) := by decide +kernel
theorem d_X11_soonest_48 : decode cX11_soonest 48 = .ok (.istore_n 3, 1) := by decide +kernel
theorem d_X11_soonest_49 : decode cX11_soonest 49 = .ok (.iload 4, 2) := by decide +kernel
theorem d_X11_soonest_51 : decode cX11_soonest 51 = .ok (.istore_n 2, 1) := by decide +kernel
theorem d_X11_soonest_52 : decode cX11_soonest 52 = .ok (.iinc 4 1, 3) := by decide +kernel
theorem d_X11_soonest_55 : decode cX11_soonest 55 = .ok (.goto (-42), 3) := by decide +kernel
theorem d_X11_soonest_58 : decode cX11_soonest 58 = .ok (.iload_n 2, 1) := by decide +kernel
theorem d_X11_soonest_59 : decode cX11_soonest 59 = .ok (.ireturn, 1) := by decide +kernel
theorem s_X11_soonest_j52_13 {G : Gl} (hG : G.1.stackTraces = false) {C : Cx} {n : Nat} {μ : Mem} {l1 : Int32} {l2 : Int32} {l3 : Int32} {l4 : Int32} {y : ((Int32 × Int32 × Int32 × Mem) ⊕ (Int32 × Mem))} (hf : f_X11_soonest_j52_13 μ l1 l2 l3 l4 = some y) (hK : (∀ z', y = .inl z' → ∀ n, V G C F_X11_soonest 13 [some (.ref (G.2.1 + 0)), some (.int l1), some (.int z'.1), some (.int z'.2.1), some (.int z'.2.2.1), none] [] (pic G z'.2.2.2) n 1 6) ∧ (∀ x', y = .inr x' → ∀ n, V G C F_X11_soonest 58 [none, none, some (.int x'.1), none, none, none] [] (pic G x'.2) n 1 6)) : V G C F_X11_soonest 52 [some (.ref (G.2.1 + 0)), some (.int l1), some (.int l2), some (.int l3), some (.int l4), none] [] (pic G μ) n 1 6 := by
  unfold f_X11_soonest_j52_13 at hf
  refine V_iinc (v := (l4 + 1)) (ls' := [_, _, _, _, _, _]) d_X11_soonest_52 rfl (by rw [ic_1]) rfl ?_
  refine V_goto (tgt := 13) d_X11_soonest_55 (by decide) ?_
  refine V_less (ls' := [some _, some _, some _, some _, some _, none]) ⟨rfl, rfl, rfl, rfl, rfl, trivial⟩ ?_
  cases hf
  exact hK.1 _ rfl _
theorem s_X11_soonest_b13 {G : Gl} (hG : G.1.stackTraces = false) {C : Cx} {n : Nat} {μ : Mem} {l1 : Int32} {l2 : Int32} {l3 : Int32} {l4 : Int32} {y : ((Int32 × Int32 × Int32 × Mem) ⊕ (Int32 × Mem))} (hf : f_X11_soonest_b13 μ l1 l2 l3 l4 = some y) (hK : (∀ z', y = .inl z' → ∀ n, V G C F_X11_soonest 13 [some (.ref (G.2.1 + 0)), some (.int l1), some (.int z'.1), some (.int z'.2.1), some (.int z'.2.2.1), none] [] (pic G z'.2.2.2) n 1 6) ∧ (∀ x', y = .inr x' → ∀ n, V G C F_X11_soonest 58 [none, none, some (.int x'.1), none, none, none] [] (pic G x'.2) n 1 6)) : V G C F_X11_soonest 13 [some (.ref (G.2.1 + 0)), some (.int l1), some (.int l2), some (.int l3), some (.int l4), none] [] (pic G μ) n 1 6 := by
  unfold f_X11_soonest_b13 at hf
  refine V_iload d_X11_soonest_13 rfl ?_
  refine V_aload_n d_X11_soonest_15 rfl rfl ?_
  refine B_get k_0 fl_RX11_19 d_X11_soonest_16 g_11_1 ?_
  refine B_get k_3 fl_RX11_291 d_X11_soonest_19 g_2_0 ?_
  refine V_icmp_ge (tgt := 58) d_X11_soonest_22 (by decide) (fun c22 => ?_) (fun c22 => ?_)
  · replace hf := iteT c22 hf
    refine V_less (ls' := [none, none, some _, none, none, none]) ⟨rfl, trivial⟩ ?_
    cases hf
    exact hK.2 _ rfl _
  · replace hf := iteF c22 hf
    refine V_aload_n d_X11_soonest_25 rfl rfl ?_
    refine V_iload d_X11_soonest_26 rfl ?_
    refine V_iload_n d_X11_soonest_28 rfl rfl ?_
    obtain ⟨q1, hq1, hf⟩ := ob hf
    refine B_callV1 (s_X11_daysTo hG hq1) k_0 clX11 m_X11_daysTo kv_RX11_294 d_X11_soonest_29 rfl (Nat.le_of_ble_eq_true rfl) ⟨rfl, rfl, Nat.le_of_ble_eq_true rfl, Nat.le_of_ble_eq_true rfl, Nat.le_of_ble_eq_true rfl⟩ (fun n => ?_)
    refine V_istore (ls' := [_, _, _, _, _, _]) d_X11_soonest_32 rfl rfl ?_
    refine V_iload d_X11_soonest_34 rfl ?_
    refine V_iconst (v := (-1)) d_X11_soonest_36 ic_m1 ?_
    refine V_icmp_eq (tgt := 52) d_X11_soonest_37 (by decide) (fun c37 => ?_) (fun c37 => ?_)
    · replace hf := iteT c37 hf
      refine V_less (ls' := [some _, some _, some _, some _, some _, none]) ⟨rfl, rfl, rfl, rfl, rfl, trivial⟩ ?_
      exact s_X11_soonest_j52_13 hG hf hK
    · replace hf := iteF c37 hf
      refine V_iload d_X11_soonest_40 rfl ?_
      refine V_iload_n d_X11_soonest_42 rfl rfl ?_
      refine V_icmp_ge (tgt := 52) d_X11_soonest_43 (by decide) (fun c43 => ?_) (fun c43 => ?_)
      · replace hf := iteT c43 hf
        refine V_less (ls' := [some _, some _, some _, some _, some _, none]) ⟨rfl, rfl, rfl, rfl, rfl, trivial⟩ ?_
        exact s_X11_soonest_j52_13 hG hf hK
      · replace hf := iteF c43 hf
        refine V_iload d_X11_soonest_46 rfl ?_
        refine V_istore_n (ls' := [_, _, _, _, _, _]) d_X11_soonest_48 rfl rfl rfl ?_
        refine V_iload d_X11_soonest_49 rfl ?_
        refine V_istore_n (ls' := [_, _, _, _, _, _]) d_X11_soonest_51 rfl rfl rfl ?_
        refine V_less (ls' := [some _, some _, some _, some _, some _, none]) ⟨rfl, rfl, rfl, rfl, rfl, trivial⟩ ?_
        exact s_X11_soonest_j52_13 hG hf hK
theorem s_X11_soonest_j58 {G : Gl} (hG : G.1.stackTraces = false) {C : Cx} {n : Nat} {μ : Mem} {l2 : Int32} {r : ((Nat × Mem) ⊕ (Int32 × Mem))} (hf : f_X11_soonest_j58 μ l2 = some r) (hK : FinX G C F_X11_soonest (some .int) (Sum.map id (fun q => (some (.int q.1), q.2)) r)) : V G C F_X11_soonest 58 [none, none, some (.int l2), none, none, none] [] (pic G μ) n 1 6 := by
  unfold f_X11_soonest_j58 at hf
  refine V_iload_n d_X11_soonest_58 rfl rfl ?_
  cases hf
  exact R_iX hK d_X11_soonest_59 (Nat.le_of_ble_eq_true rfl) (Nat.le_of_ble_eq_true rfl)
theorem s_X11_soonest_l13 {G : Gl} (hG : G.1.stackTraces = false) {C : Cx} {n : Nat} {μ : Mem} {l1 : Int32} {l2 : Int32} {l3 : Int32} {l4 : Int32} {r : ((Nat × Mem) ⊕ (Int32 × Mem))} (hf : f_X11_soonest_l13 μ l1 l2 l3 l4 = some r) (hK : FinX G C F_X11_soonest (some .int) (Sum.map id (fun q => (some (.int q.1), q.2)) r)) : V G C F_X11_soonest 13 [some (.ref (G.2.1 + 0)), some (.int l1), some (.int l2), some (.int l3), some (.int l4), none] [] (pic G μ) n 1 6 := by
  unfold f_X11_soonest_l13 at hf
  obtain ⟨t, hl, hf⟩ := ob hf
  refine loopV (P := fun z => ∀ n, V G C F_X11_soonest 13 [some (.ref (G.2.1 + 0)), some (.int l1), some (.int z.1), some (.int z.2.1), some (.int z.2.2.1), none] [] (pic G z.2.2.2) n 1 6) (t := t) ?_ _ _ hl n
  intro z y' hy hI hT n
  refine s_X11_soonest_b13 hG hy ⟨hI, fun x9 ex => ?_⟩
  have ex2 := hT x9 ex
  subst ex2
  intro n
  exact s_X11_soonest_j58 hG hf hK
theorem s_X11_soonest_e {G : Gl} (hG : G.1.stackTraces = false) {C : Cx} {n : Nat} {μ : Mem} {p1 : Int32} {r : ((Nat × Mem) ⊕ (Int32 × Mem))} (hf : f_X11_soonest μ p1 = some r) (hK : FinX G C F_X11_soonest (some .int) (Sum.map id (fun q => (some (.int q.1), q.2)) r)) : V G C F_X11_soonest 0 [some (.ref (G.2.1 + 0)), some (.int p1), none, none, none, none] [] (pic G μ) n 0 0 := by
  unfold f_X11_soonest at hf
  refine V_aload_n d_X11_soonest_0 rfl rfl ?_
  refine V_iload_n d_X11_soonest_1 rfl rfl ?_
  obtain ⟨q1, hq1, hf⟩ := ob hf
  cases q1 with
  | inl e9 =>
    obtain ⟨k9, μ9⟩ := e9
    refine B_callVXt (kc' := 1) (ks' := 6) (s_X11_needPlace hG hq1) k_0 clX11 m_X11_needPlace kv_RX11_212 d_X11_soonest_2 rfl (Nat.le_of_ble_eq_true rfl) ⟨rfl, rfl, Nat.le_of_ble_eq_true rfl, Nat.le_of_ble_eq_true rfl, Nat.le_of_ble_eq_true rfl⟩ (fun n => ?_)
    cases hf
    exact X_out hK rfl (Nat.le_of_ble_eq_true rfl) (Nat.le_of_ble_eq_true rfl)
  | inr v2 =>
    replace hf := elimR hf
    refine B_callVX0 (kc' := 1) (ks' := 6) (s_X11_needPlace hG hq1) k_0 clX11 m_X11_needPlace kv_RX11_212 d_X11_soonest_2 rfl (Nat.le_of_ble_eq_true rfl) ⟨rfl, rfl, Nat.le_of_ble_eq_true rfl, Nat.le_of_ble_eq_true rfl, Nat.le_of_ble_eq_true rfl⟩ (fun n => ?_)
    refine V_iconst (v := (-1)) d_X11_soonest_5 ic_m1 ?_
    refine V_istore_n (ls' := [_, _, _, _, _, _]) d_X11_soonest_6 rfl rfl rfl ?_
    refine V_bipush (v := 61) d_X11_soonest_7 bp_61 ?_
    refine V_istore_n (ls' := [_, _, _, _, _, _]) d_X11_soonest_9 rfl rfl rfl ?_
    refine V_iconst (v := 0) d_X11_soonest_10 ic_0 ?_
    refine V_istore (ls' := [_, _, _, _, _, _]) d_X11_soonest_11 rfl rfl ?_
    refine V_less (ls' := [some _, some _, some _, some _, some _, none]) ⟨rfl, rfl, rfl, rfl, rfl, trivial⟩ ?_
    exact s_X11_soonest_l13 hG hf hK
theorem s_X11_soonest {G : Gl} (hG : G.1.stackTraces = false) {μ : Mem} {p1 : Int32} {r : ((Nat × Mem) ⊕ (Int32 × Mem))} (hf : f_X11_soonest μ p1 = some r) : Rx G yX11_soonest F_X11_soonest (.code yX11_soonest F_X11_soonest.2.1 F_X11_soonest.2.2.1 (some .int)) [.ref (G.2.1 + 0), .int p1] μ (Sum.map id (fun q => (some (.int q.1), q.2)) r) := fun n => Sd.of hG ⟨by decide +kernel, rfl, rfl⟩ rfl (Nat.le_of_ble_eq_true rfl) rfl (fun C hK => s_X11_soonest_e hG hf hK)
theorem d_X11_tellsPlaces_0 : decode cX11_tellsPlaces 0 = .ok (.iload_n 1, 1) := by decide +kernel
theorem d_X11_tellsPlaces_1 : decode cX11_tellsPlaces 1 = .ok (.aload_n 0, 1) := by decide +kernel
theorem d_X11_tellsPlaces_2 : decode cX11_tellsPlaces 2 = .ok (.getfield 19, 3) := by decide +kernel
theorem d_X11_tellsPlaces_5 : decode cX11_tellsPlaces 5 = .ok (.getfield 291, 3) := by decide +kernel
theorem d_X11_tellsPlaces_8 : decode cX11_tellsPlaces 8 = .ok (.if_icmp .eq 5, 3) := by decide +kernel
theorem d_X11_tellsPlaces_11 : decode cX11_tellsPlaces 11 = .ok (.iconst 0, 1) := by decide +kernel
theorem d_X11_tellsPlaces_12 : decode cX11_tellsPlaces 12 = .ok (.ireturn, 1) := by decide +kernel
theorem d_X11_tellsPlaces_13 : decode cX11_tellsPlaces 13 = .ok (.iconst 0, 1) := by decide +kernel
theorem d_X11_tellsPlaces_14 : decode cX11_tellsPlaces 14 = .ok (.istore_n 2, 1) := by decide +kernel
theorem d_X11_tellsPlaces_15 : decode cX11_tellsPlaces 15 = .ok (.iload_n 2, 1) := by decide +kernel
theorem d_X11_tellsPlaces_16 : decode cX11_tellsPlaces 16 = .ok (.iload_n 1, 1) := by decide +kernel
theorem d_X11_tellsPlaces_17 : decode cX11_tellsPlaces 17 = .ok (.if_icmp .ge 25, 3) := by decide +kernel
theorem d_X11_tellsPlaces_20 : decode cX11_tellsPlaces 20 = .ok (.aload_n 0, 1) := by decide +kernel
theorem d_X11_tellsPlaces_21 : decode cX11_tellsPlaces 21 = .ok (.getfield 10, 3) := by decide +kernel
theorem d_X11_tellsPlaces_24 : decode cX11_tellsPlaces 24 = .ok (.getfield 307, 3) := by decide +kernel
theorem d_X11_tellsPlaces_27 : decode cX11_tellsPlaces 27 = .ok (.iload_n 2, 1) := by decide +kernel
theorem d_X11_tellsPlaces_28 : decode cX11_tellsPlaces 28 = .ok (.iaload, 1) := by decide +kernel
theorem d_X11_tellsPlaces_29 : decode cX11_tellsPlaces 29 = .ok (.bipush 20, 2) := by decide +kernel
theorem d_X11_tellsPlaces_31 : decode cX11_tellsPlaces 31 = .ok (.if_icmp .lt 5, 3) := by decide +kernel
theorem d_X11_tellsPlaces_34 : decode cX11_tellsPlaces 34 = .ok (.iconst 0, 1) := by decide +kernel
theorem d_X11_tellsPlaces_35 : decode cX11_tellsPlaces 35 = .ok (.ireturn, 1) := by decide +kernel
theorem d_X11_tellsPlaces_36 : decode cX11_tellsPlaces 36 = .ok (.iinc 2 1, 3) := by decide +kernel
theorem d_X11_tellsPlaces_39 : decode cX11_tellsPlaces 39 = .ok (.goto (-24), 3) := by decide +kernel
theorem d_X11_tellsPlaces_42 : decode cX11_tellsPlaces 42 = .ok (.iconst 1, 1) := by decide +kernel
theorem d_X11_tellsPlaces_43 : decode cX11_tellsPlaces 43 = .ok (.ireturn, 1) := by decide +kernel
theorem s_X11_tellsPlaces_b15 {G : Gl} (hG : G.1.stackTraces = false) {C : Cx} {n : Nat} {μ : Mem} {l1 : Int32} {l2 : Int32} {y : (Int32 ⊕ (Unit ⊕ Bool))} (hf : f_X11_tellsPlaces_b15 μ l1 l2 = some y) (hK : (∀ z', y = .inl z' → ∀ n, V G C F_X11_tellsPlaces 15 [some (.ref (G.2.1 + 0)), some (.int l1), some (.int z')] [] (pic G μ) n 0 0) ∧ (∀ x', y = .inr x' → ((∀ x'', x' = .inl x'' → ∀ n, V G C F_X11_tellsPlaces 42 [none, none, none] [] (pic G μ) n 0 0) ∧ (∀ x''', x' = .inr x''' → FinR G C F_X11_tellsPlaces (some .boolean) (some (.int (b2i x'''))) μ)))) : V G C F_X11_tellsPlaces 15 [some (.ref (G.2.1 + 0)), some (.int l1), some (.int l2)] [] (pic G μ) n 0 0 := by
  unfold f_X11_tellsPlaces_b15 at hf
  refine V_iload_n d_X11_tellsPlaces_15 rfl rfl ?_
  refine V_iload_n d_X11_tellsPlaces_16 rfl rfl ?_
  refine V_icmp_ge (tgt := 42) d_X11_tellsPlaces_17 (by decide) (fun c17 => ?_) (fun c17 => ?_)
  · replace hf := iteT c17 hf
    refine V_less (ls' := [none, none, none]) trivial ?_
    cases hf
    exact (hK.2 _ rfl).1 _ rfl _
  · replace hf := iteF c17 hf
    refine V_aload_n d_X11_tellsPlaces_20 rfl rfl ?_
    refine B_get k_0 fl_RX11_10 d_X11_tellsPlaces_21 g_11_0 ?_
    refine B_get k_1 fl_RX11_307 d_X11_tellsPlaces_24 g_8_0 ?_
    refine V_iload_n d_X11_tellsPlaces_27 rfl rfl ?_
    obtain ⟨t1, ht1, hf⟩ := ob hf
    refine B_iald k_2 ht1 d_X11_tellsPlaces_28 ?_
    refine V_bipush (v := 20) d_X11_tellsPlaces_29 bp_20 ?_
    refine V_icmp_lt (tgt := 36) d_X11_tellsPlaces_31 (by decide) (fun c31 => ?_) (fun c31 => ?_)
    · replace hf := iteT c31 hf
      refine V_iinc (v := (l2 + 1)) (ls' := [_, _, _]) d_X11_tellsPlaces_36 rfl (by rw [ic_1]) rfl ?_
      refine V_goto (tgt := 15) d_X11_tellsPlaces_39 (by decide) ?_
      refine V_less (ls' := [some _, some _, some _]) ⟨rfl, rfl, rfl, trivial⟩ ?_
      cases hf
      exact hK.1 _ rfl _
    · replace hf := iteF c31 hf
      refine V_iconst (v := 0) d_X11_tellsPlaces_34 ic_0 ?_
      cases hf
      exact R_z ((hK.2 _ rfl).2 _ rfl) d_X11_tellsPlaces_35 (Nat.le_of_ble_eq_true rfl) (Nat.le_of_ble_eq_true rfl)
theorem s_X11_tellsPlaces_j42 {G : Gl} (hG : G.1.stackTraces = false) {C : Cx} {n : Nat} {μ : Mem}  {r : Bool} (hf : f_X11_tellsPlaces_j42 μ = some r) (hK : FinR G C F_X11_tellsPlaces (some .boolean) (some (.int (b2i r))) μ) : V G C F_X11_tellsPlaces 42 [none, none, none] [] (pic G μ) n 0 0 := by
  unfold f_X11_tellsPlaces_j42 at hf
  refine V_iconst (v := 1) d_X11_tellsPlaces_42 ic_1 ?_
  cases hf
  exact R_z hK d_X11_tellsPlaces_43 (Nat.le_of_ble_eq_true rfl) (Nat.le_of_ble_eq_true rfl)
theorem s_X11_tellsPlaces_l15 {G : Gl} (hG : G.1.stackTraces = false) {C : Cx} {n : Nat} {μ : Mem} {l1 : Int32} {l2 : Int32} {r : Bool} (hf : f_X11_tellsPlaces_l15 μ l1 l2 = some r) (hK : FinR G C F_X11_tellsPlaces (some .boolean) (some (.int (b2i r))) μ) : V G C F_X11_tellsPlaces 15 [some (.ref (G.2.1 + 0)), some (.int l1), some (.int l2)] [] (pic G μ) n 0 0 := by
  unfold f_X11_tellsPlaces_l15 at hf
  obtain ⟨t, hl, hf⟩ := ob hf
  refine loopV (P := fun z => ∀ n, V G C F_X11_tellsPlaces 15 [some (.ref (G.2.1 + 0)), some (.int l1), some (.int z)] [] (pic G μ) n 0 0) (t := t) ?_ _ _ hl n
  intro z y' hy hI hT n
  refine s_X11_tellsPlaces_b15 hG hy ⟨hI, fun x9 ex => ?_⟩
  have ex2 := hT x9 ex
  subst ex2
  refine ⟨fun e he => ?_, fun x2 hx => ?_⟩
  · subst he
    intro n
    exact s_X11_tellsPlaces_j42 hG hf hK
  · subst hx
    cases hf
    exact hK
theorem s_X11_tellsPlaces_e {G : Gl} (hG : G.1.stackTraces = false) {C : Cx} {n : Nat} {μ : Mem} {p1 : Int32} {r : Bool} (hf : f_X11_tellsPlaces μ p1 = some r) (hK : FinR G C F_X11_tellsPlaces (some .boolean) (some (.int (b2i r))) μ) : V G C F_X11_tellsPlaces 0 [some (.ref (G.2.1 + 0)), some (.int p1), none] [] (pic G μ) n 0 0 := by
  unfold f_X11_tellsPlaces at hf
  refine V_iload_n d_X11_tellsPlaces_0 rfl rfl ?_
  refine V_aload_n d_X11_tellsPlaces_1 rfl rfl ?_
  refine B_get k_0 fl_RX11_19 d_X11_tellsPlaces_2 g_11_1 ?_
  refine B_get k_3 fl_RX11_291 d_X11_tellsPlaces_5 g_2_0 ?_
  refine V_icmp_eq (tgt := 13) d_X11_tellsPlaces_8 (by decide) (fun c8 => ?_) (fun c8 => ?_)
  · replace hf := iteT c8 hf
    refine V_iconst (v := 0) d_X11_tellsPlaces_13 ic_0 ?_
    refine V_istore_n (ls' := [_, _, _]) d_X11_tellsPlaces_14 rfl rfl rfl ?_
    refine V_less (ls' := [some _, some _, some _]) ⟨rfl, rfl, rfl, trivial⟩ ?_
    exact s_X11_tellsPlaces_l15 hG hf hK
  · replace hf := iteF c8 hf
    refine V_iconst (v := 0) d_X11_tellsPlaces_11 ic_0 ?_
    cases hf
    exact R_z hK d_X11_tellsPlaces_12 (Nat.le_of_ble_eq_true rfl) (Nat.le_of_ble_eq_true rfl)
theorem s_X11_tellsPlaces {G : Gl} (hG : G.1.stackTraces = false) {μ : Mem} {p1 : Int32} {r : Bool} (hf : f_X11_tellsPlaces μ p1 = some r) : Rt G yX11_tellsPlaces F_X11_tellsPlaces (some .boolean) [.ref (G.2.1 + 0), .int p1] μ (some (.int (b2i r))) μ := fun n => Sd.of hG ⟨by decide +kernel, rfl, rfl⟩ rfl (Nat.le_of_ble_eq_true rfl) rfl (fun C hK => s_X11_tellsPlaces_e hG hf hK)
theorem d_X11_carry_0 : decode cX11_carry 0 = .ok (.aload_n 0, 1) := by decide +kernel
theorem d_X11_carry_1 : decode cX11_carry 1 = .ok (.getfield 10, 3) := by decide +kernel
theorem d_X11_carry_4 : decode cX11_carry 4 = .ok (.invokevirtual 298, 3) := by decide +kernel
theorem d_X11_carry_7 : decode cX11_carry 7 = .ok (.istore_n 2, 1) := by decide +kernel
theorem d_X11_carry_8 : decode cX11_carry 8 = .ok (.iload_n 1, 1) := by decide +kernel
theorem d_X11_carry_9 : decode cX11_carry 9 = .ok (.iconst (-1), 1) := by decide +kernel
theorem d_X11_carry_10 : decode cX11_carry 10 = .ok (.if_icmp .eq 8, 3) := by decide +kernel
theorem d_X11_carry_13 : decode cX11_carry 13 = .ok (.aload_n 0, 1) := by decide +kernel
theorem d_X11_carry_14 : decode cX11_carry 14 = .ok (.iload_n 1, 1) := by decide +kernel
theorem d_X11_carry_15 : decode cX11_carry 15 = .ok (.invokevirtual 149, 3) := by decide +kernel
theorem d_X11_carry_18 : decode cX11_carry 18 = .ok (.aload_n 0, 1) := by decide +kernel
theorem d_X11_carry_19 : decode cX11_carry 19 = .ok (.iload_n 2, 1) := by decide +kernel
theorem d_X11_carry_20 : decode cX11_carry 20 = .ok (.invokevirtual 302, 3) := by decide +kernel
theorem d_X11_carry_23 : decode cX11_carry 23 = .ok (.ifCond .ne 14, 3) := by decide +kernel
theorem d_X11_carry_26 : decode cX11_carry 26 = .ok (.new 113, 3) := by decide +kernel
theorem d_X11_carry_29 : decode cX11_carry 29 = .ok (.dup, 1) := by decide +kernel
theorem d_X11_carry_30 : decode cX11_carry 30 = .ok (.ldc_w 305, 3) := by decide +kernel
theorem d_X11_carry_33 : decode cX11_carry 33 = .ok (.invokespecial 117, 3) := by decide +kernel
theorem d_X11_carry_36 : decode cX11_carry 36 = .ok (.athrow, 1) := by decide +kernel
theorem d_X11_carry_37 : decode cX11_carry 37 = .ok (.iconst 0, 1) := by decide +kernel
theorem d_X11_carry_38 : decode cX11_carry 38 = .ok (.istore_n 3, 1) := by decide +kernel
theorem d_X11_carry_39 : decode cX11_carry 39 = .ok (.iload_n 3, 1) := by decide +kernel
theorem d_X11_carry_40 : decode cX11_carry 40 = .ok (.aload_n 0, 1) := by decide +kernel
theorem d_X11_carry_41 : decode cX11_carry 41 = .ok (.getfield 19, 3) := by decide +kernel
theorem d_X11_carry_44 : decode cX11_carry 44 = .ok (.getfield 291, 3) := by decide +kernel
theorem d_X11_carry_47 : decode cX11_carry 47 = .ok (.if_icmp .ge 55, 3) := by decide +kernel
theorem d_X11_carry_50 : decode cX11_carry 50 = .ok (.iconst 0, 1) := by decide +kernel
theorem d_X11_carry_51 : decode cX11_carry 51 = .ok (.istore 4, 2) := by decide +kernel
theorem d_X11_carry_53 : decode cX11_carry 53 = .ok (.iload 4, 2) := by decide +kernel
theorem d_X11_carry_55 : decode cX11_carry 55 = .ok (.aload_n 0, 1) := by decide +kernel
theorem d_X11_carry_56 : decode cX11_carry 56 = .ok (.getfield 19, 3) := by decide +kernel
theorem d_X11_carry_59 : decode cX11_carry 59 = .ok (.getfield 291, 3) := by decide +kernel
theorem d_X11_carry_62 : decode cX11_carry 62 = .ok (.if_icmp .ge 34, 3) := by decide +kernel
theorem d_X11_carry_65 : decode cX11_carry 65 = .ok (.aload_n 0, 1) := by decide +kernel
theorem d_X11_carry_66 : decode cX11_carry 66 = .ok (.getfield 77, 3) := by decide +kernel
theorem d_X11_carry_69 : decode cX11_carry 69 = .ok (.iload_n 3, 1) := by decide +kernel
theorem d_X11_carry_70 : decode cX11_carry 70 = .ok (.iload 4, 2) := by decide +kernel
theorem d_X11_carry_72 : decode cX11_carry 72 = .ok (.aload_n 0, 1) := by decide +kernel
theorem d_X11_carry_73 : decode cX11_carry 73 = .ok (.iload_n 3, 1) := by decide +kernel
theorem d_X11_carry_74 : decode cX11_carry 74 = .ok (.aload_n 0, 1) := by decide +kernel
theorem d_X11_carry_75 : decode cX11_carry 75 = .ok (.getfield 10, 3) := by decide +kernel
theorem d_X11_carry_78 : decode cX11_carry 78 = .ok (.getfield 307, 3) := by decide +kernel
theorem d_X11_carry_81 : decode cX11_carry 81 = .ok (.iload 4, 2) := by decide +kernel
theorem d_X11_carry_83 : decode cX11_carry 83 = .ok (.iaload, 1) := by decide +kernel
theorem d_X11_carry_84 : decode cX11_carry 84 = .ok (.invokevirtual 294, 3) := by decide +kernel
theorem d_X11_carry_87 : decode cX11_carry 87 = .ok (.invokevirtual 310, 3) := by decide +kernel
theorem d_X11_carry_90 : decode cX11_carry 90 = .ok (.iinc 4 1, 3) := by decide +kernel
theorem d_X11_carry_93 : decode cX11_carry 93 = .ok (.goto (-40), 3) := by decide +kernel
theorem d_X11_carry_96 : decode cX11_carry 96 = .ok (.iinc 3 1, 3) := by decide +kernel
theorem d_X11_carry_99 : decode cX11_carry 99 = .ok (.goto (-60), 3) := by decide +kernel
theorem d_X11_carry_102 : decode cX11_carry 102 = .ok (.aload_n 0, 1) := by decide +kernel
theorem d_X11_carry_103 : decode cX11_carry 103 = .ok (.getfield 77, 3) := by decide +kernel
theorem d_X11_carry_106 : decode cX11_carry 106 = .ok (.aload_n 0, 1) := by decide +kernel
theorem d_X11_carry_107 : decode cX11_carry 107 = .ok (.getfield 19, 3) := by decide +kernel
theorem d_X11_carry_110 : decode cX11_carry 110 = .ok (.getfield 291, 3) := by decide +kernel
theorem d_X11_carry_113 : decode cX11_carry 113 = .ok (.invokevirtual 314, 3) := by decide +kernel
theorem d_X11_carry_116 : decode cX11_carry 116 = .ok (.iload_n 1, 1) := by decide +kernel
theorem d_X11_carry_117 : decode cX11_carry 117 = .ok (.iconst (-1), 1) := by decide +kernel
theorem d_X11_carry_118 : decode cX11_carry 118 = .ok (.if_icmp .ne 13, 3) := by decide +kernel
theorem d_X11_carry_121 : decode cX11_carry 121 = .ok (.aload_n 0, 1) := by decide +kernel
theorem d_X11_carry_122 : decode cX11_carry 122 = .ok (.getfield 77, 3) := by decide +kernel
theorem d_X11_carry_125 : decode cX11_carry 125 = .ok (.invokevirtual 317, 3) := by decide +kernel
theorem d_X11_carry_128 : decode cX11_carry 128 = .ok (.goto 11, 3) := by decide +kernel
theorem d_X11_carry_131 : decode cX11_carry 131 = .ok (.aload_n 0, 1) := by decide +kernel
theorem d_X11_carry_132 : decode cX11_carry 132 = .ok (.getfield 77, 3) := by decide +kernel
theorem d_X11_carry_135 : decode cX11_carry 135 = .ok (.iload_n 1, 1) := by decide +kernel
theorem d_X11_carry_136 : decode cX11_carry 136 = .ok (.invokevirtual 320, 3) := by decide +kernel
theorem d_X11_carry_139 : decode cX11_carry 139 = .ok (.ireturn, 1) := by decide +kernel
theorem s_X11_carry_b53 {G : Gl} (hG : G.1.stackTraces = false) {C : Cx} {n : Nat} {μ : Mem} {l1 : Int32} {l3 : Int32} {l4 : Int32} {y : ((Int32 × Mem) ⊕ Mem)} (hf : f_X11_carry_b53 μ l1 l3 l4 = some y) (hK : (∀ z', y = .inl z' → ∀ n, V G C F_X11_carry 53 [some (.ref (G.2.1 + 0)), some (.int l1), none, some (.int l3), some (.int z'.1)] [] (pic G z'.2) n 2 12) ∧ (∀ x', y = .inr x' → ∀ n, V G C F_X11_carry 96 [some (.ref (G.2.1 + 0)), some (.int l1), none, some (.int l3), none] [] (pic G x') n 2 12)) : V G C F_X11_carry 53 [some (.ref (G.2.1 + 0)), some (.int l1), none, some (.int l3), some (.int l4)] [] (pic G μ) n 2 12 := by
  unfold f_X11_carry_b53 at hf
  refine V_iload d_X11_carry_53 rfl ?_
  refine V_aload_n d_X11_carry_55 rfl rfl ?_
  refine B_get k_0 fl_RX11_19 d_X11_carry_56 g_11_1 ?_
  refine B_get k_3 fl_RX11_291 d_X11_carry_59 g_2_0 ?_
  refine V_icmp_ge (tgt := 96) d_X11_carry_62 (by decide) (fun c62 => ?_) (fun c62 => ?_)
  · replace hf := iteT c62 hf
    refine V_less (ls' := [some _, some _, none, some _, none]) ⟨rfl, rfl, rfl, trivial⟩ ?_
    cases hf
    exact hK.2 _ rfl _
  · replace hf := iteF c62 hf
    refine V_aload_n d_X11_carry_65 rfl rfl ?_
    refine B_get k_0 fl_RX11_77 d_X11_carry_66 g_11_11 ?_
    refine V_iload_n d_X11_carry_69 rfl rfl ?_
    refine V_iload d_X11_carry_70 rfl ?_
    refine V_aload_n d_X11_carry_72 rfl rfl ?_
    refine V_iload_n d_X11_carry_73 rfl rfl ?_
    refine V_aload_n d_X11_carry_74 rfl rfl ?_
    refine B_get k_0 fl_RX11_10 d_X11_carry_75 g_11_0 ?_
    refine B_get k_1 fl_RX11_307 d_X11_carry_78 g_8_0 ?_
    refine V_iload d_X11_carry_81 rfl ?_
    obtain ⟨t1, ht1, hf⟩ := ob hf
    refine B_iald k_2 ht1 d_X11_carry_83 ?_
    obtain ⟨q2, hq2, hf⟩ := ob hf
    refine B_callV1 (s_X11_daysTo hG hq2) k_0 clX11 m_X11_daysTo kv_RX11_294 d_X11_carry_84 rfl (Nat.le_of_ble_eq_true rfl) ⟨rfl, rfl, Nat.le_of_ble_eq_true rfl, Nat.le_of_ble_eq_true rfl, Nat.le_of_ble_eq_true rfl⟩ (fun n => ?_)
    obtain ⟨q3, hq3, hf⟩ := ob hf
    refine B_callV0 (s_X9_tell hG hq3) k_259 clX9 m_X9_tell kv_RX11_310 d_X11_carry_87 rfl (Nat.le_of_ble_eq_true rfl) ⟨rfl, rfl, Nat.le_of_ble_eq_true rfl, Nat.le_of_ble_eq_true rfl, Nat.le_of_ble_eq_true rfl⟩ (fun n => ?_)
    refine V_iinc (v := (l4 + 1)) (ls' := [_, _, _, _, _]) d_X11_carry_90 rfl (by rw [ic_1]) rfl ?_
    refine V_goto (tgt := 53) d_X11_carry_93 (by decide) ?_
    refine V_less (ls' := [some _, some _, none, some _, some _]) ⟨rfl, rfl, rfl, rfl, trivial⟩ ?_
    cases hf
    exact hK.1 _ rfl _
theorem s_X11_carry_j96_39 {G : Gl} (hG : G.1.stackTraces = false) {C : Cx} {n : Nat} {μ : Mem} {l1 : Int32} {l3 : Int32} {y : ((Int32 × Mem) ⊕ Mem)} (hf : f_X11_carry_j96_39 μ l1 l3 = some y) (hK : (∀ z', y = .inl z' → ∀ n, V G C F_X11_carry 39 [some (.ref (G.2.1 + 0)), some (.int l1), none, some (.int z'.1), none] [] (pic G z'.2) n 2 12) ∧ (∀ x', y = .inr x' → ∀ n, V G C F_X11_carry 102 [some (.ref (G.2.1 + 0)), some (.int l1), none, none, none] [] (pic G x') n 2 12)) : V G C F_X11_carry 96 [some (.ref (G.2.1 + 0)), some (.int l1), none, some (.int l3), none] [] (pic G μ) n 2 12 := by
  unfold f_X11_carry_j96_39 at hf
  refine V_iinc (v := (l3 + 1)) (ls' := [_, _, _, _, _]) d_X11_carry_96 rfl (by rw [ic_1]) rfl ?_
  refine V_goto (tgt := 39) d_X11_carry_99 (by decide) ?_
  refine V_less (ls' := [some _, some _, none, some _, none]) ⟨rfl, rfl, rfl, trivial⟩ ?_
  cases hf
  exact hK.1 _ rfl _
theorem s_X11_carry_l53 {G : Gl} (hG : G.1.stackTraces = false) {C : Cx} {n : Nat} {μ : Mem} {l1 : Int32} {l3 : Int32} {l4 : Int32} {y : ((Int32 × Mem) ⊕ Mem)} (hf : f_X11_carry_l53 μ l1 l3 l4 = some y) (hK : (∀ z', y = .inl z' → ∀ n, V G C F_X11_carry 39 [some (.ref (G.2.1 + 0)), some (.int l1), none, some (.int z'.1), none] [] (pic G z'.2) n 2 12) ∧ (∀ x', y = .inr x' → ∀ n, V G C F_X11_carry 102 [some (.ref (G.2.1 + 0)), some (.int l1), none, none, none] [] (pic G x') n 2 12)) : V G C F_X11_carry 53 [some (.ref (G.2.1 + 0)), some (.int l1), none, some (.int l3), some (.int l4)] [] (pic G μ) n 2 12 := by
  unfold f_X11_carry_l53 at hf
  obtain ⟨t, hl, hf⟩ := ob hf
  refine loopV (P := fun z => ∀ n, V G C F_X11_carry 53 [some (.ref (G.2.1 + 0)), some (.int l1), none, some (.int l3), some (.int z.1)] [] (pic G z.2) n 2 12) (t := t) ?_ _ _ hl n
  intro z y' hy hI hT n
  refine s_X11_carry_b53 hG hy ⟨hI, fun x9 ex => ?_⟩
  have ex2 := hT x9 ex
  subst ex2
  intro n
  exact s_X11_carry_j96_39 hG hf hK
theorem s_X11_carry_b39 {G : Gl} (hG : G.1.stackTraces = false) {C : Cx} {n : Nat} {μ : Mem} {l1 : Int32} {l3 : Int32} {y : ((Int32 × Mem) ⊕ Mem)} (hf : f_X11_carry_b39 μ l1 l3 = some y) (hK : (∀ z', y = .inl z' → ∀ n, V G C F_X11_carry 39 [some (.ref (G.2.1 + 0)), some (.int l1), none, some (.int z'.1), none] [] (pic G z'.2) n 2 12) ∧ (∀ x', y = .inr x' → ∀ n, V G C F_X11_carry 102 [some (.ref (G.2.1 + 0)), some (.int l1), none, none, none] [] (pic G x') n 2 12)) : V G C F_X11_carry 39 [some (.ref (G.2.1 + 0)), some (.int l1), none, some (.int l3), none] [] (pic G μ) n 2 12 := by
  unfold f_X11_carry_b39 at hf
  refine V_iload_n d_X11_carry_39 rfl rfl ?_
  refine V_aload_n d_X11_carry_40 rfl rfl ?_
  refine B_get k_0 fl_RX11_19 d_X11_carry_41 g_11_1 ?_
  refine B_get k_3 fl_RX11_291 d_X11_carry_44 g_2_0 ?_
  refine V_icmp_ge (tgt := 102) d_X11_carry_47 (by decide) (fun c47 => ?_) (fun c47 => ?_)
  · replace hf := iteT c47 hf
    refine V_less (ls' := [some _, some _, none, none, none]) ⟨rfl, rfl, trivial⟩ ?_
    cases hf
    exact hK.2 _ rfl _
  · replace hf := iteF c47 hf
    refine V_iconst (v := 0) d_X11_carry_50 ic_0 ?_
    refine V_istore (ls' := [_, _, _, _, _]) d_X11_carry_51 rfl rfl ?_
    refine V_less (ls' := [some _, some _, none, some _, some _]) ⟨rfl, rfl, rfl, rfl, trivial⟩ ?_
    exact s_X11_carry_l53 hG hf hK
theorem s_X11_carry_j139 {G : Gl} (hG : G.1.stackTraces = false) {C : Cx} {n : Nat} {μ : Mem} {k0 : Int32} {r : ((Nat × Mem) ⊕ (Int32 × Mem))} (hf : f_X11_carry_j139 μ k0 = some r) (hK : FinX G C F_X11_carry (some .int) (Sum.map id (fun q => (some (.int q.1), q.2)) r)) : V G C F_X11_carry 139 [none, none, none, none, none] [.int k0] (pic G μ) n 2 12 := by
  unfold f_X11_carry_j139 at hf
  cases hf
  exact R_iX hK d_X11_carry_139 (Nat.le_of_ble_eq_true rfl) (Nat.le_of_ble_eq_true rfl)
theorem s_X11_carry_j102 {G : Gl} (hG : G.1.stackTraces = false) {C : Cx} {n : Nat} {μ : Mem} {l1 : Int32} {r : ((Nat × Mem) ⊕ (Int32 × Mem))} (hf : f_X11_carry_j102 μ l1 = some r) (hK : FinX G C F_X11_carry (some .int) (Sum.map id (fun q => (some (.int q.1), q.2)) r)) : V G C F_X11_carry 102 [some (.ref (G.2.1 + 0)), some (.int l1), none, none, none] [] (pic G μ) n 2 12 := by
  unfold f_X11_carry_j102 at hf
  refine V_aload_n d_X11_carry_102 rfl rfl ?_
  refine B_get k_0 fl_RX11_77 d_X11_carry_103 g_11_11 ?_
  refine V_aload_n d_X11_carry_106 rfl rfl ?_
  refine B_get k_0 fl_RX11_19 d_X11_carry_107 g_11_1 ?_
  refine B_get k_3 fl_RX11_291 d_X11_carry_110 g_2_0 ?_
  obtain ⟨q1, hq1, hf⟩ := ob hf
  refine B_callV0 (s_X9_weigh hG hq1) k_259 clX9 m_X9_weigh kv_RX11_314 d_X11_carry_113 rfl (Nat.le_of_ble_eq_true rfl) ⟨rfl, rfl, Nat.le_of_ble_eq_true rfl, Nat.le_of_ble_eq_true rfl, Nat.le_of_ble_eq_true rfl⟩ (fun n => ?_)
  refine V_iload_n d_X11_carry_116 rfl rfl ?_
  refine V_iconst (v := (-1)) d_X11_carry_117 ic_m1 ?_
  refine V_icmp_ne (tgt := 131) d_X11_carry_118 (by decide) (fun c118 => ?_) (fun c118 => ?_)
  · replace hf := iteF c118 hf
    refine V_aload_n d_X11_carry_131 rfl rfl ?_
    refine B_get k_0 fl_RX11_77 d_X11_carry_132 g_11_11 ?_
    refine V_iload_n d_X11_carry_135 rfl rfl ?_
    obtain ⟨t2, ht2, hf⟩ := ob hf
    refine B_callV1 (s_X9_partOf hG ht2) k_259 clX9 m_X9_partOf kv_RX11_320 d_X11_carry_136 rfl (Nat.le_of_ble_eq_true rfl) ⟨rfl, rfl, Nat.le_of_ble_eq_true rfl, Nat.le_of_ble_eq_true rfl, Nat.le_of_ble_eq_true rfl⟩ (fun n => ?_)
    refine V_less (ls' := [none, none, none, none, none]) trivial ?_
    exact s_X11_carry_j139 hG hf hK
  · replace hf := iteT c118 hf
    refine V_aload_n d_X11_carry_121 rfl rfl ?_
    refine B_get k_0 fl_RX11_77 d_X11_carry_122 g_11_11 ?_
    obtain ⟨t3, ht3, hf⟩ := ob hf
    refine B_callV1 (s_X9_leastOfAll hG ht3) k_259 clX9 m_X9_leastOfAll kv_RX11_317 d_X11_carry_125 rfl (Nat.le_of_ble_eq_true rfl) ⟨rfl, rfl, Nat.le_of_ble_eq_true rfl, Nat.le_of_ble_eq_true rfl, Nat.le_of_ble_eq_true rfl⟩ (fun n => ?_)
    refine V_goto (tgt := 139) d_X11_carry_128 (by decide) ?_
    refine V_less (ls' := [none, none, none, none, none]) trivial ?_
    exact s_X11_carry_j139 hG hf hK
theorem s_X11_carry_l39 {G : Gl} (hG : G.1.stackTraces = false) {C : Cx} {n : Nat} {μ : Mem} {l1 : Int32} {l3 : Int32} {r : ((Nat × Mem) ⊕ (Int32 × Mem))} (hf : f_X11_carry_l39 μ l1 l3 = some r) (hK : FinX G C F_X11_carry (some .int) (Sum.map id (fun q => (some (.int q.1), q.2)) r)) : V G C F_X11_carry 39 [some (.ref (G.2.1 + 0)), some (.int l1), none, some (.int l3), none] [] (pic G μ) n 2 12 := by
  unfold f_X11_carry_l39 at hf
  obtain ⟨t, hl, hf⟩ := ob hf
  refine loopV (P := fun z => ∀ n, V G C F_X11_carry 39 [some (.ref (G.2.1 + 0)), some (.int l1), none, some (.int z.1), none] [] (pic G z.2) n 2 12) (t := t) ?_ _ _ hl n
  intro z y' hy hI hT n
  refine s_X11_carry_b39 hG hy ⟨hI, fun x9 ex => ?_⟩
  have ex2 := hT x9 ex
  subst ex2
  intro n
  exact s_X11_carry_j102 hG hf hK
theorem s_X11_carry_j18 {G : Gl} (hG : G.1.stackTraces = false) {C : Cx} {n : Nat} {μ : Mem} {l1 : Int32} {l2 : Int32} {r : ((Nat × Mem) ⊕ (Int32 × Mem))} (hf : f_X11_carry_j18 μ l1 l2 = some r) (hK : FinX G C F_X11_carry (some .int) (Sum.map id (fun q => (some (.int q.1), q.2)) r)) : V G C F_X11_carry 18 [some (.ref (G.2.1 + 0)), some (.int l1), some (.int l2), none, none] [] (pic G μ) n 1 6 := by
  unfold f_X11_carry_j18 at hf
  refine V_aload_n d_X11_carry_18 rfl rfl ?_
  refine V_iload_n d_X11_carry_19 rfl rfl ?_
  obtain ⟨t1, ht1, hf⟩ := ob hf
  refine B_callV1 (s_X11_tellsPlaces hG ht1) k_0 clX11 m_X11_tellsPlaces kv_RX11_302 d_X11_carry_20 rfl (Nat.le_of_ble_eq_true rfl) ⟨rfl, rfl, Nat.le_of_ble_eq_true rfl, Nat.le_of_ble_eq_true rfl, Nat.le_of_ble_eq_true rfl⟩ (fun n => ?_)
  refine V_if_ne (tgt := 37) d_X11_carry_23 (by decide) (fun c23 => ?_) (fun c23 => ?_)
  · replace hf := iteT (b2i_ne0 c23) hf
    refine V_iconst (v := 0) d_X11_carry_37 ic_0 ?_
    refine V_istore_n (ls' := [_, _, _, _, _]) d_X11_carry_38 rfl rfl rfl ?_
    refine V_widen (k2 := 2) (s2 := 12) (by decide) (by decide) ?_
    refine V_less (ls' := [some _, some _, none, some _, none]) ⟨rfl, rfl, rfl, trivial⟩ ?_
    exact s_X11_carry_l39 hG hf hK
  · replace hf := iteF (b2i_nt (b2i_eq0 c23)) hf
    cases hf
    exact B_throwW (k0 := 1) hK tk_RX11_113_305_117 rfl rfl d_X11_carry_26 d_X11_carry_29 d_X11_carry_30 d_X11_carry_33 d_X11_carry_36 (Nat.le_of_ble_eq_true rfl) (Nat.le_of_ble_eq_true rfl) (Nat.le_of_ble_eq_true rfl)
theorem s_X11_carry_e {G : Gl} (hG : G.1.stackTraces = false) {C : Cx} {n : Nat} {μ : Mem} {p1 : Int32} {r : ((Nat × Mem) ⊕ (Int32 × Mem))} (hf : f_X11_carry μ p1 = some r) (hK : FinX G C F_X11_carry (some .int) (Sum.map id (fun q => (some (.int q.1), q.2)) r)) : V G C F_X11_carry 0 [some (.ref (G.2.1 + 0)), some (.int p1), none, none, none] [] (pic G μ) n 0 0 := by
  unfold f_X11_carry at hf
  refine V_aload_n d_X11_carry_0 rfl rfl ?_
  refine B_get k_0 fl_RX11_10 d_X11_carry_1 g_11_0 ?_
  obtain ⟨q1, hq1, hf⟩ := ob hf
  refine B_callV1 (s_X8_useUp hG hq1) k_1 clX8 m_X8_useUp kv_RX11_298 d_X11_carry_4 rfl (Nat.le_of_ble_eq_true rfl) ⟨rfl, rfl, Nat.le_of_ble_eq_true rfl, Nat.le_of_ble_eq_true rfl, Nat.le_of_ble_eq_true rfl⟩ (fun n => ?_)
  refine V_istore_n (ls' := [_, _, _, _, _]) d_X11_carry_7 rfl rfl rfl ?_
  refine V_iload_n d_X11_carry_8 rfl rfl ?_
  refine V_iconst (v := (-1)) d_X11_carry_9 ic_m1 ?_
  refine V_icmp_eq (tgt := 18) d_X11_carry_10 (by decide) (fun c10 => ?_) (fun c10 => ?_)
  · replace hf := iteT c10 hf
    refine V_widen (k2 := 1) (s2 := 6) (by decide) (by decide) ?_
    refine V_less (ls' := [some _, some _, some _, none, none]) ⟨rfl, rfl, rfl, trivial⟩ ?_
    exact s_X11_carry_j18 hG hf hK
  · replace hf := iteF c10 hf
    refine V_aload_n d_X11_carry_13 rfl rfl ?_
    refine V_iload_n d_X11_carry_14 rfl rfl ?_
    obtain ⟨q2, hq2, hf⟩ := ob hf
    cases q2 with
    | inl e9 =>
      obtain ⟨k9, μ9⟩ := e9
      refine B_callVXt (kc' := 1) (ks' := 6) (s_X11_needPerson hG hq2) k_0 clX11 m_X11_needPerson kv_RX11_149 d_X11_carry_15 rfl (Nat.le_of_ble_eq_true rfl) ⟨rfl, rfl, Nat.le_of_ble_eq_true rfl, Nat.le_of_ble_eq_true rfl, Nat.le_of_ble_eq_true rfl⟩ (fun n => ?_)
      cases hf
      exact X_out hK rfl (Nat.le_of_ble_eq_true rfl) (Nat.le_of_ble_eq_true rfl)
    | inr v3 =>
      replace hf := elimR hf
      refine B_callVX0 (kc' := 1) (ks' := 6) (s_X11_needPerson hG hq2) k_0 clX11 m_X11_needPerson kv_RX11_149 d_X11_carry_15 rfl (Nat.le_of_ble_eq_true rfl) ⟨rfl, rfl, Nat.le_of_ble_eq_true rfl, Nat.le_of_ble_eq_true rfl, Nat.le_of_ble_eq_true rfl⟩ (fun n => ?_)
      refine V_less (ls' := [some _, some _, some _, none, none]) ⟨rfl, rfl, rfl, trivial⟩ ?_
      exact s_X11_carry_j18 hG hf hK
theorem s_X11_carry {G : Gl} (hG : G.1.stackTraces = false) {μ : Mem} {p1 : Int32} {r : ((Nat × Mem) ⊕ (Int32 × Mem))} (hf : f_X11_carry μ p1 = some r) : Rx G yX11_carry F_X11_carry (.code yX11_carry F_X11_carry.2.1 F_X11_carry.2.2.1 (some .int)) [.ref (G.2.1 + 0), .int p1] μ (Sum.map id (fun q => (some (.int q.1), q.2)) r) := fun n => Sd.of hG ⟨by decide +kernel, rfl, rfl⟩ rfl (Nat.le_of_ble_eq_true rfl) rfl (fun C hK => s_X11_carry_e hG hf hK)
theorem d_X11_needAhead_0 : decode cX11_needAhead 0 = .ok (.iload_n 1, 1) := by decide +kernel
theorem d_X11_needAhead_1 : decode cX11_needAhead 1 = .ok (.iconst 0, 1) := by decide +kernel
theorem d_X11_needAhead_2 : decode cX11_needAhead 2 = .ok (.bipush 60, 2) := by decide +kernel
theorem d_X11_needAhead_4 : decode cX11_needAhead 4 = .ok (.invokestatic 237, 3) := by decide +kernel
theorem d_X11_needAhead_7 : decode cX11_needAhead 7 = .ok (.ifCond .eq 14, 3) := by decide +kernel
theorem d_X11_needAhead_10 : decode cX11_needAhead 10 = .ok (.new 113, 3) := by decide +kernel
theorem d_X11_needAhead_13 : decode cX11_needAhead 13 = .ok (.dup, 1) := by decide +kernel
theorem d_X11_needAhead_14 : decode cX11_needAhead 14 = .ok (.ldc_w 441, 3) := by decide +kernel
theorem d_X11_needAhead_17 : decode cX11_needAhead 17 = .ok (.invokespecial 117, 3) := by decide +kernel
theorem d_X11_needAhead_20 : decode cX11_needAhead 20 = .ok (.athrow, 1) := by decide +kernel
theorem d_X11_needAhead_21 : decode cX11_needAhead 21 = .ok (.return_, 1) := by decide +kernel
theorem s_X11_needAhead_e {G : Gl} (hG : G.1.stackTraces = false) {C : Cx} {n : Nat} {μ : Mem} {p1 : Int32} {r : ((Nat × Mem) ⊕ Mem)} (hf : f_X11_needAhead μ p1 = some r) (hK : FinX G C F_X11_needAhead none (Sum.map id (fun q => (none, q)) r)) : V G C F_X11_needAhead 0 [some (.ref (G.2.1 + 0)), some (.int p1)] [] (pic G μ) n 0 0 := by
  unfold f_X11_needAhead at hf
  refine V_iload_n d_X11_needAhead_0 rfl rfl ?_
  refine V_iconst (v := 0) d_X11_needAhead_1 ic_0 ?_
  refine V_bipush (v := 60) d_X11_needAhead_2 bp_60 ?_
  obtain ⟨t1, ht1, hf⟩ := ob hf
  refine B_callS1 (s_X11_isOutside hG ht1) m_X11_isOutside ks_RX11_237 d_X11_needAhead_4 rfl (Nat.le_of_ble_eq_true rfl) ⟨rfl, rfl, Nat.le_of_ble_eq_true rfl, Nat.le_of_ble_eq_true rfl, Nat.le_of_ble_eq_true rfl⟩ (fun n => ?_)
  refine V_if_eq (tgt := 21) d_X11_needAhead_7 (by decide) (fun c7 => ?_) (fun c7 => ?_)
  · replace hf := iteF (b2i_nt (b2i_eq0 c7)) hf
    cases hf
    exact R_vX hK d_X11_needAhead_21 (Nat.le_of_ble_eq_true rfl) (Nat.le_of_ble_eq_true rfl)
  · replace hf := iteT (b2i_ne0 c7) hf
    cases hf
    exact B_throwW (k0 := 1) hK tk_RX11_113_441_117 rfl rfl d_X11_needAhead_10 d_X11_needAhead_13 d_X11_needAhead_14 d_X11_needAhead_17 d_X11_needAhead_20 (Nat.le_of_ble_eq_true rfl) (Nat.le_of_ble_eq_true rfl) (Nat.le_of_ble_eq_true rfl)
theorem s_X11_needAhead {G : Gl} (hG : G.1.stackTraces = false) {μ : Mem} {p1 : Int32} {r : ((Nat × Mem) ⊕ Mem)} (hf : f_X11_needAhead μ p1 = some r) : Rx G yX11_needAhead F_X11_needAhead (.code yX11_needAhead F_X11_needAhead.2.1 F_X11_needAhead.2.2.1 none) [.ref (G.2.1 + 0), .int p1] μ (Sum.map id (fun q => (none, q)) r) := fun n => Sd.of hG ⟨by decide +kernel, rfl, rfl⟩ rfl (Nat.le_of_ble_eq_true rfl) rfl (fun C hK => s_X11_needAhead_e hG hf hK)
