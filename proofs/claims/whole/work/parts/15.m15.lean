theorem d_X10_fits_0 : decode F_X10_fits.2.1 0 = .ok (.iconst 0, 1) := by decide +kernel
theorem d_X10_fits_1 : decode F_X10_fits.2.1 1 = .ok (.istore_n 3, 1) := by decide +kernel
theorem d_X10_fits_2 : decode F_X10_fits.2.1 2 = .ok (.iload_n 3, 1) := by decide +kernel
theorem d_X10_fits_3 : decode F_X10_fits.2.1 3 = .ok (.iload_n 2, 1) := by decide +kernel
theorem d_X10_fits_4 : decode F_X10_fits.2.1 4 = .ok (.if_icmp .ge 75, 3) := by decide +kernel
theorem d_X10_fits_7 : decode F_X10_fits.2.1 7 = .ok (.aload_n 0, 1) := by decide +kernel
theorem d_X10_fits_8 : decode F_X10_fits.2.1 8 = .ok (.getfield 25, 3) := by decide +kernel
theorem d_X10_fits_11 : decode F_X10_fits.2.1 11 = .ok (.getfield 29, 3) := by decide +kernel
theorem d_X10_fits_14 : decode F_X10_fits.2.1 14 = .ok (.iload_n 3, 1) := by decide +kernel
theorem d_X10_fits_15 : decode F_X10_fits.2.1 15 = .ok (.iconst 1, 1) := by decide +kernel
theorem d_X10_fits_16 : decode F_X10_fits.2.1 16 = .ok (.iadd, 1) := by decide +kernel
theorem d_X10_fits_17 : decode F_X10_fits.2.1 17 = .ok (.iaload, 1) := by decide +kernel
theorem d_X10_fits_18 : decode F_X10_fits.2.1 18 = .ok (.aload_n 0, 1) := by decide +kernel
theorem d_X10_fits_19 : decode F_X10_fits.2.1 19 = .ok (.getfield 25, 3) := by decide +kernel
theorem d_X10_fits_22 : decode F_X10_fits.2.1 22 = .ok (.getfield 29, 3) := by decide +kernel
theorem d_X10_fits_25 : decode F_X10_fits.2.1 25 = .ok (.iload_n 3, 1) := by decide +kernel
theorem d_X10_fits_26 : decode F_X10_fits.2.1 26 = .ok (.iaload, 1) := by decide +kernel
theorem d_X10_fits_27 : decode F_X10_fits.2.1 27 = .ok (.isub, 1) := by decide +kernel
theorem d_X10_fits_28 : decode F_X10_fits.2.1 28 = .ok (.iconst 1, 1) := by decide +kernel
theorem d_X10_fits_29 : decode F_X10_fits.2.1 29 = .ok (.iadd, 1) := by decide +kernel
theorem d_X10_fits_30 : decode F_X10_fits.2.1 30 = .ok (.istore 4, 2) := by decide +kernel
theorem d_X10_fits_32 : decode F_X10_fits.2.1 32 = .ok (.iload_n 1, 1) := by decide +kernel
theorem d_X10_fits_33 : decode F_X10_fits.2.1 33 = .ok (.aload_n 0, 1) := by decide +kernel
theorem d_X10_fits_34 : decode F_X10_fits.2.1 34 = .ok (.getfield 25, 3) := by decide +kernel
theorem d_X10_fits_37 : decode F_X10_fits.2.1 37 = .ok (.getfield 29, 3) := by decide +kernel
theorem d_X10_fits_40 : decode F_X10_fits.2.1 40 = .ok (.iload_n 3, 1) := by decide +kernel
theorem d_X10_fits_41 : decode F_X10_fits.2.1 41 = .ok (.iaload, 1) := by decide +kernel
theorem d_X10_fits_42 : decode F_X10_fits.2.1 42 = .ok (.ishr, 1) := by decide +kernel
theorem d_X10_fits_43 : decode F_X10_fits.2.1 43 = .ok (.iconst 1, 1) := by decide +kernel
theorem d_X10_fits_44 : decode F_X10_fits.2.1 44 = .ok (.iload 4, 2) := by decide +kernel
theorem d_X10_fits_46 : decode F_X10_fits.2.1 46 = .ok (.ishl, 1) := by decide +kernel
theorem d_X10_fits_47 : decode F_X10_fits.2.1 47 = .ok (.iconst 1, 1) := by decide +kernel
theorem d_X10_fits_48 : decode F_X10_fits.2.1 48 = .ok (.isub, 1) := by decide +kernel
theorem d_X10_fits_49 : decode F_X10_fits.2.1 49 = .ok (.iand, 1) := by decide +kernel
theorem d_X10_fits_50 : decode F_X10_fits.2.1 50 = .ok (.istore 5, 2) := by decide +kernel
theorem d_X10_fits_52 : decode F_X10_fits.2.1 52 = .ok (.iload 5, 2) := by decide +kernel
theorem d_X10_fits_54 : decode F_X10_fits.2.1 54 = .ok (.invokestatic 48, 3) := by decide +kernel
theorem d_X10_fits_57 : decode F_X10_fits.2.1 57 = .ok (.aload_n 0, 1) := by decide +kernel
theorem d_X10_fits_58 : decode F_X10_fits.2.1 58 = .ok (.getfield 25, 3) := by decide +kernel
theorem d_X10_fits_61 : decode F_X10_fits.2.1 61 = .ok (.getfield 29, 3) := by decide +kernel
theorem d_X10_fits_64 : decode F_X10_fits.2.1 64 = .ok (.iload_n 3, 1) := by decide +kernel
theorem d_X10_fits_65 : decode F_X10_fits.2.1 65 = .ok (.iconst 2, 1) := by decide +kernel
theorem d_X10_fits_66 : decode F_X10_fits.2.1 66 = .ok (.iadd, 1) := by decide +kernel
theorem d_X10_fits_67 : decode F_X10_fits.2.1 67 = .ok (.iaload, 1) := by decide +kernel
theorem d_X10_fits_68 : decode F_X10_fits.2.1 68 = .ok (.if_icmp .eq 5, 3) := by decide +kernel
theorem d_X10_fits_71 : decode F_X10_fits.2.1 71 = .ok (.iconst 0, 1) := by decide +kernel
theorem d_X10_fits_72 : decode F_X10_fits.2.1 72 = .ok (.ireturn, 1) := by decide +kernel
theorem d_X10_fits_73 : decode F_X10_fits.2.1 73 = .ok (.iinc 3 3, 3) := by decide +kernel
theorem d_X10_fits_76 : decode F_X10_fits.2.1 76 = .ok (.goto (-74), 3) := by decide +kernel
theorem d_X10_fits_79 : decode F_X10_fits.2.1 79 = .ok (.iconst 1, 1) := by decide +kernel
theorem d_X10_fits_80 : decode F_X10_fits.2.1 80 = .ok (.ireturn, 1) := by decide +kernel
def f_X10_fits_b2 (μ : Mem) (l1 : Int32) (l2 : Int32) (l3 : Int32) : Option (Int32 ⊕ (Unit ⊕ Bool)) :=
if l2 ≤ l3 then
some (.inr (.inl ()))
else
Option.bind (rd μ 2 400 (l3 + 1)) fun t1 =>
Option.bind (rd μ 2 400 l3) fun t2 =>
Option.bind (rd μ 2 400 l3) fun t3 =>
Option.bind (f_J6_bitCount_0f7a4 μ ((l1 >>> (t3 &&& 31)) &&& ((1 <<< (((t1 - t2) + 1) &&& 31)) - 1))) fun t4 =>
Option.bind (rd μ 2 400 (l3 + 2)) fun t5 =>
if t4 = t5 then
some (.inl (l3 + 3))
else
some (.inr (.inr false))
def f_X10_fits_j79 (μ : Mem) : Option Bool :=
some true
def f_X10_fits_l2 (μ : Mem) (l1 : Int32) (l2 : Int32) (l3 : Int32) : Option Bool := Option.bind (loopN 10000 (fun z : Int32 => f_X10_fits_b2 μ l1 l2 z) l3) fun t : (Unit ⊕ Bool) => Sum.elim (fun e => f_X10_fits_j79 μ) (fun x => some x) t
def f_X10_fits (μ : Mem) (p1 : Int32) (p2 : Int32) : Option Bool :=
f_X10_fits_l2 μ p1 p2 0
theorem s_X10_fits_b2 {G : Gl} (hG : G.1.stackTraces = false) {C : Cx} {n : Nat} {μ : Mem} {l1 : Int32} {l2 : Int32} {l3 : Int32} {y : (Int32 ⊕ (Unit ⊕ Bool))} (hf : f_X10_fits_b2 μ l1 l2 l3 = some y) (hK : (∀ z', y = .inl z' → ∀ n, V G C F_X10_fits 2 [some (.ref (G.2.1 + 262)), some (.int l1), some (.int l2), some (.int z'), none, none] [] (pic G μ) n 0 0) ∧ (∀ x', y = .inr x' → ((∀ x'', x' = .inl x'' → ∀ n, V G C F_X10_fits 79 [none, none, none, none, none, none] [] (pic G μ) n 0 0) ∧ (∀ x''', x' = .inr x''' → FinR G C F_X10_fits (some .boolean) (some (.int (b2i x'''))) μ)))) : V G C F_X10_fits 2 [some (.ref (G.2.1 + 262)), some (.int l1), some (.int l2), some (.int l3), none, none] [] (pic G μ) n 0 0 := by
  unfold f_X10_fits_b2 at hf
  refine V_iload_n d_X10_fits_2 rfl rfl ?_
  refine V_iload_n d_X10_fits_3 rfl rfl ?_
  refine V_icmp_ge (tgt := 79) d_X10_fits_4 (by decide) (fun c4 => ?_) (fun c4 => ?_)
  · replace hf := iteT c4 hf
    refine V_less (ls' := [none, none, none, none, none, none]) trivial ?_
    cases hf
    exact (hK.2 _ rfl).1 _ rfl _
  · replace hf := iteF c4 hf
    refine V_aload_n d_X10_fits_7 rfl rfl ?_
    refine B_get k_262 fl_RX10_25 d_X10_fits_8 g_10_0 ?_
    refine B_get k_1 fl_RX10_29 d_X10_fits_11 g_8_0 ?_
    refine V_iload_n d_X10_fits_14 rfl rfl ?_
    refine V_iconst (v := 1) d_X10_fits_15 ic_1 ?_
    refine V_iadd d_X10_fits_16 ?_
    obtain ⟨t1, ht1, hf⟩ := ob hf
    refine B_iald k_2 ht1 d_X10_fits_17 ?_
    refine V_aload_n d_X10_fits_18 rfl rfl ?_
    refine B_get k_262 fl_RX10_25 d_X10_fits_19 g_10_0 ?_
    refine B_get k_1 fl_RX10_29 d_X10_fits_22 g_8_0 ?_
    refine V_iload_n d_X10_fits_25 rfl rfl ?_
    obtain ⟨t2, ht2, hf⟩ := ob hf
    refine B_iald k_2 ht2 d_X10_fits_26 ?_
    refine V_isub d_X10_fits_27 ?_
    refine V_iconst (v := 1) d_X10_fits_28 ic_1 ?_
    refine V_iadd d_X10_fits_29 ?_
    refine V_istore (ls' := [_, _, _, _, _, _]) d_X10_fits_30 rfl rfl ?_
    refine V_iload_n d_X10_fits_32 rfl rfl ?_
    refine V_aload_n d_X10_fits_33 rfl rfl ?_
    refine B_get k_262 fl_RX10_25 d_X10_fits_34 g_10_0 ?_
    refine B_get k_1 fl_RX10_29 d_X10_fits_37 g_8_0 ?_
    refine V_iload_n d_X10_fits_40 rfl rfl ?_
    obtain ⟨t3, ht3, hf⟩ := ob hf
    refine B_iald k_2 ht3 d_X10_fits_41 ?_
    refine V_ishr d_X10_fits_42 ?_
    refine V_iconst (v := 1) d_X10_fits_43 ic_1 ?_
    refine V_iload d_X10_fits_44 rfl ?_
    refine V_ishl d_X10_fits_46 ?_
    refine V_iconst (v := 1) d_X10_fits_47 ic_1 ?_
    refine V_isub d_X10_fits_48 ?_
    refine V_iand d_X10_fits_49 ?_
    refine V_istore (ls' := [_, _, _, _, _, _]) d_X10_fits_50 rfl rfl ?_
    refine V_iload d_X10_fits_52 rfl ?_
    obtain ⟨t4, ht4, hf⟩ := ob hf
    refine B_callS1 (s_J6_bitCount_0f7a4 hG ht4) m_J6_bitCount_0f7a4 ks_RX10_48 d_X10_fits_54 rfl (Nat.le_of_ble_eq_true rfl) ⟨rfl, rfl, Nat.le_of_ble_eq_true rfl, Nat.le_of_ble_eq_true rfl, Nat.le_of_ble_eq_true rfl⟩ (fun n => ?_)
    refine V_aload_n d_X10_fits_57 rfl rfl ?_
    refine B_get k_262 fl_RX10_25 d_X10_fits_58 g_10_0 ?_
    refine B_get k_1 fl_RX10_29 d_X10_fits_61 g_8_0 ?_
    refine V_iload_n d_X10_fits_64 rfl rfl ?_
    refine V_iconst (v := 2) d_X10_fits_65 ic_2 ?_
    refine V_iadd d_X10_fits_66 ?_
    obtain ⟨t5, ht5, hf⟩ := ob hf
    refine B_iald k_2 ht5 d_X10_fits_67 ?_
    refine V_icmp_eq (tgt := 73) d_X10_fits_68 (by decide) (fun c68 => ?_) (fun c68 => ?_)
    · replace hf := iteT c68 hf
      refine V_iinc (v := (l3 + 3)) (ls' := [_, _, _, _, _, _]) d_X10_fits_73 rfl (by rw [ic_3]) rfl ?_
      refine V_goto (tgt := 2) d_X10_fits_76 (by decide) ?_
      refine V_less (ls' := [some _, some _, some _, some _, none, none]) ⟨rfl, rfl, rfl, rfl, trivial⟩ ?_
      cases hf
      exact hK.1 _ rfl _
    · replace hf := iteF c68 hf
      refine V_iconst (v := 0) d_X10_fits_71 ic_0 ?_
      cases hf
      exact R_z ((hK.2 _ rfl).2 _ rfl) d_X10_fits_72 (Nat.le_of_ble_eq_true rfl) (Nat.le_of_ble_eq_true rfl)
theorem s_X10_fits_j79 {G : Gl} (hG : G.1.stackTraces = false) {C : Cx} {n : Nat} {μ : Mem}  {r : Bool} (hf : f_X10_fits_j79 μ = some r) (hK : FinR G C F_X10_fits (some .boolean) (some (.int (b2i r))) μ) : V G C F_X10_fits 79 [none, none, none, none, none, none] [] (pic G μ) n 0 0 := by
  unfold f_X10_fits_j79 at hf
  refine V_iconst (v := 1) d_X10_fits_79 ic_1 ?_
  cases hf
  exact R_z hK d_X10_fits_80 (Nat.le_of_ble_eq_true rfl) (Nat.le_of_ble_eq_true rfl)
theorem s_X10_fits_l2 {G : Gl} (hG : G.1.stackTraces = false) {C : Cx} {n : Nat} {μ : Mem} {l1 : Int32} {l2 : Int32} {l3 : Int32} {r : Bool} (hf : f_X10_fits_l2 μ l1 l2 l3 = some r) (hK : FinR G C F_X10_fits (some .boolean) (some (.int (b2i r))) μ) : V G C F_X10_fits 2 [some (.ref (G.2.1 + 262)), some (.int l1), some (.int l2), some (.int l3), none, none] [] (pic G μ) n 0 0 := by
  unfold f_X10_fits_l2 at hf
  obtain ⟨t, hl, hf⟩ := ob hf
  refine loopV (P := fun z => ∀ n, V G C F_X10_fits 2 [some (.ref (G.2.1 + 262)), some (.int l1), some (.int l2), some (.int z), none, none] [] (pic G μ) n 0 0) (t := t) ?_ _ _ hl n
  intro z y' hy hI hT n
  refine s_X10_fits_b2 hG hy ⟨hI, fun x9 ex => ?_⟩
  have ex2 := hT x9 ex
  subst ex2
  refine ⟨fun e he => ?_, fun x2 hx => ?_⟩
  · subst he
    intro n
    exact s_X10_fits_j79 hG hf hK
  · subst hx
    cases hf
    exact hK
theorem s_X10_fits_e {G : Gl} (hG : G.1.stackTraces = false) {C : Cx} {n : Nat} {μ : Mem} {p1 : Int32} {p2 : Int32} {r : Bool} (hf : f_X10_fits μ p1 p2 = some r) (hK : FinR G C F_X10_fits (some .boolean) (some (.int (b2i r))) μ) : V G C F_X10_fits 0 [some (.ref (G.2.1 + 262)), some (.int p1), some (.int p2), none, none, none] [] (pic G μ) n 0 0 := by
  unfold f_X10_fits at hf
  refine V_iconst (v := 0) d_X10_fits_0 ic_0 ?_
  refine V_istore_n (ls' := [_, _, _, _, _, _]) d_X10_fits_1 rfl rfl rfl ?_
  refine V_less (ls' := [some _, some _, some _, some _, none, none]) ⟨rfl, rfl, rfl, rfl, trivial⟩ ?_
  exact s_X10_fits_l2 hG hf hK
theorem s_X10_fits {G : Gl} (hG : G.1.stackTraces = false) {μ : Mem} {p1 : Int32} {p2 : Int32} {r : Bool} (hf : f_X10_fits μ p1 p2 = some r) : Rt G yX10_fits F_X10_fits (some .boolean) [.ref (G.2.1 + 262), .int p1, .int p2] μ (some (.int (b2i r))) μ := fun n => Sd.of hG ⟨by decide +kernel, rfl, rfl⟩ rfl (Nat.le_of_ble_eq_true rfl) rfl (fun C hK => s_X10_fits_e hG hf hK)
theorem d_X10_take_0 : decode F_X10_take.2.1 0 = .ok (.aload_n 0, 1) := by decide +kernel
theorem d_X10_take_1 : decode F_X10_take.2.1 1 = .ok (.aload_n 0, 1) := by decide +kernel
theorem d_X10_take_2 : decode F_X10_take.2.1 2 = .ok (.getfield 19, 3) := by decide +kernel
theorem d_X10_take_5 : decode F_X10_take.2.1 5 = .ok (.ifCond .ne 7, 3) := by decide +kernel
theorem d_X10_take_8 : decode F_X10_take.2.1 8 = .ok (.iload_n 1, 1) := by decide +kernel
theorem d_X10_take_9 : decode F_X10_take.2.1 9 = .ok (.goto 9, 3) := by decide +kernel
theorem d_X10_take_12 : decode F_X10_take.2.1 12 = .ok (.aload_n 0, 1) := by decide +kernel
theorem d_X10_take_13 : decode F_X10_take.2.1 13 = .ok (.getfield 22, 3) := by decide +kernel
theorem d_X10_take_16 : decode F_X10_take.2.1 16 = .ok (.iload_n 1, 1) := by decide +kernel
theorem d_X10_take_17 : decode F_X10_take.2.1 17 = .ok (.iand, 1) := by decide +kernel
theorem d_X10_take_18 : decode F_X10_take.2.1 18 = .ok (.putfield 22, 3) := by decide +kernel
theorem d_X10_take_21 : decode F_X10_take.2.1 21 = .ok (.aload_n 0, 1) := by decide +kernel
theorem d_X10_take_22 : decode F_X10_take.2.1 22 = .ok (.dup, 1) := by decide +kernel
theorem d_X10_take_23 : decode F_X10_take.2.1 23 = .ok (.getfield 19, 3) := by decide +kernel
theorem d_X10_take_26 : decode F_X10_take.2.1 26 = .ok (.iconst 1, 1) := by decide +kernel
theorem d_X10_take_27 : decode F_X10_take.2.1 27 = .ok (.iadd, 1) := by decide +kernel
theorem d_X10_take_28 : decode F_X10_take.2.1 28 = .ok (.putfield 19, 3) := by decide +kernel
theorem d_X10_take_31 : decode F_X10_take.2.1 31 = .ok (.iconst 0, 1) := by decide +kernel
theorem d_X10_take_32 : decode F_X10_take.2.1 32 = .ok (.istore_n 2, 1) := by decide +kernel
theorem d_X10_take_33 : decode F_X10_take.2.1 33 = .ok (.iload_n 2, 1) := by decide +kernel
theorem d_X10_take_34 : decode F_X10_take.2.1 34 = .ok (.aload_n 0, 1) := by decide +kernel
theorem d_X10_take_35 : decode F_X10_take.2.1 35 = .ok (.getfield 15, 3) := by decide +kernel
theorem d_X10_take_38 : decode F_X10_take.2.1 38 = .ok (.if_icmp .ge 27, 3) := by decide +kernel
theorem d_X10_take_41 : decode F_X10_take.2.1 41 = .ok (.iload_n 1, 1) := by decide +kernel
theorem d_X10_take_42 : decode F_X10_take.2.1 42 = .ok (.iload_n 2, 1) := by decide +kernel
theorem d_X10_take_43 : decode F_X10_take.2.1 43 = .ok (.invokestatic 54, 3) := by decide +kernel
theorem d_X10_take_46 : decode F_X10_take.2.1 46 = .ok (.ifCond .eq 13, 3) := by decide +kernel
theorem d_X10_take_49 : decode F_X10_take.2.1 49 = .ok (.aload_n 0, 1) := by decide +kernel
theorem d_X10_take_50 : decode F_X10_take.2.1 50 = .ok (.getfield 9, 3) := by decide +kernel
theorem d_X10_take_53 : decode F_X10_take.2.1 53 = .ok (.iload_n 2, 1) := by decide +kernel
theorem d_X10_take_54 : decode F_X10_take.2.1 54 = .ok (.dup2, 1) := by decide +kernel
theorem d_X10_take_55 : decode F_X10_take.2.1 55 = .ok (.iaload, 1) := by decide +kernel
theorem d_X10_take_56 : decode F_X10_take.2.1 56 = .ok (.iconst 1, 1) := by decide +kernel
theorem d_X10_take_57 : decode F_X10_take.2.1 57 = .ok (.iadd, 1) := by decide +kernel
theorem d_X10_take_58 : decode F_X10_take.2.1 58 = .ok (.iastore, 1) := by decide +kernel
theorem d_X10_take_59 : decode F_X10_take.2.1 59 = .ok (.iinc 2 1, 3) := by decide +kernel
theorem d_X10_take_62 : decode F_X10_take.2.1 62 = .ok (.goto (-29), 3) := by decide +kernel
theorem d_X10_take_65 : decode F_X10_take.2.1 65 = .ok (.return_, 1) := by decide +kernel
def f_X10_take_j59_33 (μ : Mem) (l1 : Int32) (l2 : Int32) : Option ((Int32 × Mem) ⊕ Mem) :=
some (.inl ((l2 + 1), μ))
def f_X10_take_b33 (μ : Mem) (l1 : Int32) (l2 : Int32) : Option ((Int32 × Mem) ⊕ Mem) :=
if (μ 262 2) ≤ l2 then
some (.inr μ)
else
Option.bind (f_X11_hasBit μ l1 l2) fun t1 =>
if t1 = true then
Option.bind (rd μ 263 6 l2) fun t2 =>
Option.bind (wr μ 263 6 l2 (t2 + 1)) fun μ3 =>
f_X10_take_j59_33 μ3 l1 l2
else
f_X10_take_j59_33 μ l1 l2
def f_X10_take_j65 (μ : Mem) : Option Mem :=
some μ
def f_X10_take_l33 (μ : Mem) (l1 : Int32) (l2 : Int32) : Option Mem := Option.bind (loopN 10000 (fun z : (Int32 × Mem) => f_X10_take_b33 z.2 l1 z.1) (l2, μ)) fun t : Mem => f_X10_take_j65 t
def f_X10_take (μ : Mem) (p1 : Int32) : Option Mem :=
f_X10_take_l33 (mset (mset μ 262 4 (if (μ 262 3) = 0 then p1 else ((μ 262 4) &&& p1))) 262 3 (((mset μ 262 4 (if (μ 262 3) = 0 then p1 else ((μ 262 4) &&& p1))) 262 3) + 1)) p1 0
theorem s_X10_take_j59_33 {G : Gl} (hG : G.1.stackTraces = false) {C : Cx} {n : Nat} {μ : Mem} {l1 : Int32} {l2 : Int32} {y : ((Int32 × Mem) ⊕ Mem)} (hf : f_X10_take_j59_33 μ l1 l2 = some y) (hK : (∀ z', y = .inl z' → ∀ n, V G C F_X10_take 33 [some (.ref (G.2.1 + 262)), some (.int l1), some (.int z'.1)] [] (pic G z'.2) n 0 0) ∧ (∀ x', y = .inr x' → ∀ n, V G C F_X10_take 65 [none, none, none] [] (pic G x') n 0 0)) : V G C F_X10_take 59 [some (.ref (G.2.1 + 262)), some (.int l1), some (.int l2)] [] (pic G μ) n 0 0 := by
  unfold f_X10_take_j59_33 at hf
  refine V_iinc (v := (l2 + 1)) (ls' := [_, _, _]) d_X10_take_59 rfl (by rw [ic_1]) rfl ?_
  refine V_goto (tgt := 33) d_X10_take_62 (by decide) ?_
  refine V_less (ls' := [some _, some _, some _]) ⟨rfl, rfl, rfl, trivial⟩ ?_
  cases hf
  exact hK.1 _ rfl _
theorem s_X10_take_b33 {G : Gl} (hG : G.1.stackTraces = false) {C : Cx} {n : Nat} {μ : Mem} {l1 : Int32} {l2 : Int32} {y : ((Int32 × Mem) ⊕ Mem)} (hf : f_X10_take_b33 μ l1 l2 = some y) (hK : (∀ z', y = .inl z' → ∀ n, V G C F_X10_take 33 [some (.ref (G.2.1 + 262)), some (.int l1), some (.int z'.1)] [] (pic G z'.2) n 0 0) ∧ (∀ x', y = .inr x' → ∀ n, V G C F_X10_take 65 [none, none, none] [] (pic G x') n 0 0)) : V G C F_X10_take 33 [some (.ref (G.2.1 + 262)), some (.int l1), some (.int l2)] [] (pic G μ) n 0 0 := by
  unfold f_X10_take_b33 at hf
  refine V_iload_n d_X10_take_33 rfl rfl ?_
  refine V_aload_n d_X10_take_34 rfl rfl ?_
  refine B_get k_262 fl_RX10_15 d_X10_take_35 g_10_2 ?_
  refine V_icmp_ge (tgt := 65) d_X10_take_38 (by decide) (fun c38 => ?_) (fun c38 => ?_)
  · replace hf := iteT c38 hf
    refine V_less (ls' := [none, none, none]) trivial ?_
    cases hf
    exact hK.2 _ rfl _
  · replace hf := iteF c38 hf
    refine V_iload_n d_X10_take_41 rfl rfl ?_
    refine V_iload_n d_X10_take_42 rfl rfl ?_
    obtain ⟨t1, ht1, hf⟩ := ob hf
    refine B_callSN1 (s_X11_hasBit hG ht1) m_X11_hasBit ks_RX10_54 d_X10_take_43 rfl (Nat.le_of_ble_eq_true rfl) ⟨rfl, rfl, Nat.le_of_ble_eq_true rfl, Nat.le_of_ble_eq_true rfl, Nat.le_of_ble_eq_true rfl⟩ (fun n => ?_)
    refine V_if_eq (tgt := 59) d_X10_take_46 (by decide) (fun c46 => ?_) (fun c46 => ?_)
    · replace hf := iteF (b2i_nt (b2i_eq0 c46)) hf
      refine V_less (ls' := [some _, some _, some _]) ⟨rfl, rfl, rfl, trivial⟩ ?_
      exact s_X10_take_j59_33 hG hf hK
    · replace hf := iteT (b2i_ne0 c46) hf
      refine V_aload_n d_X10_take_49 rfl rfl ?_
      refine B_get k_262 fl_RX10_9 d_X10_take_50 g_10_1 ?_
      refine V_iload_n d_X10_take_53 rfl rfl ?_
      refine V_dup2 d_X10_take_54 rfl rfl ?_
      obtain ⟨t2, ht2, hf⟩ := ob hf
      refine B_iald k_263 ht2 d_X10_take_55 ?_
      refine V_iconst (v := 1) d_X10_take_56 ic_1 ?_
      refine V_iadd d_X10_take_57 ?_
      obtain ⟨μ3, hμ3, hf⟩ := ob hf
      refine B_iast k_263 hμ3 d_X10_take_58 ?_
      refine V_less (ls' := [some _, some _, some _]) ⟨rfl, rfl, rfl, trivial⟩ ?_
      exact s_X10_take_j59_33 hG hf hK
theorem s_X10_take_j65 {G : Gl} (hG : G.1.stackTraces = false) {C : Cx} {n : Nat} {μ : Mem}  {r : Mem} (hf : f_X10_take_j65 μ = some r) (hK : FinR G C F_X10_take none none r) : V G C F_X10_take 65 [none, none, none] [] (pic G μ) n 0 0 := by
  unfold f_X10_take_j65 at hf
  cases hf
  exact R_v hK d_X10_take_65 (Nat.le_of_ble_eq_true rfl) (Nat.le_of_ble_eq_true rfl)
theorem s_X10_take_l33 {G : Gl} (hG : G.1.stackTraces = false) {C : Cx} {n : Nat} {μ : Mem} {l1 : Int32} {l2 : Int32} {r : Mem} (hf : f_X10_take_l33 μ l1 l2 = some r) (hK : FinR G C F_X10_take none none r) : V G C F_X10_take 33 [some (.ref (G.2.1 + 262)), some (.int l1), some (.int l2)] [] (pic G μ) n 0 0 := by
  unfold f_X10_take_l33 at hf
  obtain ⟨t, hl, hf⟩ := ob hf
  refine loopV (P := fun z => ∀ n, V G C F_X10_take 33 [some (.ref (G.2.1 + 262)), some (.int l1), some (.int z.1)] [] (pic G z.2) n 0 0) (t := t) ?_ _ _ hl n
  intro z y' hy hI hT n
  refine s_X10_take_b33 hG hy ⟨hI, fun x9 ex => ?_⟩
  have ex2 := hT x9 ex
  subst ex2
  intro n
  exact s_X10_take_j65 hG hf hK
theorem s_X10_take_e {G : Gl} (hG : G.1.stackTraces = false) {C : Cx} {n : Nat} {μ : Mem} {p1 : Int32} {r : Mem} (hf : f_X10_take μ p1 = some r) (hK : FinR G C F_X10_take none none r) : V G C F_X10_take 0 [some (.ref (G.2.1 + 262)), some (.int p1), none] [] (pic G μ) n 0 0 := by
  unfold f_X10_take at hf
  refine V_aload_n d_X10_take_0 rfl rfl ?_
  refine V_aload_n d_X10_take_1 rfl rfl ?_
  refine B_get k_262 fl_RX10_19 d_X10_take_2 g_10_3 ?_
  have hJj1 : ∀ j1 : Int32, j1 = (if (μ 262 3) = 0 then p1 else ((μ 262 4) &&& p1)) → V G C F_X10_take 18 [some (.ref (G.2.1 + 262)), some (.int p1), none] [.int j1, .ref (G.2.1 + 262)] (pic G μ) n 0 0 := by
    intro j1 ej1
    subst ej1
    refine B_putI k_262 fl_RX10_22 pt_10_4 (Nat.le_of_ble_eq_true rfl) p_10_4 d_X10_take_18 ?_
    refine V_aload_n d_X10_take_21 rfl rfl ?_
    refine V_dup d_X10_take_22 rfl ?_
    refine B_get k_262 fl_RX10_19 d_X10_take_23 g_10_3 ?_
    refine V_iconst (v := 1) d_X10_take_26 ic_1 ?_
    refine V_iadd d_X10_take_27 ?_
    refine B_putI k_262 fl_RX10_19 pt_10_3 (Nat.le_of_ble_eq_true rfl) p_10_3 d_X10_take_28 ?_
    refine V_iconst (v := 0) d_X10_take_31 ic_0 ?_
    refine V_istore_n (ls' := [_, _, _]) d_X10_take_32 rfl rfl rfl ?_
    refine V_less (ls' := [some _, some _, some _]) ⟨rfl, rfl, rfl, trivial⟩ ?_
    exact s_X10_take_l33 hG hf hK
  refine V_if_ne (tgt := 12) d_X10_take_5 (by decide) (fun c5 => ?_) (fun c5 => ?_)
  · refine V_aload_n d_X10_take_12 rfl rfl ?_
    refine B_get k_262 fl_RX10_22 d_X10_take_13 g_10_4 ?_
    refine V_iload_n d_X10_take_16 rfl rfl ?_
    refine V_iand d_X10_take_17 ?_
    refine V_less (ls' := [some _, some _, none]) ⟨rfl, rfl, trivial⟩ ?_
    exact hJj1 ((μ 262 4) &&& p1) (by rw [if_neg c5])
  · refine V_iload_n d_X10_take_8 rfl rfl ?_
    refine V_goto (tgt := 18) d_X10_take_9 (by decide) ?_
    refine V_less (ls' := [some _, some _, none]) ⟨rfl, rfl, trivial⟩ ?_
    exact hJj1 p1 (by rw [if_pos c5])
theorem s_X10_take {G : Gl} (hG : G.1.stackTraces = false) {μ : Mem} {p1 : Int32} {r : Mem} (hf : f_X10_take μ p1 = some r) : Rt G yX10_take F_X10_take none [.ref (G.2.1 + 262), .int p1] μ none r := fun n => Sd.of hG ⟨by decide +kernel, rfl, rfl⟩ rfl (Nat.le_of_ble_eq_true rfl) rfl (fun C hK => s_X10_take_e hG hf hK)
theorem d_X10_seek_0 : decode F_X10_seek.2.1 0 = .ok (.aload_n 0, 1) := by decide +kernel
theorem d_X10_seek_1 : decode F_X10_seek.2.1 1 = .ok (.iload_n 2, 1) := by decide +kernel
theorem d_X10_seek_2 : decode F_X10_seek.2.1 2 = .ok (.putfield 15, 3) := by decide +kernel
theorem d_X10_seek_5 : decode F_X10_seek.2.1 5 = .ok (.aload_n 0, 1) := by decide +kernel
theorem d_X10_seek_6 : decode F_X10_seek.2.1 6 = .ok (.iconst 0, 1) := by decide +kernel
theorem d_X10_seek_7 : decode F_X10_seek.2.1 7 = .ok (.putfield 19, 3) := by decide +kernel
theorem d_X10_seek_10 : decode F_X10_seek.2.1 10 = .ok (.aload_n 0, 1) := by decide +kernel
theorem d_X10_seek_11 : decode F_X10_seek.2.1 11 = .ok (.iconst 0, 1) := by decide +kernel
theorem d_X10_seek_12 : decode F_X10_seek.2.1 12 = .ok (.putfield 22, 3) := by decide +kernel
theorem d_X10_seek_15 : decode F_X10_seek.2.1 15 = .ok (.iconst 0, 1) := by decide +kernel
theorem d_X10_seek_16 : decode F_X10_seek.2.1 16 = .ok (.istore_n 3, 1) := by decide +kernel
theorem d_X10_seek_17 : decode F_X10_seek.2.1 17 = .ok (.iload_n 3, 1) := by decide +kernel
theorem d_X10_seek_18 : decode F_X10_seek.2.1 18 = .ok (.aload_n 0, 1) := by decide +kernel
theorem d_X10_seek_19 : decode F_X10_seek.2.1 19 = .ok (.getfield 15, 3) := by decide +kernel
theorem d_X10_seek_22 : decode F_X10_seek.2.1 22 = .ok (.if_icmp .ge 16, 3) := by decide +kernel
theorem d_X10_seek_25 : decode F_X10_seek.2.1 25 = .ok (.aload_n 0, 1) := by decide +kernel
theorem d_X10_seek_26 : decode F_X10_seek.2.1 26 = .ok (.getfield 9, 3) := by decide +kernel
theorem d_X10_seek_29 : decode F_X10_seek.2.1 29 = .ok (.iload_n 3, 1) := by decide +kernel
theorem d_X10_seek_30 : decode F_X10_seek.2.1 30 = .ok (.iconst 0, 1) := by decide +kernel
theorem d_X10_seek_31 : decode F_X10_seek.2.1 31 = .ok (.iastore, 1) := by decide +kernel
theorem d_X10_seek_32 : decode F_X10_seek.2.1 32 = .ok (.iinc 3 1, 3) := by decide +kernel
theorem d_X10_seek_35 : decode F_X10_seek.2.1 35 = .ok (.goto (-18), 3) := by decide +kernel
theorem d_X10_seek_38 : decode F_X10_seek.2.1 38 = .ok (.iconst 0, 1) := by decide +kernel
theorem d_X10_seek_39 : decode F_X10_seek.2.1 39 = .ok (.istore_n 3, 1) := by decide +kernel
theorem d_X10_seek_40 : decode F_X10_seek.2.1 40 = .ok (.iload_n 3, 1) := by decide +kernel
theorem d_X10_seek_41 : decode F_X10_seek.2.1 41 = .ok (.iconst 1, 1) := by decide +kernel
theorem d_X10_seek_42 : decode F_X10_seek.2.1 42 = .ok (.aload_n 0, 1) := by decide +kernel
theorem d_X10_seek_43 : decode F_X10_seek.2.1 43 = .ok (.getfield 15, 3) := by decide +kernel
theorem d_X10_seek_46 : decode F_X10_seek.2.1 46 = .ok (.ishl, 1) := by decide +kernel
theorem d_X10_seek_47 : decode F_X10_seek.2.1 47 = .ok (.if_icmp .ge 23, 3) := by decide +kernel
theorem d_X10_seek_50 : decode F_X10_seek.2.1 50 = .ok (.aload_n 0, 1) := by decide +kernel
theorem d_X10_seek_51 : decode F_X10_seek.2.1 51 = .ok (.iload_n 3, 1) := by decide +kernel
theorem d_X10_seek_52 : decode F_X10_seek.2.1 52 = .ok (.iload_n 1, 1) := by decide +kernel
theorem d_X10_seek_53 : decode F_X10_seek.2.1 53 = .ok (.invokevirtual 34, 3) := by decide +kernel
theorem d_X10_seek_56 : decode F_X10_seek.2.1 56 = .ok (.ifCond .eq 8, 3) := by decide +kernel
theorem d_X10_seek_59 : decode F_X10_seek.2.1 59 = .ok (.aload_n 0, 1) := by decide +kernel
theorem d_X10_seek_60 : decode F_X10_seek.2.1 60 = .ok (.iload_n 3, 1) := by decide +kernel
theorem d_X10_seek_61 : decode F_X10_seek.2.1 61 = .ok (.invokevirtual 38, 3) := by decide +kernel
theorem d_X10_seek_64 : decode F_X10_seek.2.1 64 = .ok (.iinc 3 1, 3) := by decide +kernel
theorem d_X10_seek_67 : decode F_X10_seek.2.1 67 = .ok (.goto (-27), 3) := by decide +kernel
theorem d_X10_seek_70 : decode F_X10_seek.2.1 70 = .ok (.return_, 1) := by decide +kernel
def f_X10_seek_b17 (μ : Mem) (l1 : Int32) (l3 : Int32) : Option ((Int32 × Mem) ⊕ Mem) :=
if (μ 262 2) ≤ l3 then
some (.inr μ)
else
Option.bind (wr μ 263 6 l3 0) fun μ1 =>
some (.inl ((l3 + 1), μ1))
def f_X10_seek_j64_40 (μ : Mem) (l1 : Int32) (l3 : Int32) : Option ((Int32 × Mem) ⊕ Mem) :=
some (.inl ((l3 + 1), μ))
def f_X10_seek_b40 (μ : Mem) (l1 : Int32) (l3 : Int32) : Option ((Int32 × Mem) ⊕ Mem) :=
if (1 <<< ((μ 262 2) &&& 31)) ≤ l3 then
some (.inr μ)
else
Option.bind (f_X10_fits μ l3 l1) fun t1 =>
if t1 = true then
Option.bind (f_X10_take μ l3) fun q2 =>
f_X10_seek_j64_40 q2 l1 l3
else
f_X10_seek_j64_40 μ l1 l3
def f_X10_seek_j70 (μ : Mem) : Option Mem :=
some μ
def f_X10_seek_l40 (μ : Mem) (l1 : Int32) (l3 : Int32) : Option Mem := Option.bind (loopN 10000 (fun z : (Int32 × Mem) => f_X10_seek_b40 z.2 l1 z.1) (l3, μ)) fun t : Mem => f_X10_seek_j70 t
def f_X10_seek_j38 (μ : Mem) (l1 : Int32) : Option Mem :=
f_X10_seek_l40 μ l1 0
def f_X10_seek_l17 (μ : Mem) (l1 : Int32) (l3 : Int32) : Option Mem := Option.bind (loopN 10000 (fun z : (Int32 × Mem) => f_X10_seek_b17 z.2 l1 z.1) (l3, μ)) fun t : Mem => f_X10_seek_j38 t l1
def f_X10_seek (μ : Mem) (p1 : Int32) (p2 : Int32) : Option Mem :=
f_X10_seek_l17 (mset (mset (mset μ 262 2 p2) 262 3 0) 262 4 0) p1 0
theorem s_X10_seek_b17 {G : Gl} (hG : G.1.stackTraces = false) {C : Cx} {n : Nat} {μ : Mem} {l1 : Int32} {l3 : Int32} {y : ((Int32 × Mem) ⊕ Mem)} (hf : f_X10_seek_b17 μ l1 l3 = some y) (hK : (∀ z', y = .inl z' → ∀ n, V G C F_X10_seek 17 [some (.ref (G.2.1 + 262)), some (.int l1), none, some (.int z'.1)] [] (pic G z'.2) n 0 0) ∧ (∀ x', y = .inr x' → ∀ n, V G C F_X10_seek 38 [some (.ref (G.2.1 + 262)), some (.int l1), none, none] [] (pic G x') n 0 0)) : V G C F_X10_seek 17 [some (.ref (G.2.1 + 262)), some (.int l1), none, some (.int l3)] [] (pic G μ) n 0 0 := by
  unfold f_X10_seek_b17 at hf
  refine V_iload_n d_X10_seek_17 rfl rfl ?_
  refine V_aload_n d_X10_seek_18 rfl rfl ?_
  refine B_get k_262 fl_RX10_15 d_X10_seek_19 g_10_2 ?_
  refine V_icmp_ge (tgt := 38) d_X10_seek_22 (by decide) (fun c22 => ?_) (fun c22 => ?_)
  · replace hf := iteT c22 hf
    refine V_less (ls' := [some _, some _, none, none]) ⟨rfl, rfl, trivial⟩ ?_
    cases hf
    exact hK.2 _ rfl _
  · replace hf := iteF c22 hf
    refine V_aload_n d_X10_seek_25 rfl rfl ?_
    refine B_get k_262 fl_RX10_9 d_X10_seek_26 g_10_1 ?_
    refine V_iload_n d_X10_seek_29 rfl rfl ?_
    refine V_iconst (v := 0) d_X10_seek_30 ic_0 ?_
    obtain ⟨μ1, hμ1, hf⟩ := ob hf
    refine B_iast k_263 hμ1 d_X10_seek_31 ?_
    refine V_iinc (v := (l3 + 1)) (ls' := [_, _, _, _]) d_X10_seek_32 rfl (by rw [ic_1]) rfl ?_
    refine V_goto (tgt := 17) d_X10_seek_35 (by decide) ?_
    refine V_less (ls' := [some _, some _, none, some _]) ⟨rfl, rfl, rfl, trivial⟩ ?_
    cases hf
    exact hK.1 _ rfl _
theorem s_X10_seek_j64_40 {G : Gl} (hG : G.1.stackTraces = false) {C : Cx} {n : Nat} {μ : Mem} {l1 : Int32} {l3 : Int32} {y : ((Int32 × Mem) ⊕ Mem)} (hf : f_X10_seek_j64_40 μ l1 l3 = some y) (hK : (∀ z', y = .inl z' → ∀ n, V G C F_X10_seek 40 [some (.ref (G.2.1 + 262)), some (.int l1), none, some (.int z'.1)] [] (pic G z'.2) n 0 0) ∧ (∀ x', y = .inr x' → ∀ n, V G C F_X10_seek 70 [none, none, none, none] [] (pic G x') n 0 0)) : V G C F_X10_seek 64 [some (.ref (G.2.1 + 262)), some (.int l1), none, some (.int l3)] [] (pic G μ) n 0 0 := by
  unfold f_X10_seek_j64_40 at hf
  refine V_iinc (v := (l3 + 1)) (ls' := [_, _, _, _]) d_X10_seek_64 rfl (by rw [ic_1]) rfl ?_
  refine V_goto (tgt := 40) d_X10_seek_67 (by decide) ?_
  refine V_less (ls' := [some _, some _, none, some _]) ⟨rfl, rfl, rfl, trivial⟩ ?_
  cases hf
  exact hK.1 _ rfl _
theorem s_X10_seek_b40 {G : Gl} (hG : G.1.stackTraces = false) {C : Cx} {n : Nat} {μ : Mem} {l1 : Int32} {l3 : Int32} {y : ((Int32 × Mem) ⊕ Mem)} (hf : f_X10_seek_b40 μ l1 l3 = some y) (hK : (∀ z', y = .inl z' → ∀ n, V G C F_X10_seek 40 [some (.ref (G.2.1 + 262)), some (.int l1), none, some (.int z'.1)] [] (pic G z'.2) n 0 0) ∧ (∀ x', y = .inr x' → ∀ n, V G C F_X10_seek 70 [none, none, none, none] [] (pic G x') n 0 0)) : V G C F_X10_seek 40 [some (.ref (G.2.1 + 262)), some (.int l1), none, some (.int l3)] [] (pic G μ) n 0 0 := by
  unfold f_X10_seek_b40 at hf
  refine V_iload_n d_X10_seek_40 rfl rfl ?_
  refine V_iconst (v := 1) d_X10_seek_41 ic_1 ?_
  refine V_aload_n d_X10_seek_42 rfl rfl ?_
  refine B_get k_262 fl_RX10_15 d_X10_seek_43 g_10_2 ?_
  refine V_ishl d_X10_seek_46 ?_
  refine V_icmp_ge (tgt := 70) d_X10_seek_47 (by decide) (fun c47 => ?_) (fun c47 => ?_)
  · replace hf := iteT c47 hf
    refine V_less (ls' := [none, none, none, none]) trivial ?_
    cases hf
    exact hK.2 _ rfl _
  · replace hf := iteF c47 hf
    refine V_aload_n d_X10_seek_50 rfl rfl ?_
    refine V_iload_n d_X10_seek_51 rfl rfl ?_
    refine V_iload_n d_X10_seek_52 rfl rfl ?_
    obtain ⟨t1, ht1, hf⟩ := ob hf
    refine B_callV1 (s_X10_fits hG ht1) k_262 clX10 m_X10_fits kv_RX10_34 d_X10_seek_53 rfl (Nat.le_of_ble_eq_true rfl) ⟨rfl, rfl, Nat.le_of_ble_eq_true rfl, Nat.le_of_ble_eq_true rfl, Nat.le_of_ble_eq_true rfl⟩ (fun n => ?_)
    refine V_if_eq (tgt := 64) d_X10_seek_56 (by decide) (fun c56 => ?_) (fun c56 => ?_)
    · replace hf := iteF (b2i_nt (b2i_eq0 c56)) hf
      refine V_less (ls' := [some _, some _, none, some _]) ⟨rfl, rfl, rfl, trivial⟩ ?_
      exact s_X10_seek_j64_40 hG hf hK
    · replace hf := iteT (b2i_ne0 c56) hf
      refine V_aload_n d_X10_seek_59 rfl rfl ?_
      refine V_iload_n d_X10_seek_60 rfl rfl ?_
      obtain ⟨q2, hq2, hf⟩ := ob hf
      refine B_callV0 (s_X10_take hG hq2) k_262 clX10 m_X10_take kv_RX10_38 d_X10_seek_61 rfl (Nat.le_of_ble_eq_true rfl) ⟨rfl, rfl, Nat.le_of_ble_eq_true rfl, Nat.le_of_ble_eq_true rfl, Nat.le_of_ble_eq_true rfl⟩ (fun n => ?_)
      refine V_less (ls' := [some _, some _, none, some _]) ⟨rfl, rfl, rfl, trivial⟩ ?_
      exact s_X10_seek_j64_40 hG hf hK
theorem s_X10_seek_j70 {G : Gl} (hG : G.1.stackTraces = false) {C : Cx} {n : Nat} {μ : Mem}  {r : Mem} (hf : f_X10_seek_j70 μ = some r) (hK : FinR G C F_X10_seek none none r) : V G C F_X10_seek 70 [none, none, none, none] [] (pic G μ) n 0 0 := by
  unfold f_X10_seek_j70 at hf
  cases hf
  exact R_v hK d_X10_seek_70 (Nat.le_of_ble_eq_true rfl) (Nat.le_of_ble_eq_true rfl)
theorem s_X10_seek_l40 {G : Gl} (hG : G.1.stackTraces = false) {C : Cx} {n : Nat} {μ : Mem} {l1 : Int32} {l3 : Int32} {r : Mem} (hf : f_X10_seek_l40 μ l1 l3 = some r) (hK : FinR G C F_X10_seek none none r) : V G C F_X10_seek 40 [some (.ref (G.2.1 + 262)), some (.int l1), none, some (.int l3)] [] (pic G μ) n 0 0 := by
  unfold f_X10_seek_l40 at hf
  obtain ⟨t, hl, hf⟩ := ob hf
  refine loopV (P := fun z => ∀ n, V G C F_X10_seek 40 [some (.ref (G.2.1 + 262)), some (.int l1), none, some (.int z.1)] [] (pic G z.2) n 0 0) (t := t) ?_ _ _ hl n
  intro z y' hy hI hT n
  refine s_X10_seek_b40 hG hy ⟨hI, fun x9 ex => ?_⟩
  have ex2 := hT x9 ex
  subst ex2
  intro n
  exact s_X10_seek_j70 hG hf hK
theorem s_X10_seek_j38 {G : Gl} (hG : G.1.stackTraces = false) {C : Cx} {n : Nat} {μ : Mem} {l1 : Int32} {r : Mem} (hf : f_X10_seek_j38 μ l1 = some r) (hK : FinR G C F_X10_seek none none r) : V G C F_X10_seek 38 [some (.ref (G.2.1 + 262)), some (.int l1), none, none] [] (pic G μ) n 0 0 := by
  unfold f_X10_seek_j38 at hf
  refine V_iconst (v := 0) d_X10_seek_38 ic_0 ?_
  refine V_istore_n (ls' := [_, _, _, _]) d_X10_seek_39 rfl rfl rfl ?_
  refine V_less (ls' := [some _, some _, none, some _]) ⟨rfl, rfl, rfl, trivial⟩ ?_
  exact s_X10_seek_l40 hG hf hK
theorem s_X10_seek_l17 {G : Gl} (hG : G.1.stackTraces = false) {C : Cx} {n : Nat} {μ : Mem} {l1 : Int32} {l3 : Int32} {r : Mem} (hf : f_X10_seek_l17 μ l1 l3 = some r) (hK : FinR G C F_X10_seek none none r) : V G C F_X10_seek 17 [some (.ref (G.2.1 + 262)), some (.int l1), none, some (.int l3)] [] (pic G μ) n 0 0 := by
  unfold f_X10_seek_l17 at hf
  obtain ⟨t, hl, hf⟩ := ob hf
  refine loopV (P := fun z => ∀ n, V G C F_X10_seek 17 [some (.ref (G.2.1 + 262)), some (.int l1), none, some (.int z.1)] [] (pic G z.2) n 0 0) (t := t) ?_ _ _ hl n
  intro z y' hy hI hT n
  refine s_X10_seek_b17 hG hy ⟨hI, fun x9 ex => ?_⟩
  have ex2 := hT x9 ex
  subst ex2
  intro n
  exact s_X10_seek_j38 hG hf hK
theorem s_X10_seek_e {G : Gl} (hG : G.1.stackTraces = false) {C : Cx} {n : Nat} {μ : Mem} {p1 : Int32} {p2 : Int32} {r : Mem} (hf : f_X10_seek μ p1 p2 = some r) (hK : FinR G C F_X10_seek none none r) : V G C F_X10_seek 0 [some (.ref (G.2.1 + 262)), some (.int p1), some (.int p2), none] [] (pic G μ) n 0 0 := by
  unfold f_X10_seek at hf
  refine V_aload_n d_X10_seek_0 rfl rfl ?_
  refine V_iload_n d_X10_seek_1 rfl rfl ?_
  refine B_putI k_262 fl_RX10_15 pt_10_2 (Nat.le_of_ble_eq_true rfl) p_10_2 d_X10_seek_2 ?_
  refine V_aload_n d_X10_seek_5 rfl rfl ?_
  refine V_iconst (v := 0) d_X10_seek_6 ic_0 ?_
  refine B_putI k_262 fl_RX10_19 pt_10_3 (Nat.le_of_ble_eq_true rfl) p_10_3 d_X10_seek_7 ?_
  refine V_aload_n d_X10_seek_10 rfl rfl ?_
  refine V_iconst (v := 0) d_X10_seek_11 ic_0 ?_
  refine B_putI k_262 fl_RX10_22 pt_10_4 (Nat.le_of_ble_eq_true rfl) p_10_4 d_X10_seek_12 ?_
  refine V_iconst (v := 0) d_X10_seek_15 ic_0 ?_
  refine V_istore_n (ls' := [_, _, _, _]) d_X10_seek_16 rfl rfl rfl ?_
  refine V_less (ls' := [some _, some _, none, some _]) ⟨rfl, rfl, rfl, trivial⟩ ?_
  exact s_X10_seek_l17 hG hf hK
theorem s_X10_seek {G : Gl} (hG : G.1.stackTraces = false) {μ : Mem} {p1 : Int32} {p2 : Int32} {r : Mem} (hf : f_X10_seek μ p1 p2 = some r) : Rt G yX10_seek F_X10_seek none [.ref (G.2.1 + 262), .int p1, .int p2] μ none r := fun n => Sd.of hG ⟨by decide +kernel, rfl, rfl⟩ rfl (Nat.le_of_ble_eq_true rfl) rfl (fun C hK => s_X10_seek_e hG hf hK)
theorem d_X10_parting_0 : decode F_X10_parting.2.1 0 = .ok (.iconst (-1), 1) := by decide +kernel
theorem d_X10_parting_1 : decode F_X10_parting.2.1 1 = .ok (.istore_n 1, 1) := by decide +kernel
theorem d_X10_parting_2 : decode F_X10_parting.2.1 2 = .ok (.aload_n 0, 1) := by decide +kernel
theorem d_X10_parting_3 : decode F_X10_parting.2.1 3 = .ok (.getfield 19, 3) := by decide +kernel
theorem d_X10_parting_6 : decode F_X10_parting.2.1 6 = .ok (.istore_n 2, 1) := by decide +kernel
theorem d_X10_parting_7 : decode F_X10_parting.2.1 7 = .ok (.iconst 0, 1) := by decide +kernel
theorem d_X10_parting_8 : decode F_X10_parting.2.1 8 = .ok (.istore_n 3, 1) := by decide +kernel
theorem d_X10_parting_9 : decode F_X10_parting.2.1 9 = .ok (.iload_n 3, 1) := by decide +kernel
theorem d_X10_parting_10 : decode F_X10_parting.2.1 10 = .ok (.aload_n 0, 1) := by decide +kernel
theorem d_X10_parting_11 : decode F_X10_parting.2.1 11 = .ok (.getfield 15, 3) := by decide +kernel
theorem d_X10_parting_14 : decode F_X10_parting.2.1 14 = .ok (.if_icmp .ge 50, 3) := by decide +kernel
theorem d_X10_parting_17 : decode F_X10_parting.2.1 17 = .ok (.aload_n 0, 1) := by decide +kernel
theorem d_X10_parting_18 : decode F_X10_parting.2.1 18 = .ok (.getfield 19, 3) := by decide +kernel
theorem d_X10_parting_21 : decode F_X10_parting.2.1 21 = .ok (.iconst 1, 1) := by decide +kernel
theorem d_X10_parting_22 : decode F_X10_parting.2.1 22 = .ok (.if_icmp .le 42, 3) := by decide +kernel
theorem d_X10_parting_25 : decode F_X10_parting.2.1 25 = .ok (.aload_n 0, 1) := by decide +kernel
theorem d_X10_parting_26 : decode F_X10_parting.2.1 26 = .ok (.getfield 9, 3) := by decide +kernel
theorem d_X10_parting_29 : decode F_X10_parting.2.1 29 = .ok (.iload_n 3, 1) := by decide +kernel
theorem d_X10_parting_30 : decode F_X10_parting.2.1 30 = .ok (.iaload, 1) := by decide +kernel
theorem d_X10_parting_31 : decode F_X10_parting.2.1 31 = .ok (.aload_n 0, 1) := by decide +kernel
theorem d_X10_parting_32 : decode F_X10_parting.2.1 32 = .ok (.getfield 19, 3) := by decide +kernel
theorem d_X10_parting_35 : decode F_X10_parting.2.1 35 = .ok (.aload_n 0, 1) := by decide +kernel
theorem d_X10_parting_36 : decode F_X10_parting.2.1 36 = .ok (.getfield 9, 3) := by decide +kernel
theorem d_X10_parting_39 : decode F_X10_parting.2.1 39 = .ok (.iload_n 3, 1) := by decide +kernel
theorem d_X10_parting_40 : decode F_X10_parting.2.1 40 = .ok (.iaload, 1) := by decide +kernel
theorem d_X10_parting_41 : decode F_X10_parting.2.1 41 = .ok (.isub, 1) := by decide +kernel
theorem d_X10_parting_42 : decode F_X10_parting.2.1 42 = .ok (.invokestatic 42, 3) := by decide +kernel
theorem d_X10_parting_45 : decode F_X10_parting.2.1 45 = .ok (.istore 4, 2) := by decide +kernel
theorem d_X10_parting_47 : decode F_X10_parting.2.1 47 = .ok (.iload 4, 2) := by decide +kernel
theorem d_X10_parting_49 : decode F_X10_parting.2.1 49 = .ok (.iload_n 2, 1) := by decide +kernel
theorem d_X10_parting_50 : decode F_X10_parting.2.1 50 = .ok (.if_icmp .ge 8, 3) := by decide +kernel
theorem d_X10_parting_53 : decode F_X10_parting.2.1 53 = .ok (.iload 4, 2) := by decide +kernel
theorem d_X10_parting_55 : decode F_X10_parting.2.1 55 = .ok (.istore_n 2, 1) := by decide +kernel
theorem d_X10_parting_56 : decode F_X10_parting.2.1 56 = .ok (.iload_n 3, 1) := by decide +kernel
theorem d_X10_parting_57 : decode F_X10_parting.2.1 57 = .ok (.istore_n 1, 1) := by decide +kernel
theorem d_X10_parting_58 : decode F_X10_parting.2.1 58 = .ok (.iinc 3 1, 3) := by decide +kernel
theorem d_X10_parting_61 : decode F_X10_parting.2.1 61 = .ok (.goto (-52), 3) := by decide +kernel
theorem d_X10_parting_64 : decode F_X10_parting.2.1 64 = .ok (.iload_n 1, 1) := by decide +kernel
theorem d_X10_parting_65 : decode F_X10_parting.2.1 65 = .ok (.ireturn, 1) := by decide +kernel
def f_X10_parting_j58_9 (μ : Mem) (l1 : Int32) (l2 : Int32) (l3 : Int32) : Option ((Int32 × Int32 × Int32) ⊕ Int32) :=
some (.inl (l1, l2, (l3 + 1)))
def f_X10_parting_b9 (μ : Mem) (l1 : Int32) (l2 : Int32) (l3 : Int32) : Option ((Int32 × Int32 × Int32) ⊕ Int32) :=
if (μ 262 2) ≤ l3 then
some (.inr l1)
else
if (μ 262 3) ≤ 1 then
some (.inr l1)
else
Option.bind (rd μ 263 6 l3) fun t1 =>
Option.bind (rd μ 263 6 l3) fun t2 =>
Option.bind (f_J9_max_7cf53 μ t1 ((μ 262 3) - t2)) fun t3 =>
if l2 ≤ t3 then
f_X10_parting_j58_9 μ l1 l2 l3
else
f_X10_parting_j58_9 μ l3 t3 l3
def f_X10_parting_j64 (μ : Mem) (l1 : Int32) : Option Int32 :=
some l1
def f_X10_parting_l9 (μ : Mem) (l1 : Int32) (l2 : Int32) (l3 : Int32) : Option Int32 := Option.bind (loopN 10000 (fun z : (Int32 × Int32 × Int32) => f_X10_parting_b9 μ z.1 z.2.1 z.2.2) (l1, l2, l3)) fun t : Int32 => f_X10_parting_j64 μ t
def f_X10_parting (μ : Mem) : Option Int32 :=
f_X10_parting_l9 μ (-1) (μ 262 3) 0
theorem s_X10_parting_j58_9 {G : Gl} (hG : G.1.stackTraces = false) {C : Cx} {n : Nat} {μ : Mem} {l1 : Int32} {l2 : Int32} {l3 : Int32} {y : ((Int32 × Int32 × Int32) ⊕ Int32)} (hf : f_X10_parting_j58_9 μ l1 l2 l3 = some y) (hK : (∀ z', y = .inl z' → ∀ n, V G C F_X10_parting 9 [some (.ref (G.2.1 + 262)), some (.int z'.1), some (.int z'.2.1), some (.int z'.2.2), none] [] (pic G μ) n 0 0) ∧ (∀ x', y = .inr x' → ∀ n, V G C F_X10_parting 64 [none, some (.int x'), none, none, none] [] (pic G μ) n 0 0)) : V G C F_X10_parting 58 [some (.ref (G.2.1 + 262)), some (.int l1), some (.int l2), some (.int l3), none] [] (pic G μ) n 0 0 := by
  unfold f_X10_parting_j58_9 at hf
  refine V_iinc (v := (l3 + 1)) (ls' := [_, _, _, _, _]) d_X10_parting_58 rfl (by rw [ic_1]) rfl ?_
  refine V_goto (tgt := 9) d_X10_parting_61 (by decide) ?_
  refine V_less (ls' := [some _, some _, some _, some _, none]) ⟨rfl, rfl, rfl, rfl, trivial⟩ ?_
  cases hf
  exact hK.1 _ rfl _
theorem s_X10_parting_b9 {G : Gl} (hG : G.1.stackTraces = false) {C : Cx} {n : Nat} {μ : Mem} {l1 : Int32} {l2 : Int32} {l3 : Int32} {y : ((Int32 × Int32 × Int32) ⊕ Int32)} (hf : f_X10_parting_b9 μ l1 l2 l3 = some y) (hK : (∀ z', y = .inl z' → ∀ n, V G C F_X10_parting 9 [some (.ref (G.2.1 + 262)), some (.int z'.1), some (.int z'.2.1), some (.int z'.2.2), none] [] (pic G μ) n 0 0) ∧ (∀ x', y = .inr x' → ∀ n, V G C F_X10_parting 64 [none, some (.int x'), none, none, none] [] (pic G μ) n 0 0)) : V G C F_X10_parting 9 [some (.ref (G.2.1 + 262)), some (.int l1), some (.int l2), some (.int l3), none] [] (pic G μ) n 0 0 := by
  unfold f_X10_parting_b9 at hf
  refine V_iload_n d_X10_parting_9 rfl rfl ?_
  refine V_aload_n d_X10_parting_10 rfl rfl ?_
  refine B_get k_262 fl_RX10_15 d_X10_parting_11 g_10_2 ?_
  refine V_icmp_ge (tgt := 64) d_X10_parting_14 (by decide) (fun c14 => ?_) (fun c14 => ?_)
  · replace hf := iteT c14 hf
    refine V_less (ls' := [none, some _, none, none, none]) ⟨rfl, trivial⟩ ?_
    cases hf
    exact hK.2 _ rfl _
  · replace hf := iteF c14 hf
    refine V_aload_n d_X10_parting_17 rfl rfl ?_
    refine B_get k_262 fl_RX10_19 d_X10_parting_18 g_10_3 ?_
    refine V_iconst (v := 1) d_X10_parting_21 ic_1 ?_
    refine V_icmp_le (tgt := 64) d_X10_parting_22 (by decide) (fun c22 => ?_) (fun c22 => ?_)
    · replace hf := iteT c22 hf
      refine V_less (ls' := [none, some _, none, none, none]) ⟨rfl, trivial⟩ ?_
      cases hf
      exact hK.2 _ rfl _
    · replace hf := iteF c22 hf
      refine V_aload_n d_X10_parting_25 rfl rfl ?_
      refine B_get k_262 fl_RX10_9 d_X10_parting_26 g_10_1 ?_
      refine V_iload_n d_X10_parting_29 rfl rfl ?_
      obtain ⟨t1, ht1, hf⟩ := ob hf
      refine B_iald k_263 ht1 d_X10_parting_30 ?_
      refine V_aload_n d_X10_parting_31 rfl rfl ?_
      refine B_get k_262 fl_RX10_19 d_X10_parting_32 g_10_3 ?_
      refine V_aload_n d_X10_parting_35 rfl rfl ?_
      refine B_get k_262 fl_RX10_9 d_X10_parting_36 g_10_1 ?_
      refine V_iload_n d_X10_parting_39 rfl rfl ?_
      obtain ⟨t2, ht2, hf⟩ := ob hf
      refine B_iald k_263 ht2 d_X10_parting_40 ?_
      refine V_isub d_X10_parting_41 ?_
      obtain ⟨t3, ht3, hf⟩ := ob hf
      refine B_callS1 (s_J9_max_7cf53 hG ht3) m_J9_max_7cf53 ks_RX10_42 d_X10_parting_42 rfl (Nat.le_of_ble_eq_true rfl) ⟨rfl, rfl, Nat.le_of_ble_eq_true rfl, Nat.le_of_ble_eq_true rfl, Nat.le_of_ble_eq_true rfl⟩ (fun n => ?_)
      refine V_istore (ls' := [_, _, _, _, _]) d_X10_parting_45 rfl rfl ?_
      refine V_iload d_X10_parting_47 rfl ?_
      refine V_iload_n d_X10_parting_49 rfl rfl ?_
      refine V_icmp_ge (tgt := 58) d_X10_parting_50 (by decide) (fun c50 => ?_) (fun c50 => ?_)
      · replace hf := iteT c50 hf
        refine V_less (ls' := [some _, some _, some _, some _, none]) ⟨rfl, rfl, rfl, rfl, trivial⟩ ?_
        exact s_X10_parting_j58_9 hG hf hK
      · replace hf := iteF c50 hf
        refine V_iload d_X10_parting_53 rfl ?_
        refine V_istore_n (ls' := [_, _, _, _, _]) d_X10_parting_55 rfl rfl rfl ?_
        refine V_iload_n d_X10_parting_56 rfl rfl ?_
        refine V_istore_n (ls' := [_, _, _, _, _]) d_X10_parting_57 rfl rfl rfl ?_
        refine V_less (ls' := [some _, some _, some _, some _, none]) ⟨rfl, rfl, rfl, rfl, trivial⟩ ?_
        exact s_X10_parting_j58_9 hG hf hK
theorem s_X10_parting_j64 {G : Gl} (hG : G.1.stackTraces = false) {C : Cx} {n : Nat} {μ : Mem} {l1 : Int32} {r : Int32} (hf : f_X10_parting_j64 μ l1 = some r) (hK : FinR G C F_X10_parting (some .int) (some (.int r)) μ) : V G C F_X10_parting 64 [none, some (.int l1), none, none, none] [] (pic G μ) n 0 0 := by
  unfold f_X10_parting_j64 at hf
  refine V_iload_n d_X10_parting_64 rfl rfl ?_
  cases hf
  exact R_i hK d_X10_parting_65 (Nat.le_of_ble_eq_true rfl) (Nat.le_of_ble_eq_true rfl)
theorem s_X10_parting_l9 {G : Gl} (hG : G.1.stackTraces = false) {C : Cx} {n : Nat} {μ : Mem} {l1 : Int32} {l2 : Int32} {l3 : Int32} {r : Int32} (hf : f_X10_parting_l9 μ l1 l2 l3 = some r) (hK : FinR G C F_X10_parting (some .int) (some (.int r)) μ) : V G C F_X10_parting 9 [some (.ref (G.2.1 + 262)), some (.int l1), some (.int l2), some (.int l3), none] [] (pic G μ) n 0 0 := by
  unfold f_X10_parting_l9 at hf
  obtain ⟨t, hl, hf⟩ := ob hf
  refine loopV (P := fun z => ∀ n, V G C F_X10_parting 9 [some (.ref (G.2.1 + 262)), some (.int z.1), some (.int z.2.1), some (.int z.2.2), none] [] (pic G μ) n 0 0) (t := t) ?_ _ _ hl n
  intro z y' hy hI hT n
  refine s_X10_parting_b9 hG hy ⟨hI, fun x9 ex => ?_⟩
  have ex2 := hT x9 ex
  subst ex2
  intro n
  exact s_X10_parting_j64 hG hf hK
theorem s_X10_parting_e {G : Gl} (hG : G.1.stackTraces = false) {C : Cx} {n : Nat} {μ : Mem}  {r : Int32} (hf : f_X10_parting μ = some r) (hK : FinR G C F_X10_parting (some .int) (some (.int r)) μ) : V G C F_X10_parting 0 [some (.ref (G.2.1 + 262)), none, none, none, none] [] (pic G μ) n 0 0 := by
  unfold f_X10_parting at hf
  refine V_iconst (v := (-1)) d_X10_parting_0 ic_m1 ?_
  refine V_istore_n (ls' := [_, _, _, _, _]) d_X10_parting_1 rfl rfl rfl ?_
  refine V_aload_n d_X10_parting_2 rfl rfl ?_
  refine B_get k_262 fl_RX10_19 d_X10_parting_3 g_10_3 ?_
  refine V_istore_n (ls' := [_, _, _, _, _]) d_X10_parting_6 rfl rfl rfl ?_
  refine V_iconst (v := 0) d_X10_parting_7 ic_0 ?_
  refine V_istore_n (ls' := [_, _, _, _, _]) d_X10_parting_8 rfl rfl rfl ?_
  refine V_less (ls' := [some _, some _, some _, some _, none]) ⟨rfl, rfl, rfl, rfl, trivial⟩ ?_
  exact s_X10_parting_l9 hG hf hK
theorem s_X10_parting {G : Gl} (hG : G.1.stackTraces = false) {μ : Mem} {r : Int32} (hf : f_X10_parting μ = some r) : Rt G yX10_parting F_X10_parting (some .int) [.ref (G.2.1 + 262)] μ (some (.int r)) μ := fun n => Sd.of hG ⟨by decide +kernel, rfl, rfl⟩ rfl (Nat.le_of_ble_eq_true rfl) rfl (fun C hK => s_X10_parting_e hG hf hK)
theorem d_X11_feed_0 : decode F_X11_feed.2.1 0 = .ok (.aload_n 0, 1) := by decide +kernel
theorem d_X11_feed_1 : decode F_X11_feed.2.1 1 = .ok (.getfield 10, 3) := by decide +kernel
theorem d_X11_feed_4 : decode F_X11_feed.2.1 4 = .ok (.getfield 94, 3) := by decide +kernel
theorem d_X11_feed_7 : decode F_X11_feed.2.1 7 = .ok (.bipush 20, 2) := by decide +kernel
theorem d_X11_feed_9 : decode F_X11_feed.2.1 9 = .ok (.iadd, 1) := by decide +kernel
theorem d_X11_feed_10 : decode F_X11_feed.2.1 10 = .ok (.sipush 400, 3) := by decide +kernel
theorem d_X11_feed_13 : decode F_X11_feed.2.1 13 = .ok (.if_icmp .le 5, 3) := by decide +kernel
theorem d_X11_feed_16 : decode F_X11_feed.2.1 16 = .ok (.iconst (-1), 1) := by decide +kernel
theorem d_X11_feed_17 : decode F_X11_feed.2.1 17 = .ok (.ireturn, 1) := by decide +kernel
theorem d_X11_feed_18 : decode F_X11_feed.2.1 18 = .ok (.aload_n 0, 1) := by decide +kernel
theorem d_X11_feed_19 : decode F_X11_feed.2.1 19 = .ok (.getfield 10, 3) := by decide +kernel
theorem d_X11_feed_22 : decode F_X11_feed.2.1 22 = .ok (.iload_n 1, 1) := by decide +kernel
theorem d_X11_feed_23 : decode F_X11_feed.2.1 23 = .ok (.invokevirtual 98, 3) := by decide +kernel
theorem d_X11_feed_26 : decode F_X11_feed.2.1 26 = .ok (.aload_n 0, 1) := by decide +kernel
theorem d_X11_feed_27 : decode F_X11_feed.2.1 27 = .ok (.getfield 10, 3) := by decide +kernel
theorem d_X11_feed_30 : decode F_X11_feed.2.1 30 = .ok (.iload_n 2, 1) := by decide +kernel
theorem d_X11_feed_31 : decode F_X11_feed.2.1 31 = .ok (.invokevirtual 98, 3) := by decide +kernel
theorem d_X11_feed_34 : decode F_X11_feed.2.1 34 = .ok (.aload_n 0, 1) := by decide +kernel
theorem d_X11_feed_35 : decode F_X11_feed.2.1 35 = .ok (.getfield 10, 3) := by decide +kernel
theorem d_X11_feed_38 : decode F_X11_feed.2.1 38 = .ok (.iload_n 3, 1) := by decide +kernel
theorem d_X11_feed_39 : decode F_X11_feed.2.1 39 = .ok (.invokevirtual 98, 3) := by decide +kernel
theorem d_X11_feed_42 : decode F_X11_feed.2.1 42 = .ok (.aload_n 0, 1) := by decide +kernel
theorem d_X11_feed_43 : decode F_X11_feed.2.1 43 = .ok (.getfield 10, 3) := by decide +kernel
theorem d_X11_feed_46 : decode F_X11_feed.2.1 46 = .ok (.iload 4, 2) := by decide +kernel
theorem d_X11_feed_48 : decode F_X11_feed.2.1 48 = .ok (.invokevirtual 98, 3) := by decide +kernel
theorem d_X11_feed_51 : decode F_X11_feed.2.1 51 = .ok (.aload_n 0, 1) := by decide +kernel
theorem d_X11_feed_52 : decode F_X11_feed.2.1 52 = .ok (.getfield 10, 3) := by decide +kernel
theorem d_X11_feed_55 : decode F_X11_feed.2.1 55 = .ok (.iload 5, 2) := by decide +kernel
theorem d_X11_feed_57 : decode F_X11_feed.2.1 57 = .ok (.invokevirtual 98, 3) := by decide +kernel
theorem d_X11_feed_60 : decode F_X11_feed.2.1 60 = .ok (.aload_n 0, 1) := by decide +kernel
theorem d_X11_feed_61 : decode F_X11_feed.2.1 61 = .ok (.getfield 10, 3) := by decide +kernel
theorem d_X11_feed_64 : decode F_X11_feed.2.1 64 = .ok (.getfield 94, 3) := by decide +kernel
theorem d_X11_feed_67 : decode F_X11_feed.2.1 67 = .ok (.ireturn, 1) := by decide +kernel
def f_X11_feed (μ : Mem) (p1 : Int32) (p2 : Int32) (p3 : Int32) (p4 : Int32) (p5 : Int32) : Option (Int32 × Mem) :=
if ((μ 1 1) + 20) ≤ 400 then
Option.bind (f_X8_add μ p1) fun q1 =>
Option.bind (f_X8_add q1 p2) fun q2 =>
Option.bind (f_X8_add q2 p3) fun q3 =>
Option.bind (f_X8_add q3 p4) fun q4 =>
Option.bind (f_X8_add q4 p5) fun q5 =>
some ((q5 1 1), q5)
else
some ((-1), μ)
theorem s_X11_feed_e {G : Gl} (hG : G.1.stackTraces = false) {C : Cx} {n : Nat} {μ : Mem} {p1 : Int32} {p2 : Int32} {p3 : Int32} {p4 : Int32} {p5 : Int32} {r : (Int32 × Mem)} (hf : f_X11_feed μ p1 p2 p3 p4 p5 = some r) (hK : FinR G C F_X11_feed (some .int) (some (.int r.1)) r.2) : V G C F_X11_feed 0 [some (.ref (G.2.1 + 0)), some (.int p1), some (.int p2), some (.int p3), some (.int p4), some (.int p5)] [] (pic G μ) n 0 0 := by
  unfold f_X11_feed at hf
  refine V_aload_n d_X11_feed_0 rfl rfl ?_
  refine B_get k_0 fl_RX11_10 d_X11_feed_1 g_11_0 ?_
  refine B_get k_1 fl_RX11_94 d_X11_feed_4 g_8_1 ?_
  refine V_bipush (v := 20) d_X11_feed_7 bp_20 ?_
  refine V_iadd d_X11_feed_9 ?_
  refine V_sipush (v := 400) d_X11_feed_10 sp_400 ?_
  refine V_icmp_le (tgt := 18) d_X11_feed_13 (by decide) (fun c13 => ?_) (fun c13 => ?_)
  · replace hf := iteT c13 hf
    refine V_aload_n d_X11_feed_18 rfl rfl ?_
    refine B_get k_0 fl_RX11_10 d_X11_feed_19 g_11_0 ?_
    refine V_iload_n d_X11_feed_22 rfl rfl ?_
    obtain ⟨q1, hq1, hf⟩ := ob hf
    refine B_callV0 (s_X8_add hG hq1) k_1 clX8 m_X8_add kv_RX11_98 d_X11_feed_23 rfl (Nat.le_of_ble_eq_true rfl) ⟨rfl, rfl, Nat.le_of_ble_eq_true rfl, Nat.le_of_ble_eq_true rfl, Nat.le_of_ble_eq_true rfl⟩ (fun n => ?_)
    refine V_aload_n d_X11_feed_26 rfl rfl ?_
    refine B_get k_0 fl_RX11_10 d_X11_feed_27 g_11_0 ?_
    refine V_iload_n d_X11_feed_30 rfl rfl ?_
    obtain ⟨q2, hq2, hf⟩ := ob hf
    refine B_callV0 (s_X8_add hG hq2) k_1 clX8 m_X8_add kv_RX11_98 d_X11_feed_31 rfl (Nat.le_of_ble_eq_true rfl) ⟨rfl, rfl, Nat.le_of_ble_eq_true rfl, Nat.le_of_ble_eq_true rfl, Nat.le_of_ble_eq_true rfl⟩ (fun n => ?_)
    refine V_aload_n d_X11_feed_34 rfl rfl ?_
    refine B_get k_0 fl_RX11_10 d_X11_feed_35 g_11_0 ?_
    refine V_iload_n d_X11_feed_38 rfl rfl ?_
    obtain ⟨q3, hq3, hf⟩ := ob hf
    refine B_callV0 (s_X8_add hG hq3) k_1 clX8 m_X8_add kv_RX11_98 d_X11_feed_39 rfl (Nat.le_of_ble_eq_true rfl) ⟨rfl, rfl, Nat.le_of_ble_eq_true rfl, Nat.le_of_ble_eq_true rfl, Nat.le_of_ble_eq_true rfl⟩ (fun n => ?_)
    refine V_aload_n d_X11_feed_42 rfl rfl ?_
    refine B_get k_0 fl_RX11_10 d_X11_feed_43 g_11_0 ?_
    refine V_iload d_X11_feed_46 rfl ?_
    obtain ⟨q4, hq4, hf⟩ := ob hf
    refine B_callV0 (s_X8_add hG hq4) k_1 clX8 m_X8_add kv_RX11_98 d_X11_feed_48 rfl (Nat.le_of_ble_eq_true rfl) ⟨rfl, rfl, Nat.le_of_ble_eq_true rfl, Nat.le_of_ble_eq_true rfl, Nat.le_of_ble_eq_true rfl⟩ (fun n => ?_)
    refine V_aload_n d_X11_feed_51 rfl rfl ?_
    refine B_get k_0 fl_RX11_10 d_X11_feed_52 g_11_0 ?_
    refine V_iload d_X11_feed_55 rfl ?_
    obtain ⟨q5, hq5, hf⟩ := ob hf
    refine B_callV0 (s_X8_add hG hq5) k_1 clX8 m_X8_add kv_RX11_98 d_X11_feed_57 rfl (Nat.le_of_ble_eq_true rfl) ⟨rfl, rfl, Nat.le_of_ble_eq_true rfl, Nat.le_of_ble_eq_true rfl, Nat.le_of_ble_eq_true rfl⟩ (fun n => ?_)
    refine V_aload_n d_X11_feed_60 rfl rfl ?_
    refine B_get k_0 fl_RX11_10 d_X11_feed_61 g_11_0 ?_
    refine B_get k_1 fl_RX11_94 d_X11_feed_64 g_8_1 ?_
    cases hf
    exact R_i hK d_X11_feed_67 (Nat.le_of_ble_eq_true rfl) (Nat.le_of_ble_eq_true rfl)
  · replace hf := iteF c13 hf
    refine V_iconst (v := (-1)) d_X11_feed_16 ic_m1 ?_
    cases hf
    exact R_i hK d_X11_feed_17 (Nat.le_of_ble_eq_true rfl) (Nat.le_of_ble_eq_true rfl)
theorem s_X11_feed {G : Gl} (hG : G.1.stackTraces = false) {μ : Mem} {p1 : Int32} {p2 : Int32} {p3 : Int32} {p4 : Int32} {p5 : Int32} {r : (Int32 × Mem)} (hf : f_X11_feed μ p1 p2 p3 p4 p5 = some r) : Rt G yX11_feed F_X11_feed (some .int) [.ref (G.2.1 + 0), .int p1, .int p2, .int p3, .int p4, .int p5] μ (some (.int r.1)) r.2 := fun n => Sd.of hG ⟨by decide +kernel, rfl, rfl⟩ rfl (Nat.le_of_ble_eq_true rfl) rfl (fun C hK => s_X11_feed_e hG hf hK)
theorem d_X11_end_0 : decode F_X11_end.2.1 0 = .ok (.iload_n 1, 1) := by decide +kernel
theorem d_X11_end_1 : decode F_X11_end.2.1 1 = .ok (.ifCond .lt 14, 3) := by decide +kernel
theorem d_X11_end_4 : decode F_X11_end.2.1 4 = .ok (.iload_n 1, 1) := by decide +kernel
theorem d_X11_end_5 : decode F_X11_end.2.1 5 = .ok (.aload_n 0, 1) := by decide +kernel
theorem d_X11_end_6 : decode F_X11_end.2.1 6 = .ok (.getfield 10, 3) := by decide +kernel
theorem d_X11_end_9 : decode F_X11_end.2.1 9 = .ok (.getfield 94, 3) := by decide +kernel
theorem d_X11_end_12 : decode F_X11_end.2.1 12 = .ok (.if_icmp .le 5, 3) := by decide +kernel
theorem d_X11_end_15 : decode F_X11_end.2.1 15 = .ok (.iconst 0, 1) := by decide +kernel
theorem d_X11_end_16 : decode F_X11_end.2.1 16 = .ok (.ireturn, 1) := by decide +kernel
theorem d_X11_end_17 : decode F_X11_end.2.1 17 = .ok (.aload_n 0, 1) := by decide +kernel
theorem d_X11_end_18 : decode F_X11_end.2.1 18 = .ok (.getfield 10, 3) := by decide +kernel
theorem d_X11_end_21 : decode F_X11_end.2.1 21 = .ok (.iload_n 1, 1) := by decide +kernel
theorem d_X11_end_22 : decode F_X11_end.2.1 22 = .ok (.putfield 94, 3) := by decide +kernel
theorem d_X11_end_25 : decode F_X11_end.2.1 25 = .ok (.iconst 1, 1) := by decide +kernel
theorem d_X11_end_26 : decode F_X11_end.2.1 26 = .ok (.ireturn, 1) := by decide +kernel
def f_X11_end_j15 (μ : Mem) : Option (Bool × Mem) :=
some (false, μ)
def f_X11_end (μ : Mem) (p1 : Int32) : Option (Bool × Mem) :=
if p1 < 0 then
f_X11_end_j15 μ
else
if p1 ≤ (μ 1 1) then
some (true, (mset μ 1 1 p1))
else
f_X11_end_j15 μ
theorem s_X11_end_j15 {G : Gl} (hG : G.1.stackTraces = false) {C : Cx} {n : Nat} {μ : Mem}  {r : (Bool × Mem)} (hf : f_X11_end_j15 μ = some r) (hK : FinR G C F_X11_end (some .boolean) (some (.int (b2i r.1))) r.2) : V G C F_X11_end 15 [none, none] [] (pic G μ) n 0 0 := by
  unfold f_X11_end_j15 at hf
  refine V_iconst (v := 0) d_X11_end_15 ic_0 ?_
  cases hf
  exact R_z hK d_X11_end_16 (Nat.le_of_ble_eq_true rfl) (Nat.le_of_ble_eq_true rfl)
theorem s_X11_end_e {G : Gl} (hG : G.1.stackTraces = false) {C : Cx} {n : Nat} {μ : Mem} {p1 : Int32} {r : (Bool × Mem)} (hf : f_X11_end μ p1 = some r) (hK : FinR G C F_X11_end (some .boolean) (some (.int (b2i r.1))) r.2) : V G C F_X11_end 0 [some (.ref (G.2.1 + 0)), some (.int p1)] [] (pic G μ) n 0 0 := by
  unfold f_X11_end at hf
  refine V_iload_n d_X11_end_0 rfl rfl ?_
  refine V_if_lt (tgt := 15) d_X11_end_1 (by decide) (fun c1 => ?_) (fun c1 => ?_)
  · replace hf := iteT c1 hf
    refine V_less (ls' := [none, none]) trivial ?_
    exact s_X11_end_j15 hG hf hK
  · replace hf := iteF c1 hf
    refine V_iload_n d_X11_end_4 rfl rfl ?_
    refine V_aload_n d_X11_end_5 rfl rfl ?_
    refine B_get k_0 fl_RX11_10 d_X11_end_6 g_11_0 ?_
    refine B_get k_1 fl_RX11_94 d_X11_end_9 g_8_1 ?_
    refine V_icmp_le (tgt := 17) d_X11_end_12 (by decide) (fun c12 => ?_) (fun c12 => ?_)
    · replace hf := iteT c12 hf
      refine V_aload_n d_X11_end_17 rfl rfl ?_
      refine B_get k_0 fl_RX11_10 d_X11_end_18 g_11_0 ?_
      refine V_iload_n d_X11_end_21 rfl rfl ?_
      refine B_putI k_1 fl_RX11_94 pt_8_1 (Nat.le_of_ble_eq_true rfl) p_8_1 d_X11_end_22 ?_
      refine V_iconst (v := 1) d_X11_end_25 ic_1 ?_
      cases hf
      exact R_z hK d_X11_end_26 (Nat.le_of_ble_eq_true rfl) (Nat.le_of_ble_eq_true rfl)
    · replace hf := iteF c12 hf
      refine V_less (ls' := [none, none]) trivial ?_
      exact s_X11_end_j15 hG hf hK
theorem s_X11_end {G : Gl} (hG : G.1.stackTraces = false) {μ : Mem} {p1 : Int32} {r : (Bool × Mem)} (hf : f_X11_end μ p1 = some r) : Rt G yX11_end F_X11_end (some .boolean) [.ref (G.2.1 + 0), .int p1] μ (some (.int (b2i r.1))) r.2 := fun n => Sd.of hG ⟨by decide +kernel, rfl, rfl⟩ rfl (Nat.le_of_ble_eq_true rfl) rfl (fun C hK => s_X11_end_e hG hf hK)
theorem d_X11_fault_0 : decode F_X11_fault.2.1 0 = .ok (.aload_n 0, 1) := by decide +kernel
theorem d_X11_fault_1 : decode F_X11_fault.2.1 1 = .ok (.getfield 10, 3) := by decide +kernel
theorem d_X11_fault_4 : decode F_X11_fault.2.1 4 = .ok (.getfield 146, 3) := by decide +kernel
theorem d_X11_fault_7 : decode F_X11_fault.2.1 7 = .ok (.ireturn, 1) := by decide +kernel
def f_X11_fault (μ : Mem) : Option Int32 :=
some (μ 1 4)
theorem s_X11_fault_e {G : Gl} (hG : G.1.stackTraces = false) {C : Cx} {n : Nat} {μ : Mem}  {r : Int32} (hf : f_X11_fault μ = some r) (hK : FinR G C F_X11_fault (some .int) (some (.int r)) μ) : V G C F_X11_fault 0 [some (.ref (G.2.1 + 0))] [] (pic G μ) n 0 0 := by
  unfold f_X11_fault at hf
  refine V_aload_n d_X11_fault_0 rfl rfl ?_
  refine B_get k_0 fl_RX11_10 d_X11_fault_1 g_11_0 ?_
  refine B_getN k_1 fn_RX11_146 d_X11_fault_4 g_8_4 ?_
  cases hf
  exact R_i hK d_X11_fault_7 (Nat.le_of_ble_eq_true rfl) (Nat.le_of_ble_eq_true rfl)
theorem s_X11_fault {G : Gl} (hG : G.1.stackTraces = false) {μ : Mem} {r : Int32} (hf : f_X11_fault μ = some r) : Rt G yX11_fault F_X11_fault (some .int) [.ref (G.2.1 + 0)] μ (some (.int r)) μ := fun n => Sd.of hG ⟨by decide +kernel, rfl, rfl⟩ rfl (Nat.le_of_ble_eq_true rfl) rfl (fun C hK => s_X11_fault_e hG hf hK)
theorem d_X11_solvent_0 : decode F_X11_solvent.2.1 0 = .ok (.iconst 0, 1) := by decide +kernel
theorem d_X11_solvent_1 : decode F_X11_solvent.2.1 1 = .ok (.istore_n 1, 1) := by decide +kernel
theorem d_X11_solvent_2 : decode F_X11_solvent.2.1 2 = .ok (.iconst 0, 1) := by decide +kernel
theorem d_X11_solvent_3 : decode F_X11_solvent.2.1 3 = .ok (.istore_n 2, 1) := by decide +kernel
theorem d_X11_solvent_4 : decode F_X11_solvent.2.1 4 = .ok (.iload_n 2, 1) := by decide +kernel
theorem d_X11_solvent_5 : decode F_X11_solvent.2.1 5 = .ok (.aload_n 0, 1) := by decide +kernel
theorem d_X11_solvent_6 : decode F_X11_solvent.2.1 6 = .ok (.getfield 19, 3) := by decide +kernel
theorem d_X11_solvent_9 : decode F_X11_solvent.2.1 9 = .ok (.getfield 291, 3) := by decide +kernel
theorem d_X11_solvent_12 : decode F_X11_solvent.2.1 12 = .ok (.if_icmp .ge 35, 3) := by decide +kernel
theorem d_X11_solvent_15 : decode F_X11_solvent.2.1 15 = .ok (.aload_n 0, 1) := by decide +kernel
theorem d_X11_solvent_16 : decode F_X11_solvent.2.1 16 = .ok (.getfield 19, 3) := by decide +kernel
theorem d_X11_solvent_19 : decode F_X11_solvent.2.1 19 = .ok (.getfield 152, 3) := by decide +kernel
theorem d_X11_solvent_22 : decode F_X11_solvent.2.1 22 = .ok (.iload_n 2, 1) := by decide +kernel
theorem d_X11_solvent_23 : decode F_X11_solvent.2.1 23 = .ok (.iaload, 1) := by decide +kernel
theorem d_X11_solvent_24 : decode F_X11_solvent.2.1 24 = .ok (.aload_n 0, 1) := by decide +kernel
theorem d_X11_solvent_25 : decode F_X11_solvent.2.1 25 = .ok (.getfield 19, 3) := by decide +kernel
theorem d_X11_solvent_28 : decode F_X11_solvent.2.1 28 = .ok (.iload_n 2, 1) := by decide +kernel
theorem d_X11_solvent_29 : decode F_X11_solvent.2.1 29 = .ok (.invokevirtual 175, 3) := by decide +kernel
theorem d_X11_solvent_32 : decode F_X11_solvent.2.1 32 = .ok (.if_icmp .lt 9, 3) := by decide +kernel
theorem d_X11_solvent_35 : decode F_X11_solvent.2.1 35 = .ok (.iload_n 1, 1) := by decide +kernel
theorem d_X11_solvent_36 : decode F_X11_solvent.2.1 36 = .ok (.iconst 1, 1) := by decide +kernel
theorem d_X11_solvent_37 : decode F_X11_solvent.2.1 37 = .ok (.iload_n 2, 1) := by decide +kernel
theorem d_X11_solvent_38 : decode F_X11_solvent.2.1 38 = .ok (.ishl, 1) := by decide +kernel
theorem d_X11_solvent_39 : decode F_X11_solvent.2.1 39 = .ok (.ior, 1) := by decide +kernel
theorem d_X11_solvent_40 : decode F_X11_solvent.2.1 40 = .ok (.istore_n 1, 1) := by decide +kernel
theorem d_X11_solvent_41 : decode F_X11_solvent.2.1 41 = .ok (.iinc 2 1, 3) := by decide +kernel
theorem d_X11_solvent_44 : decode F_X11_solvent.2.1 44 = .ok (.goto (-40), 3) := by decide +kernel
theorem d_X11_solvent_47 : decode F_X11_solvent.2.1 47 = .ok (.iload_n 1, 1) := by decide +kernel
theorem d_X11_solvent_48 : decode F_X11_solvent.2.1 48 = .ok (.ireturn, 1) := by decide +kernel
def f_X11_solvent_b4 (μ : Mem) (l1 : Int32) (l2 : Int32) : Option ((Int32 × Int32) ⊕ Int32) :=
if (μ 3 0) ≤ l2 then
some (.inr l1)
else
Option.bind (rd μ 4 6 l2) fun t1 =>
Option.bind (f_X2_owedBy μ 3 l2) fun t2 =>
some (.inl ((if t1 < t2 then l1 else (l1 ||| (1 <<< (l2 &&& 31)))), (l2 + 1)))
def f_X11_solvent_j47 (μ : Mem) (l1 : Int32) : Option Int32 :=
some l1
def f_X11_solvent_l4 (μ : Mem) (l1 : Int32) (l2 : Int32) : Option Int32 := Option.bind (loopN 10000 (fun z : (Int32 × Int32) => f_X11_solvent_b4 μ z.1 z.2) (l1, l2)) fun t : Int32 => f_X11_solvent_j47 μ t
def f_X11_solvent (μ : Mem) : Option Int32 :=
f_X11_solvent_l4 μ 0 0
theorem s_X11_solvent_b4 {G : Gl} (hG : G.1.stackTraces = false) {C : Cx} {n : Nat} {μ : Mem} {l1 : Int32} {l2 : Int32} {y : ((Int32 × Int32) ⊕ Int32)} (hf : f_X11_solvent_b4 μ l1 l2 = some y) (hK : (∀ z', y = .inl z' → ∀ n, V G C F_X11_solvent 4 [some (.ref (G.2.1 + 0)), some (.int z'.1), some (.int z'.2)] [] (pic G μ) n 0 0) ∧ (∀ x', y = .inr x' → ∀ n, V G C F_X11_solvent 47 [none, some (.int x'), none] [] (pic G μ) n 0 0)) : V G C F_X11_solvent 4 [some (.ref (G.2.1 + 0)), some (.int l1), some (.int l2)] [] (pic G μ) n 0 0 := by
  unfold f_X11_solvent_b4 at hf
  refine V_iload_n d_X11_solvent_4 rfl rfl ?_
  refine V_aload_n d_X11_solvent_5 rfl rfl ?_
  refine B_get k_0 fl_RX11_19 d_X11_solvent_6 g_11_1 ?_
  refine B_get k_3 fl_RX11_291 d_X11_solvent_9 g_2_0 ?_
  refine V_icmp_ge (tgt := 47) d_X11_solvent_12 (by decide) (fun c12 => ?_) (fun c12 => ?_)
  · replace hf := iteT c12 hf
    refine V_less (ls' := [none, some _, none]) ⟨rfl, trivial⟩ ?_
    cases hf
    exact hK.2 _ rfl _
  · replace hf := iteF c12 hf
    refine V_aload_n d_X11_solvent_15 rfl rfl ?_
    refine B_get k_0 fl_RX11_19 d_X11_solvent_16 g_11_1 ?_
    refine B_get k_3 fl_RX11_152 d_X11_solvent_19 g_2_6 ?_
    refine V_iload_n d_X11_solvent_22 rfl rfl ?_
    obtain ⟨t1, ht1, hf⟩ := ob hf
    refine B_iald k_4 ht1 d_X11_solvent_23 ?_
    refine V_aload_n d_X11_solvent_24 rfl rfl ?_
    refine B_get k_0 fl_RX11_19 d_X11_solvent_25 g_11_1 ?_
    refine V_iload_n d_X11_solvent_28 rfl rfl ?_
    obtain ⟨t2, ht2, hf⟩ := ob hf
    refine B_callV1 (s_X2_owedBy hG L_3 ht2) k_3 clX2 m_X2_owedBy kv_RX11_175 d_X11_solvent_29 rfl (Nat.le_of_ble_eq_true rfl) ⟨rfl, rfl, Nat.le_of_ble_eq_true rfl, Nat.le_of_ble_eq_true rfl, Nat.le_of_ble_eq_true rfl⟩ (fun n => ?_)
    have hJj3 : ∀ j3 : Int32, j3 = (if t1 < t2 then l1 else (l1 ||| (1 <<< (l2 &&& 31)))) → V G C F_X11_solvent 41 [some (.ref (G.2.1 + 0)), some (.int j3), some (.int l2)] [] (pic G μ) n 0 0 := by
      intro j3 ej3
      subst ej3
      refine V_iinc (v := (l2 + 1)) (ls' := [_, _, _]) d_X11_solvent_41 rfl (by rw [ic_1]) rfl ?_
      refine V_goto (tgt := 4) d_X11_solvent_44 (by decide) ?_
      refine V_less (ls' := [some _, some _, some _]) ⟨rfl, rfl, rfl, trivial⟩ ?_
      cases hf
      exact hK.1 _ rfl _
    refine V_icmp_lt (tgt := 41) d_X11_solvent_32 (by decide) (fun c32 => ?_) (fun c32 => ?_)
    · refine V_less (ls' := [some _, some _, some _]) ⟨rfl, rfl, rfl, trivial⟩ ?_
      exact hJj3 l1 (by rw [if_pos c32])
    · refine V_iload_n d_X11_solvent_35 rfl rfl ?_
      refine V_iconst (v := 1) d_X11_solvent_36 ic_1 ?_
      refine V_iload_n d_X11_solvent_37 rfl rfl ?_
      refine V_ishl d_X11_solvent_38 ?_
      refine V_ior d_X11_solvent_39 ?_
      refine V_istore_n (ls' := [_, _, _]) d_X11_solvent_40 rfl rfl rfl ?_
      refine V_less (ls' := [some _, some _, some _]) ⟨rfl, rfl, rfl, trivial⟩ ?_
      exact hJj3 (l1 ||| (1 <<< (l2 &&& 31))) (by rw [if_neg c32])
theorem s_X11_solvent_j47 {G : Gl} (hG : G.1.stackTraces = false) {C : Cx} {n : Nat} {μ : Mem} {l1 : Int32} {r : Int32} (hf : f_X11_solvent_j47 μ l1 = some r) (hK : FinR G C F_X11_solvent (some .int) (some (.int r)) μ) : V G C F_X11_solvent 47 [none, some (.int l1), none] [] (pic G μ) n 0 0 := by
  unfold f_X11_solvent_j47 at hf
  refine V_iload_n d_X11_solvent_47 rfl rfl ?_
  cases hf
  exact R_i hK d_X11_solvent_48 (Nat.le_of_ble_eq_true rfl) (Nat.le_of_ble_eq_true rfl)
theorem s_X11_solvent_l4 {G : Gl} (hG : G.1.stackTraces = false) {C : Cx} {n : Nat} {μ : Mem} {l1 : Int32} {l2 : Int32} {r : Int32} (hf : f_X11_solvent_l4 μ l1 l2 = some r) (hK : FinR G C F_X11_solvent (some .int) (some (.int r)) μ) : V G C F_X11_solvent 4 [some (.ref (G.2.1 + 0)), some (.int l1), some (.int l2)] [] (pic G μ) n 0 0 := by
  unfold f_X11_solvent_l4 at hf
  obtain ⟨t, hl, hf⟩ := ob hf
  refine loopV (P := fun z => ∀ n, V G C F_X11_solvent 4 [some (.ref (G.2.1 + 0)), some (.int z.1), some (.int z.2)] [] (pic G μ) n 0 0) (t := t) ?_ _ _ hl n
  intro z y' hy hI hT n
  refine s_X11_solvent_b4 hG hy ⟨hI, fun x9 ex => ?_⟩
  have ex2 := hT x9 ex
  subst ex2
  intro n
  exact s_X11_solvent_j47 hG hf hK
theorem s_X11_solvent_e {G : Gl} (hG : G.1.stackTraces = false) {C : Cx} {n : Nat} {μ : Mem}  {r : Int32} (hf : f_X11_solvent μ = some r) (hK : FinR G C F_X11_solvent (some .int) (some (.int r)) μ) : V G C F_X11_solvent 0 [some (.ref (G.2.1 + 0)), none, none] [] (pic G μ) n 0 0 := by
  unfold f_X11_solvent at hf
  refine V_iconst (v := 0) d_X11_solvent_0 ic_0 ?_
  refine V_istore_n (ls' := [_, _, _]) d_X11_solvent_1 rfl rfl rfl ?_
  refine V_iconst (v := 0) d_X11_solvent_2 ic_0 ?_
  refine V_istore_n (ls' := [_, _, _]) d_X11_solvent_3 rfl rfl rfl ?_
  refine V_less (ls' := [some _, some _, some _]) ⟨rfl, rfl, rfl, trivial⟩ ?_
  exact s_X11_solvent_l4 hG hf hK
theorem s_X11_solvent {G : Gl} (hG : G.1.stackTraces = false) {μ : Mem} {r : Int32} (hf : f_X11_solvent μ = some r) : Rt G yX11_solvent F_X11_solvent (some .int) [.ref (G.2.1 + 0)] μ (some (.int r)) μ := fun n => Sd.of hG ⟨by decide +kernel, rfl, rfl⟩ rfl (Nat.le_of_ble_eq_true rfl) rfl (fun C hK => s_X11_solvent_e hG hf hK)
theorem d_X11_tellsPlaces_0 : decode F_X11_tellsPlaces.2.1 0 = .ok (.iload_n 1, 1) := by decide +kernel
theorem d_X11_tellsPlaces_1 : decode F_X11_tellsPlaces.2.1 1 = .ok (.aload_n 0, 1) := by decide +kernel
theorem d_X11_tellsPlaces_2 : decode F_X11_tellsPlaces.2.1 2 = .ok (.getfield 19, 3) := by decide +kernel
theorem d_X11_tellsPlaces_5 : decode F_X11_tellsPlaces.2.1 5 = .ok (.getfield 291, 3) := by decide +kernel
theorem d_X11_tellsPlaces_8 : decode F_X11_tellsPlaces.2.1 8 = .ok (.if_icmp .eq 5, 3) := by decide +kernel
theorem d_X11_tellsPlaces_11 : decode F_X11_tellsPlaces.2.1 11 = .ok (.iconst 0, 1) := by decide +kernel
theorem d_X11_tellsPlaces_12 : decode F_X11_tellsPlaces.2.1 12 = .ok (.ireturn, 1) := by decide +kernel
theorem d_X11_tellsPlaces_13 : decode F_X11_tellsPlaces.2.1 13 = .ok (.iconst 0, 1) := by decide +kernel
theorem d_X11_tellsPlaces_14 : decode F_X11_tellsPlaces.2.1 14 = .ok (.istore_n 2, 1) := by decide +kernel
theorem d_X11_tellsPlaces_15 : decode F_X11_tellsPlaces.2.1 15 = .ok (.iload_n 2, 1) := by decide +kernel
theorem d_X11_tellsPlaces_16 : decode F_X11_tellsPlaces.2.1 16 = .ok (.iload_n 1, 1) := by decide +kernel
theorem d_X11_tellsPlaces_17 : decode F_X11_tellsPlaces.2.1 17 = .ok (.if_icmp .ge 25, 3) := by decide +kernel
theorem d_X11_tellsPlaces_20 : decode F_X11_tellsPlaces.2.1 20 = .ok (.aload_n 0, 1) := by decide +kernel
theorem d_X11_tellsPlaces_21 : decode F_X11_tellsPlaces.2.1 21 = .ok (.getfield 10, 3) := by decide +kernel
theorem d_X11_tellsPlaces_24 : decode F_X11_tellsPlaces.2.1 24 = .ok (.getfield 307, 3) := by decide +kernel
theorem d_X11_tellsPlaces_27 : decode F_X11_tellsPlaces.2.1 27 = .ok (.iload_n 2, 1) := by decide +kernel
theorem d_X11_tellsPlaces_28 : decode F_X11_tellsPlaces.2.1 28 = .ok (.iaload, 1) := by decide +kernel
theorem d_X11_tellsPlaces_29 : decode F_X11_tellsPlaces.2.1 29 = .ok (.bipush 20, 2) := by decide +kernel
theorem d_X11_tellsPlaces_31 : decode F_X11_tellsPlaces.2.1 31 = .ok (.if_icmp .lt 5, 3) := by decide +kernel
theorem d_X11_tellsPlaces_34 : decode F_X11_tellsPlaces.2.1 34 = .ok (.iconst 0, 1) := by decide +kernel
theorem d_X11_tellsPlaces_35 : decode F_X11_tellsPlaces.2.1 35 = .ok (.ireturn, 1) := by decide +kernel
theorem d_X11_tellsPlaces_36 : decode F_X11_tellsPlaces.2.1 36 = .ok (.iinc 2 1, 3) := by decide +kernel
theorem d_X11_tellsPlaces_39 : decode F_X11_tellsPlaces.2.1 39 = .ok (.goto (-24), 3) := by decide +kernel
theorem d_X11_tellsPlaces_42 : decode F_X11_tellsPlaces.2.1 42 = .ok (.iconst 1, 1) := by decide +kernel
theorem d_X11_tellsPlaces_43 : decode F_X11_tellsPlaces.2.1 43 = .ok (.ireturn, 1) := by decide +kernel
def f_X11_tellsPlaces_b15 (μ : Mem) (l1 : Int32) (l2 : Int32) : Option (Int32 ⊕ (Unit ⊕ Bool)) :=
if l1 ≤ l2 then
some (.inr (.inl ()))
else
Option.bind (rd μ 2 400 l2) fun t1 =>
if t1 < 20 then
some (.inl (l2 + 1))
else
some (.inr (.inr false))
def f_X11_tellsPlaces_j42 (μ : Mem) : Option Bool :=
some true
def f_X11_tellsPlaces_l15 (μ : Mem) (l1 : Int32) (l2 : Int32) : Option Bool := Option.bind (loopN 10000 (fun z : Int32 => f_X11_tellsPlaces_b15 μ l1 z) l2) fun t : (Unit ⊕ Bool) => Sum.elim (fun e => f_X11_tellsPlaces_j42 μ) (fun x => some x) t
def f_X11_tellsPlaces (μ : Mem) (p1 : Int32) : Option Bool :=
if p1 = (μ 3 0) then
f_X11_tellsPlaces_l15 μ p1 0
else
some false
theorem s_X11_tellsPlaces_b15 {G : Gl} (hG : G.1.stackTraces = false) {C : Cx} {n : Nat} {μ : Mem} {l1 : Int32} {l2 : Int32} {y : (Int32 ⊕ (Unit ⊕ Bool))} (hf : f_X11_tellsPlaces_b15 μ l1 l2 = some y) (hK : (∀ z', y = .inl z' → ∀ n, V G C F_X11_tellsPlaces 15 [some (.ref (G.2.1 + 0)), some (.int l1), some (.int z')] [] (pic G μ) n 0 0) ∧ (∀ x', y = .inr x' → ((∀ x'', x' = .inl x'' → ∀ n, V G C F_X11_tellsPlaces 42 [none, none, none] [] (pic G μ) n 0 0) ∧ (∀ x''', x' = .inr x''' → FinR G C F_X11_tellsPlaces (some .boolean) (some (.int (b2i x'''))) μ)))) : V G C F_X11_tellsPlaces 15 [some (.ref (G.2.1 + 0)), some (.int l1), some (.int l2)] [] (pic G μ) n 0 0 := by
  unfold f_X11_tellsPlaces_b15 at hf
  refine V_iload_n d_X11_tellsPlaces_15 rfl rfl ?_
  refine V_iload_n d_X11_tellsPlaces_16 rfl rfl ?_
  refine V_icmp_ge (tgt := 42) d_X11_tellsPlaces_17 (by decide) (fun c17 => ?_) (fun c17 => ?_)
  · replace hf := iteT c17 hf
    refine V_less (ls' := [none, none, none]) trivial ?_
    cases hf
    exact (hK.2 _ rfl).1 _ rfl _
  · replace hf := iteF c17 hf
    refine V_aload_n d_X11_tellsPlaces_20 rfl rfl ?_
    refine B_get k_0 fl_RX11_10 d_X11_tellsPlaces_21 g_11_0 ?_
    refine B_get k_1 fl_RX11_307 d_X11_tellsPlaces_24 g_8_0 ?_
    refine V_iload_n d_X11_tellsPlaces_27 rfl rfl ?_
    obtain ⟨t1, ht1, hf⟩ := ob hf
    refine B_iald k_2 ht1 d_X11_tellsPlaces_28 ?_
    refine V_bipush (v := 20) d_X11_tellsPlaces_29 bp_20 ?_
    refine V_icmp_lt (tgt := 36) d_X11_tellsPlaces_31 (by decide) (fun c31 => ?_) (fun c31 => ?_)
    · replace hf := iteT c31 hf
      refine V_iinc (v := (l2 + 1)) (ls' := [_, _, _]) d_X11_tellsPlaces_36 rfl (by rw [ic_1]) rfl ?_
      refine V_goto (tgt := 15) d_X11_tellsPlaces_39 (by decide) ?_
      refine V_less (ls' := [some _, some _, some _]) ⟨rfl, rfl, rfl, trivial⟩ ?_
      cases hf
      exact hK.1 _ rfl _
    · replace hf := iteF c31 hf
      refine V_iconst (v := 0) d_X11_tellsPlaces_34 ic_0 ?_
      cases hf
      exact R_z ((hK.2 _ rfl).2 _ rfl) d_X11_tellsPlaces_35 (Nat.le_of_ble_eq_true rfl) (Nat.le_of_ble_eq_true rfl)
theorem s_X11_tellsPlaces_j42 {G : Gl} (hG : G.1.stackTraces = false) {C : Cx} {n : Nat} {μ : Mem}  {r : Bool} (hf : f_X11_tellsPlaces_j42 μ = some r) (hK : FinR G C F_X11_tellsPlaces (some .boolean) (some (.int (b2i r))) μ) : V G C F_X11_tellsPlaces 42 [none, none, none] [] (pic G μ) n 0 0 := by
  unfold f_X11_tellsPlaces_j42 at hf
  refine V_iconst (v := 1) d_X11_tellsPlaces_42 ic_1 ?_
  cases hf
  exact R_z hK d_X11_tellsPlaces_43 (Nat.le_of_ble_eq_true rfl) (Nat.le_of_ble_eq_true rfl)
theorem s_X11_tellsPlaces_l15 {G : Gl} (hG : G.1.stackTraces = false) {C : Cx} {n : Nat} {μ : Mem} {l1 : Int32} {l2 : Int32} {r : Bool} (hf : f_X11_tellsPlaces_l15 μ l1 l2 = some r) (hK : FinR G C F_X11_tellsPlaces (some .boolean) (some (.int (b2i r))) μ) : V G C F_X11_tellsPlaces 15 [some (.ref (G.2.1 + 0)), some (.int l1), some (.int l2)] [] (pic G μ) n 0 0 := by
  unfold f_X11_tellsPlaces_l15 at hf
  obtain ⟨t, hl, hf⟩ := ob hf
  refine loopV (P := fun z => ∀ n, V G C F_X11_tellsPlaces 15 [some (.ref (G.2.1 + 0)), some (.int l1), some (.int z)] [] (pic G μ) n 0 0) (t := t) ?_ _ _ hl n
  intro z y' hy hI hT n
  refine s_X11_tellsPlaces_b15 hG hy ⟨hI, fun x9 ex => ?_⟩
  have ex2 := hT x9 ex
  subst ex2
  refine ⟨fun e he => ?_, fun x2 hx => ?_⟩
  · subst he
    intro n
    exact s_X11_tellsPlaces_j42 hG hf hK
  · subst hx
    cases hf
    exact hK
theorem s_X11_tellsPlaces_e {G : Gl} (hG : G.1.stackTraces = false) {C : Cx} {n : Nat} {μ : Mem} {p1 : Int32} {r : Bool} (hf : f_X11_tellsPlaces μ p1 = some r) (hK : FinR G C F_X11_tellsPlaces (some .boolean) (some (.int (b2i r))) μ) : V G C F_X11_tellsPlaces 0 [some (.ref (G.2.1 + 0)), some (.int p1), none] [] (pic G μ) n 0 0 := by
  unfold f_X11_tellsPlaces at hf
  refine V_iload_n d_X11_tellsPlaces_0 rfl rfl ?_
  refine V_aload_n d_X11_tellsPlaces_1 rfl rfl ?_
  refine B_get k_0 fl_RX11_19 d_X11_tellsPlaces_2 g_11_1 ?_
  refine B_get k_3 fl_RX11_291 d_X11_tellsPlaces_5 g_2_0 ?_
  refine V_icmp_eq (tgt := 13) d_X11_tellsPlaces_8 (by decide) (fun c8 => ?_) (fun c8 => ?_)
  · replace hf := iteT c8 hf
    refine V_iconst (v := 0) d_X11_tellsPlaces_13 ic_0 ?_
    refine V_istore_n (ls' := [_, _, _]) d_X11_tellsPlaces_14 rfl rfl rfl ?_
    refine V_less (ls' := [some _, some _, some _]) ⟨rfl, rfl, rfl, trivial⟩ ?_
    exact s_X11_tellsPlaces_l15 hG hf hK
  · replace hf := iteF c8 hf
    refine V_iconst (v := 0) d_X11_tellsPlaces_11 ic_0 ?_
    cases hf
    exact R_z hK d_X11_tellsPlaces_12 (Nat.le_of_ble_eq_true rfl) (Nat.le_of_ble_eq_true rfl)
theorem s_X11_tellsPlaces {G : Gl} (hG : G.1.stackTraces = false) {μ : Mem} {p1 : Int32} {r : Bool} (hf : f_X11_tellsPlaces μ p1 = some r) : Rt G yX11_tellsPlaces F_X11_tellsPlaces (some .boolean) [.ref (G.2.1 + 0), .int p1] μ (some (.int (b2i r))) μ := fun n => Sd.of hG ⟨by decide +kernel, rfl, rfl⟩ rfl (Nat.le_of_ble_eq_true rfl) rfl (fun C hK => s_X11_tellsPlaces_e hG hf hK)
theorem d_X11_rings_0 : decode F_X11_rings.2.1 0 = .ok (.aload_n 0, 1) := by decide +kernel
theorem d_X11_rings_1 : decode F_X11_rings.2.1 1 = .ok (.getfield 70, 3) := by decide +kernel
theorem d_X11_rings_4 : decode F_X11_rings.2.1 4 = .ok (.aload_n 0, 1) := by decide +kernel
theorem d_X11_rings_5 : decode F_X11_rings.2.1 5 = .ok (.getfield 19, 3) := by decide +kernel
theorem d_X11_rings_8 : decode F_X11_rings.2.1 8 = .ok (.invokevirtual 326, 3) := by decide +kernel
theorem d_X11_rings_11 : decode F_X11_rings.2.1 11 = .ok (.aload_n 0, 1) := by decide +kernel
theorem d_X11_rings_12 : decode F_X11_rings.2.1 12 = .ok (.getfield 70, 3) := by decide +kernel
theorem d_X11_rings_15 : decode F_X11_rings.2.1 15 = .ok (.getfield 329, 3) := by decide +kernel
theorem d_X11_rings_18 : decode F_X11_rings.2.1 18 = .ok (.ireturn, 1) := by decide +kernel
def f_X11_rings (μ : Mem) : Option (Int32 × Mem) :=
Option.bind (f_X7_seek μ 3) fun q1 =>
some ((q1 256 2), q1)
theorem s_X11_rings_e {G : Gl} (hG : G.1.stackTraces = false) {C : Cx} {n : Nat} {μ : Mem}  {r : (Int32 × Mem)} (hf : f_X11_rings μ = some r) (hK : FinR G C F_X11_rings (some .int) (some (.int r.1)) r.2) : V G C F_X11_rings 0 [some (.ref (G.2.1 + 0))] [] (pic G μ) n 0 0 := by
  unfold f_X11_rings at hf
  refine V_aload_n d_X11_rings_0 rfl rfl ?_
  refine B_get k_0 fl_RX11_70 d_X11_rings_1 g_11_10 ?_
  refine V_aload_n d_X11_rings_4 rfl rfl ?_
  refine B_get k_0 fl_RX11_19 d_X11_rings_5 g_11_1 ?_
  obtain ⟨q1, hq1, hf⟩ := ob hf
  refine B_callV0 (s_X7_seek hG L_3 hq1) k_256 clX7 m_X7_seek kv_RX11_326 d_X11_rings_8 rfl (Nat.le_of_ble_eq_true rfl) ⟨rfl, rfl, Nat.le_of_ble_eq_true rfl, Nat.le_of_ble_eq_true rfl, Nat.le_of_ble_eq_true rfl⟩ (fun n => ?_)
  refine V_aload_n d_X11_rings_11 rfl rfl ?_
  refine B_get k_0 fl_RX11_70 d_X11_rings_12 g_11_10 ?_
  refine B_get k_256 fl_RX11_329 d_X11_rings_15 g_7_2 ?_
  cases hf
  exact R_i hK d_X11_rings_18 (Nat.le_of_ble_eq_true rfl) (Nat.le_of_ble_eq_true rfl)
theorem s_X11_rings {G : Gl} (hG : G.1.stackTraces = false) {μ : Mem} {r : (Int32 × Mem)} (hf : f_X11_rings μ = some r) : Rt G yX11_rings F_X11_rings (some .int) [.ref (G.2.1 + 0)] μ (some (.int r.1)) r.2 := fun n => Sd.of hG ⟨by decide +kernel, rfl, rfl⟩ rfl (Nat.le_of_ble_eq_true rfl) rfl (fun C hK => s_X11_rings_e hG hf hK)
theorem d_X11_untie_0 : decode F_X11_untie.2.1 0 = .ok (.aload_n 0, 1) := by decide +kernel
theorem d_X11_untie_1 : decode F_X11_untie.2.1 1 = .ok (.getfield 70, 3) := by decide +kernel
theorem d_X11_untie_4 : decode F_X11_untie.2.1 4 = .ok (.aload_n 0, 1) := by decide +kernel
theorem d_X11_untie_5 : decode F_X11_untie.2.1 5 = .ok (.getfield 19, 3) := by decide +kernel
theorem d_X11_untie_8 : decode F_X11_untie.2.1 8 = .ok (.invokevirtual 326, 3) := by decide +kernel
theorem d_X11_untie_11 : decode F_X11_untie.2.1 11 = .ok (.iload_n 1, 1) := by decide +kernel
theorem d_X11_untie_12 : decode F_X11_untie.2.1 12 = .ok (.ifCond .eq 16, 3) := by decide +kernel
theorem d_X11_untie_15 : decode F_X11_untie.2.1 15 = .ok (.aload_n 0, 1) := by decide +kernel
theorem d_X11_untie_16 : decode F_X11_untie.2.1 16 = .ok (.getfield 70, 3) := by decide +kernel
theorem d_X11_untie_19 : decode F_X11_untie.2.1 19 = .ok (.getfield 332, 3) := by decide +kernel
theorem d_X11_untie_22 : decode F_X11_untie.2.1 22 = .ok (.invokestatic 335, 3) := by decide +kernel
theorem d_X11_untie_25 : decode F_X11_untie.2.1 25 = .ok (.goto 10, 3) := by decide +kernel
theorem d_X11_untie_28 : decode F_X11_untie.2.1 28 = .ok (.aload_n 0, 1) := by decide +kernel
theorem d_X11_untie_29 : decode F_X11_untie.2.1 29 = .ok (.getfield 70, 3) := by decide +kernel
theorem d_X11_untie_32 : decode F_X11_untie.2.1 32 = .ok (.getfield 332, 3) := by decide +kernel
theorem d_X11_untie_35 : decode F_X11_untie.2.1 35 = .ok (.ireturn, 1) := by decide +kernel
def f_X11_untie_j35 (μ : Mem) (k0 : Int32) : Option (Int32 × Mem) :=
some (k0, μ)
def f_X11_untie (μ : Mem) (p1 : Bool) : Option (Int32 × Mem) :=
Option.bind (f_X7_seek μ 3) fun q1 =>
if p1 = true then
Option.bind (f_J6_bitCount_0f7a4 q1 (q1 256 3)) fun t2 =>
f_X11_untie_j35 q1 t2
else
f_X11_untie_j35 q1 (q1 256 3)
theorem s_X11_untie_j35 {G : Gl} (hG : G.1.stackTraces = false) {C : Cx} {n : Nat} {μ : Mem} {k0 : Int32} {r : (Int32 × Mem)} (hf : f_X11_untie_j35 μ k0 = some r) (hK : FinR G C F_X11_untie (some .int) (some (.int r.1)) r.2) : V G C F_X11_untie 35 [none, none] [.int k0] (pic G μ) n 0 0 := by
  unfold f_X11_untie_j35 at hf
  cases hf
  exact R_i hK d_X11_untie_35 (Nat.le_of_ble_eq_true rfl) (Nat.le_of_ble_eq_true rfl)
theorem s_X11_untie_e {G : Gl} (hG : G.1.stackTraces = false) {C : Cx} {n : Nat} {μ : Mem} {p1 : Bool} {r : (Int32 × Mem)} (hf : f_X11_untie μ p1 = some r) (hK : FinR G C F_X11_untie (some .int) (some (.int r.1)) r.2) : V G C F_X11_untie 0 [some (.ref (G.2.1 + 0)), some (.int (b2i p1))] [] (pic G μ) n 0 0 := by
  unfold f_X11_untie at hf
  refine V_aload_n d_X11_untie_0 rfl rfl ?_
  refine B_get k_0 fl_RX11_70 d_X11_untie_1 g_11_10 ?_
  refine V_aload_n d_X11_untie_4 rfl rfl ?_
  refine B_get k_0 fl_RX11_19 d_X11_untie_5 g_11_1 ?_
  obtain ⟨q1, hq1, hf⟩ := ob hf
  refine B_callV0 (s_X7_seek hG L_3 hq1) k_256 clX7 m_X7_seek kv_RX11_326 d_X11_untie_8 rfl (Nat.le_of_ble_eq_true rfl) ⟨rfl, rfl, Nat.le_of_ble_eq_true rfl, Nat.le_of_ble_eq_true rfl, Nat.le_of_ble_eq_true rfl⟩ (fun n => ?_)
  refine V_iload_n d_X11_untie_11 rfl rfl ?_
  refine V_if_eq (tgt := 28) d_X11_untie_12 (by decide) (fun c12 => ?_) (fun c12 => ?_)
  · replace hf := iteF (b2i_nt (b2i_eq0 c12)) hf
    refine V_aload_n d_X11_untie_28 rfl rfl ?_
    refine B_get k_0 fl_RX11_70 d_X11_untie_29 g_11_10 ?_
    refine B_get k_256 fl_RX11_332 d_X11_untie_32 g_7_3 ?_
    refine V_less (ls' := [none, none]) trivial ?_
    exact s_X11_untie_j35 hG hf hK
  · replace hf := iteT (b2i_ne0 c12) hf
    refine V_aload_n d_X11_untie_15 rfl rfl ?_
    refine B_get k_0 fl_RX11_70 d_X11_untie_16 g_11_10 ?_
    refine B_get k_256 fl_RX11_332 d_X11_untie_19 g_7_3 ?_
    obtain ⟨t2, ht2, hf⟩ := ob hf
    refine B_callS1 (s_J6_bitCount_0f7a4 hG ht2) m_J6_bitCount_0f7a4 ks_RX11_335 d_X11_untie_22 rfl (Nat.le_of_ble_eq_true rfl) ⟨rfl, rfl, Nat.le_of_ble_eq_true rfl, Nat.le_of_ble_eq_true rfl, Nat.le_of_ble_eq_true rfl⟩ (fun n => ?_)
    refine V_goto (tgt := 35) d_X11_untie_25 (by decide) ?_
    refine V_less (ls' := [none, none]) trivial ?_
    exact s_X11_untie_j35 hG hf hK
theorem s_X11_untie {G : Gl} (hG : G.1.stackTraces = false) {μ : Mem} {p1 : Bool} {r : (Int32 × Mem)} (hf : f_X11_untie μ p1 = some r) : Rt G yX11_untie F_X11_untie (some .int) [.ref (G.2.1 + 0), .int (b2i p1)] μ (some (.int r.1)) r.2 := fun n => Sd.of hG ⟨by decide +kernel, rfl, rfl⟩ rfl (Nat.le_of_ble_eq_true rfl) rfl (fun C hK => s_X11_untie_e hG hf hK)
theorem d_X11_trust_0 : decode F_X11_trust.2.1 0 = .ok (.iconst (-1), 1) := by decide +kernel
theorem d_X11_trust_1 : decode F_X11_trust.2.1 1 = .ok (.istore_n 1, 1) := by decide +kernel
theorem d_X11_trust_2 : decode F_X11_trust.2.1 2 = .ok (.iconst 0, 1) := by decide +kernel
theorem d_X11_trust_3 : decode F_X11_trust.2.1 3 = .ok (.istore_n 2, 1) := by decide +kernel
theorem d_X11_trust_4 : decode F_X11_trust.2.1 4 = .ok (.iconst 0, 1) := by decide +kernel
theorem d_X11_trust_5 : decode F_X11_trust.2.1 5 = .ok (.istore_n 3, 1) := by decide +kernel
theorem d_X11_trust_6 : decode F_X11_trust.2.1 6 = .ok (.iload_n 3, 1) := by decide +kernel
theorem d_X11_trust_7 : decode F_X11_trust.2.1 7 = .ok (.aload_n 0, 1) := by decide +kernel
theorem d_X11_trust_8 : decode F_X11_trust.2.1 8 = .ok (.getfield 19, 3) := by decide +kernel
theorem d_X11_trust_11 : decode F_X11_trust.2.1 11 = .ok (.getfield 291, 3) := by decide +kernel
theorem d_X11_trust_14 : decode F_X11_trust.2.1 14 = .ok (.if_icmp .ge 37, 3) := by decide +kernel
theorem d_X11_trust_17 : decode F_X11_trust.2.1 17 = .ok (.aload_n 0, 1) := by decide +kernel
theorem d_X11_trust_18 : decode F_X11_trust.2.1 18 = .ok (.getfield 19, 3) := by decide +kernel
theorem d_X11_trust_21 : decode F_X11_trust.2.1 21 = .ok (.aload_n 0, 1) := by decide +kernel
theorem d_X11_trust_22 : decode F_X11_trust.2.1 22 = .ok (.getfield 19, 3) := by decide +kernel
theorem d_X11_trust_25 : decode F_X11_trust.2.1 25 = .ok (.iload_n 3, 1) := by decide +kernel
theorem d_X11_trust_26 : decode F_X11_trust.2.1 26 = .ok (.invokevirtual 361, 3) := by decide +kernel
theorem d_X11_trust_29 : decode F_X11_trust.2.1 29 = .ok (.invokevirtual 352, 3) := by decide +kernel
theorem d_X11_trust_32 : decode F_X11_trust.2.1 32 = .ok (.istore 4, 2) := by decide +kernel
theorem d_X11_trust_34 : decode F_X11_trust.2.1 34 = .ok (.iload 4, 2) := by decide +kernel
theorem d_X11_trust_36 : decode F_X11_trust.2.1 36 = .ok (.iload_n 2, 1) := by decide +kernel
theorem d_X11_trust_37 : decode F_X11_trust.2.1 37 = .ok (.if_icmp .le 8, 3) := by decide +kernel
theorem d_X11_trust_40 : decode F_X11_trust.2.1 40 = .ok (.iload 4, 2) := by decide +kernel
theorem d_X11_trust_42 : decode F_X11_trust.2.1 42 = .ok (.istore_n 2, 1) := by decide +kernel
theorem d_X11_trust_43 : decode F_X11_trust.2.1 43 = .ok (.iload_n 3, 1) := by decide +kernel
theorem d_X11_trust_44 : decode F_X11_trust.2.1 44 = .ok (.istore_n 1, 1) := by decide +kernel
theorem d_X11_trust_45 : decode F_X11_trust.2.1 45 = .ok (.iinc 3 1, 3) := by decide +kernel
theorem d_X11_trust_48 : decode F_X11_trust.2.1 48 = .ok (.goto (-42), 3) := by decide +kernel
theorem d_X11_trust_51 : decode F_X11_trust.2.1 51 = .ok (.iload_n 1, 1) := by decide +kernel
theorem d_X11_trust_52 : decode F_X11_trust.2.1 52 = .ok (.ireturn, 1) := by decide +kernel
def f_X11_trust_j45_6 (μ : Mem) (l1 : Int32) (l2 : Int32) (l3 : Int32) : Option ((Int32 × Int32 × Int32) ⊕ Int32) :=
some (.inl (l1, l2, (l3 + 1)))
def f_X11_trust_b6 (μ : Mem) (l1 : Int32) (l2 : Int32) (l3 : Int32) : Option ((Int32 × Int32 × Int32) ⊕ Int32) :=
if (μ 3 0) ≤ l3 then
some (.inr l1)
else
Option.bind (f_X2_hangingOn μ 3 l3) fun t1 =>
Option.bind (f_X2_amountOf μ 3 t1) fun t2 =>
if t2 ≤ l2 then
f_X11_trust_j45_6 μ l1 l2 l3
else
f_X11_trust_j45_6 μ l3 t2 l3
def f_X11_trust_j51 (μ : Mem) (l1 : Int32) : Option Int32 :=
some l1
def f_X11_trust_l6 (μ : Mem) (l1 : Int32) (l2 : Int32) (l3 : Int32) : Option Int32 := Option.bind (loopN 10000 (fun z : (Int32 × Int32 × Int32) => f_X11_trust_b6 μ z.1 z.2.1 z.2.2) (l1, l2, l3)) fun t : Int32 => f_X11_trust_j51 μ t
def f_X11_trust (μ : Mem) : Option Int32 :=
f_X11_trust_l6 μ (-1) 0 0
theorem s_X11_trust_j45_6 {G : Gl} (hG : G.1.stackTraces = false) {C : Cx} {n : Nat} {μ : Mem} {l1 : Int32} {l2 : Int32} {l3 : Int32} {y : ((Int32 × Int32 × Int32) ⊕ Int32)} (hf : f_X11_trust_j45_6 μ l1 l2 l3 = some y) (hK : (∀ z', y = .inl z' → ∀ n, V G C F_X11_trust 6 [some (.ref (G.2.1 + 0)), some (.int z'.1), some (.int z'.2.1), some (.int z'.2.2), none] [] (pic G μ) n 0 0) ∧ (∀ x', y = .inr x' → ∀ n, V G C F_X11_trust 51 [none, some (.int x'), none, none, none] [] (pic G μ) n 0 0)) : V G C F_X11_trust 45 [some (.ref (G.2.1 + 0)), some (.int l1), some (.int l2), some (.int l3), none] [] (pic G μ) n 0 0 := by
  unfold f_X11_trust_j45_6 at hf
  refine V_iinc (v := (l3 + 1)) (ls' := [_, _, _, _, _]) d_X11_trust_45 rfl (by rw [ic_1]) rfl ?_
  refine V_goto (tgt := 6) d_X11_trust_48 (by decide) ?_
  refine V_less (ls' := [some _, some _, some _, some _, none]) ⟨rfl, rfl, rfl, rfl, trivial⟩ ?_
  cases hf
  exact hK.1 _ rfl _
theorem s_X11_trust_b6 {G : Gl} (hG : G.1.stackTraces = false) {C : Cx} {n : Nat} {μ : Mem} {l1 : Int32} {l2 : Int32} {l3 : Int32} {y : ((Int32 × Int32 × Int32) ⊕ Int32)} (hf : f_X11_trust_b6 μ l1 l2 l3 = some y) (hK : (∀ z', y = .inl z' → ∀ n, V G C F_X11_trust 6 [some (.ref (G.2.1 + 0)), some (.int z'.1), some (.int z'.2.1), some (.int z'.2.2), none] [] (pic G μ) n 0 0) ∧ (∀ x', y = .inr x' → ∀ n, V G C F_X11_trust 51 [none, some (.int x'), none, none, none] [] (pic G μ) n 0 0)) : V G C F_X11_trust 6 [some (.ref (G.2.1 + 0)), some (.int l1), some (.int l2), some (.int l3), none] [] (pic G μ) n 0 0 := by
  unfold f_X11_trust_b6 at hf
  refine V_iload_n d_X11_trust_6 rfl rfl ?_
  refine V_aload_n d_X11_trust_7 rfl rfl ?_
  refine B_get k_0 fl_RX11_19 d_X11_trust_8 g_11_1 ?_
  refine B_get k_3 fl_RX11_291 d_X11_trust_11 g_2_0 ?_
  refine V_icmp_ge (tgt := 51) d_X11_trust_14 (by decide) (fun c14 => ?_) (fun c14 => ?_)
  · replace hf := iteT c14 hf
    refine V_less (ls' := [none, some _, none, none, none]) ⟨rfl, trivial⟩ ?_
    cases hf
    exact hK.2 _ rfl _
  · replace hf := iteF c14 hf
    refine V_aload_n d_X11_trust_17 rfl rfl ?_
    refine B_get k_0 fl_RX11_19 d_X11_trust_18 g_11_1 ?_
    refine V_aload_n d_X11_trust_21 rfl rfl ?_
    refine B_get k_0 fl_RX11_19 d_X11_trust_22 g_11_1 ?_
    refine V_iload_n d_X11_trust_25 rfl rfl ?_
    obtain ⟨t1, ht1, hf⟩ := ob hf
    refine B_callV1 (s_X2_hangingOn hG L_3 ht1) k_3 clX2 m_X2_hangingOn kv_RX11_361 d_X11_trust_26 rfl (Nat.le_of_ble_eq_true rfl) ⟨rfl, rfl, Nat.le_of_ble_eq_true rfl, Nat.le_of_ble_eq_true rfl, Nat.le_of_ble_eq_true rfl⟩ (fun n => ?_)
    obtain ⟨t2, ht2, hf⟩ := ob hf
    refine B_callV1 (s_X2_amountOf hG L_3 ht2) k_3 clX2 m_X2_amountOf kv_RX11_352 d_X11_trust_29 rfl (Nat.le_of_ble_eq_true rfl) ⟨rfl, rfl, Nat.le_of_ble_eq_true rfl, Nat.le_of_ble_eq_true rfl, Nat.le_of_ble_eq_true rfl⟩ (fun n => ?_)
    refine V_istore (ls' := [_, _, _, _, _]) d_X11_trust_32 rfl rfl ?_
    refine V_iload d_X11_trust_34 rfl ?_
    refine V_iload_n d_X11_trust_36 rfl rfl ?_
    refine V_icmp_le (tgt := 45) d_X11_trust_37 (by decide) (fun c37 => ?_) (fun c37 => ?_)
    · replace hf := iteT c37 hf
      refine V_less (ls' := [some _, some _, some _, some _, none]) ⟨rfl, rfl, rfl, rfl, trivial⟩ ?_
      exact s_X11_trust_j45_6 hG hf hK
    · replace hf := iteF c37 hf
      refine V_iload d_X11_trust_40 rfl ?_
      refine V_istore_n (ls' := [_, _, _, _, _]) d_X11_trust_42 rfl rfl rfl ?_
      refine V_iload_n d_X11_trust_43 rfl rfl ?_
      refine V_istore_n (ls' := [_, _, _, _, _]) d_X11_trust_44 rfl rfl rfl ?_
      refine V_less (ls' := [some _, some _, some _, some _, none]) ⟨rfl, rfl, rfl, rfl, trivial⟩ ?_
      exact s_X11_trust_j45_6 hG hf hK
theorem s_X11_trust_j51 {G : Gl} (hG : G.1.stackTraces = false) {C : Cx} {n : Nat} {μ : Mem} {l1 : Int32} {r : Int32} (hf : f_X11_trust_j51 μ l1 = some r) (hK : FinR G C F_X11_trust (some .int) (some (.int r)) μ) : V G C F_X11_trust 51 [none, some (.int l1), none, none, none] [] (pic G μ) n 0 0 := by
  unfold f_X11_trust_j51 at hf
  refine V_iload_n d_X11_trust_51 rfl rfl ?_
  cases hf
  exact R_i hK d_X11_trust_52 (Nat.le_of_ble_eq_true rfl) (Nat.le_of_ble_eq_true rfl)
theorem s_X11_trust_l6 {G : Gl} (hG : G.1.stackTraces = false) {C : Cx} {n : Nat} {μ : Mem} {l1 : Int32} {l2 : Int32} {l3 : Int32} {r : Int32} (hf : f_X11_trust_l6 μ l1 l2 l3 = some r) (hK : FinR G C F_X11_trust (some .int) (some (.int r)) μ) : V G C F_X11_trust 6 [some (.ref (G.2.1 + 0)), some (.int l1), some (.int l2), some (.int l3), none] [] (pic G μ) n 0 0 := by
  unfold f_X11_trust_l6 at hf
  obtain ⟨t, hl, hf⟩ := ob hf
  refine loopV (P := fun z => ∀ n, V G C F_X11_trust 6 [some (.ref (G.2.1 + 0)), some (.int z.1), some (.int z.2.1), some (.int z.2.2), none] [] (pic G μ) n 0 0) (t := t) ?_ _ _ hl n
  intro z y' hy hI hT n
  refine s_X11_trust_b6 hG hy ⟨hI, fun x9 ex => ?_⟩
  have ex2 := hT x9 ex
  subst ex2
  intro n
  exact s_X11_trust_j51 hG hf hK
theorem s_X11_trust_e {G : Gl} (hG : G.1.stackTraces = false) {C : Cx} {n : Nat} {μ : Mem}  {r : Int32} (hf : f_X11_trust μ = some r) (hK : FinR G C F_X11_trust (some .int) (some (.int r)) μ) : V G C F_X11_trust 0 [some (.ref (G.2.1 + 0)), none, none, none, none] [] (pic G μ) n 0 0 := by
  unfold f_X11_trust at hf
  refine V_iconst (v := (-1)) d_X11_trust_0 ic_m1 ?_
  refine V_istore_n (ls' := [_, _, _, _, _]) d_X11_trust_1 rfl rfl rfl ?_
  refine V_iconst (v := 0) d_X11_trust_2 ic_0 ?_
  refine V_istore_n (ls' := [_, _, _, _, _]) d_X11_trust_3 rfl rfl rfl ?_
  refine V_iconst (v := 0) d_X11_trust_4 ic_0 ?_
  refine V_istore_n (ls' := [_, _, _, _, _]) d_X11_trust_5 rfl rfl rfl ?_
  refine V_less (ls' := [some _, some _, some _, some _, none]) ⟨rfl, rfl, rfl, rfl, trivial⟩ ?_
  exact s_X11_trust_l6 hG hf hK
theorem s_X11_trust {G : Gl} (hG : G.1.stackTraces = false) {μ : Mem} {r : Int32} (hf : f_X11_trust μ = some r) : Rt G yX11_trust F_X11_trust (some .int) [.ref (G.2.1 + 0)] μ (some (.int r)) μ := fun n => Sd.of hG ⟨by decide +kernel, rfl, rfl⟩ rfl (Nat.le_of_ble_eq_true rfl) rfl (fun C hK => s_X11_trust_e hG hf hK)
theorem d_X11_needed_0 : decode F_X11_needed.2.1 0 = .ok (.iconst 1, 1) := by decide +kernel
theorem d_X11_needed_1 : decode F_X11_needed.2.1 1 = .ok (.aload_n 0, 1) := by decide +kernel
theorem d_X11_needed_2 : decode F_X11_needed.2.1 2 = .ok (.getfield 19, 3) := by decide +kernel
theorem d_X11_needed_5 : decode F_X11_needed.2.1 5 = .ok (.getfield 291, 3) := by decide +kernel
theorem d_X11_needed_8 : decode F_X11_needed.2.1 8 = .ok (.ishl, 1) := by decide +kernel
theorem d_X11_needed_9 : decode F_X11_needed.2.1 9 = .ok (.iconst 1, 1) := by decide +kernel
theorem d_X11_needed_10 : decode F_X11_needed.2.1 10 = .ok (.isub, 1) := by decide +kernel
theorem d_X11_needed_11 : decode F_X11_needed.2.1 11 = .ok (.istore_n 1, 1) := by decide +kernel
theorem d_X11_needed_12 : decode F_X11_needed.2.1 12 = .ok (.iload_n 1, 1) := by decide +kernel
theorem d_X11_needed_13 : decode F_X11_needed.2.1 13 = .ok (.istore_n 2, 1) := by decide +kernel
theorem d_X11_needed_14 : decode F_X11_needed.2.1 14 = .ok (.iload_n 2, 1) := by decide +kernel
theorem d_X11_needed_15 : decode F_X11_needed.2.1 15 = .ok (.ifCond .lt 33, 3) := by decide +kernel
theorem d_X11_needed_18 : decode F_X11_needed.2.1 18 = .ok (.iload_n 2, 1) := by decide +kernel
theorem d_X11_needed_19 : decode F_X11_needed.2.1 19 = .ok (.invokestatic 335, 3) := by decide +kernel
theorem d_X11_needed_22 : decode F_X11_needed.2.1 22 = .ok (.iload_n 1, 1) := by decide +kernel
theorem d_X11_needed_23 : decode F_X11_needed.2.1 23 = .ok (.invokestatic 335, 3) := by decide +kernel
theorem d_X11_needed_26 : decode F_X11_needed.2.1 26 = .ok (.if_icmp .gt 16, 3) := by decide +kernel
theorem d_X11_needed_29 : decode F_X11_needed.2.1 29 = .ok (.aload_n 0, 1) := by decide +kernel
theorem d_X11_needed_30 : decode F_X11_needed.2.1 30 = .ok (.getfield 19, 3) := by decide +kernel
theorem d_X11_needed_33 : decode F_X11_needed.2.1 33 = .ok (.iload_n 2, 1) := by decide +kernel
theorem d_X11_needed_34 : decode F_X11_needed.2.1 34 = .ok (.invokevirtual 364, 3) := by decide +kernel
theorem d_X11_needed_37 : decode F_X11_needed.2.1 37 = .ok (.ifCond .eq 5, 3) := by decide +kernel
theorem d_X11_needed_40 : decode F_X11_needed.2.1 40 = .ok (.iload_n 2, 1) := by decide +kernel
theorem d_X11_needed_41 : decode F_X11_needed.2.1 41 = .ok (.istore_n 1, 1) := by decide +kernel
theorem d_X11_needed_42 : decode F_X11_needed.2.1 42 = .ok (.iinc 2 (-1), 3) := by decide +kernel
theorem d_X11_needed_45 : decode F_X11_needed.2.1 45 = .ok (.goto (-31), 3) := by decide +kernel
theorem d_X11_needed_48 : decode F_X11_needed.2.1 48 = .ok (.iload_n 1, 1) := by decide +kernel
theorem d_X11_needed_49 : decode F_X11_needed.2.1 49 = .ok (.ireturn, 1) := by decide +kernel
def f_X11_needed_j42_14 (μ : Mem) (l1 : Int32) (l2 : Int32) : Option ((Int32 × Int32) ⊕ Int32) :=
some (.inl (l1, (l2 + (-1))))
def f_X11_needed_b14 (μ : Mem) (l1 : Int32) (l2 : Int32) : Option ((Int32 × Int32) ⊕ Int32) :=
if l2 < 0 then
some (.inr l1)
else
Option.bind (f_J6_bitCount_0f7a4 μ l2) fun t1 =>
Option.bind (f_J6_bitCount_0f7a4 μ l1) fun t2 =>
if t2 < t1 then
f_X11_needed_j42_14 μ l1 l2
else
Option.bind (f_X2_isInEachPledge μ 3 l2) fun t3 =>
some (.inl ((if t3 = true then l2 else l1), (l2 + (-1))))
def f_X11_needed_j48 (μ : Mem) (l1 : Int32) : Option Int32 :=
some l1
def f_X11_needed_l14 (μ : Mem) (l1 : Int32) (l2 : Int32) : Option Int32 := Option.bind (loopN 10000 (fun z : (Int32 × Int32) => f_X11_needed_b14 μ z.1 z.2) (l1, l2)) fun t : Int32 => f_X11_needed_j48 μ t
def f_X11_needed (μ : Mem) : Option Int32 :=
f_X11_needed_l14 μ ((1 <<< ((μ 3 0) &&& 31)) - 1) ((1 <<< ((μ 3 0) &&& 31)) - 1)
theorem s_X11_needed_j42_14 {G : Gl} (hG : G.1.stackTraces = false) {C : Cx} {n : Nat} {μ : Mem} {l1 : Int32} {l2 : Int32} {y : ((Int32 × Int32) ⊕ Int32)} (hf : f_X11_needed_j42_14 μ l1 l2 = some y) (hK : (∀ z', y = .inl z' → ∀ n, V G C F_X11_needed 14 [some (.ref (G.2.1 + 0)), some (.int z'.1), some (.int z'.2)] [] (pic G μ) n 0 0) ∧ (∀ x', y = .inr x' → ∀ n, V G C F_X11_needed 48 [none, some (.int x'), none] [] (pic G μ) n 0 0)) : V G C F_X11_needed 42 [some (.ref (G.2.1 + 0)), some (.int l1), some (.int l2)] [] (pic G μ) n 0 0 := by
  unfold f_X11_needed_j42_14 at hf
  refine V_iinc (v := (l2 + (-1))) (ls' := [_, _, _]) d_X11_needed_42 rfl (by rw [ic_m1]) rfl ?_
  refine V_goto (tgt := 14) d_X11_needed_45 (by decide) ?_
  refine V_less (ls' := [some _, some _, some _]) ⟨rfl, rfl, rfl, trivial⟩ ?_
  cases hf
  exact hK.1 _ rfl _
theorem s_X11_needed_b14 {G : Gl} (hG : G.1.stackTraces = false) {C : Cx} {n : Nat} {μ : Mem} {l1 : Int32} {l2 : Int32} {y : ((Int32 × Int32) ⊕ Int32)} (hf : f_X11_needed_b14 μ l1 l2 = some y) (hK : (∀ z', y = .inl z' → ∀ n, V G C F_X11_needed 14 [some (.ref (G.2.1 + 0)), some (.int z'.1), some (.int z'.2)] [] (pic G μ) n 0 0) ∧ (∀ x', y = .inr x' → ∀ n, V G C F_X11_needed 48 [none, some (.int x'), none] [] (pic G μ) n 0 0)) : V G C F_X11_needed 14 [some (.ref (G.2.1 + 0)), some (.int l1), some (.int l2)] [] (pic G μ) n 0 0 := by
  unfold f_X11_needed_b14 at hf
  refine V_iload_n d_X11_needed_14 rfl rfl ?_
  refine V_if_lt (tgt := 48) d_X11_needed_15 (by decide) (fun c15 => ?_) (fun c15 => ?_)
  · replace hf := iteT c15 hf
    refine V_less (ls' := [none, some _, none]) ⟨rfl, trivial⟩ ?_
    cases hf
    exact hK.2 _ rfl _
  · replace hf := iteF c15 hf
    refine V_iload_n d_X11_needed_18 rfl rfl ?_
    obtain ⟨t1, ht1, hf⟩ := ob hf
    refine B_callS1 (s_J6_bitCount_0f7a4 hG ht1) m_J6_bitCount_0f7a4 ks_RX11_335 d_X11_needed_19 rfl (Nat.le_of_ble_eq_true rfl) ⟨rfl, rfl, Nat.le_of_ble_eq_true rfl, Nat.le_of_ble_eq_true rfl, Nat.le_of_ble_eq_true rfl⟩ (fun n => ?_)
    refine V_iload_n d_X11_needed_22 rfl rfl ?_
    obtain ⟨t2, ht2, hf⟩ := ob hf
    refine B_callS1 (s_J6_bitCount_0f7a4 hG ht2) m_J6_bitCount_0f7a4 ks_RX11_335 d_X11_needed_23 rfl (Nat.le_of_ble_eq_true rfl) ⟨rfl, rfl, Nat.le_of_ble_eq_true rfl, Nat.le_of_ble_eq_true rfl, Nat.le_of_ble_eq_true rfl⟩ (fun n => ?_)
    refine V_icmp_gt (tgt := 42) d_X11_needed_26 (by decide) (fun c26 => ?_) (fun c26 => ?_)
    · replace hf := iteT c26 hf
      refine V_less (ls' := [some _, some _, some _]) ⟨rfl, rfl, rfl, trivial⟩ ?_
      exact s_X11_needed_j42_14 hG hf hK
    · replace hf := iteF c26 hf
      refine V_aload_n d_X11_needed_29 rfl rfl ?_
      refine B_get k_0 fl_RX11_19 d_X11_needed_30 g_11_1 ?_
      refine V_iload_n d_X11_needed_33 rfl rfl ?_
      obtain ⟨t3, ht3, hf⟩ := ob hf
      refine B_callV1 (s_X2_isInEachPledge hG L_3 ht3) k_3 clX2 m_X2_isInEachPledge kv_RX11_364 d_X11_needed_34 rfl (Nat.le_of_ble_eq_true rfl) ⟨rfl, rfl, Nat.le_of_ble_eq_true rfl, Nat.le_of_ble_eq_true rfl, Nat.le_of_ble_eq_true rfl⟩ (fun n => ?_)
      have hJj4 : ∀ j4 : Int32, j4 = (if t3 = true then l2 else l1) → V G C F_X11_needed 42 [some (.ref (G.2.1 + 0)), some (.int j4), some (.int l2)] [] (pic G μ) n 0 0 := by
        intro j4 ej4
        subst ej4
        refine V_iinc (v := (l2 + (-1))) (ls' := [_, _, _]) d_X11_needed_42 rfl (by rw [ic_m1]) rfl ?_
        refine V_goto (tgt := 14) d_X11_needed_45 (by decide) ?_
        refine V_less (ls' := [some _, some _, some _]) ⟨rfl, rfl, rfl, trivial⟩ ?_
        cases hf
        exact hK.1 _ rfl _
      refine V_if_eq (tgt := 42) d_X11_needed_37 (by decide) (fun c37 => ?_) (fun c37 => ?_)
      · refine V_less (ls' := [some _, some _, some _]) ⟨rfl, rfl, rfl, trivial⟩ ?_
        exact hJj4 l1 (by rw [if_neg (b2i_nt (b2i_eq0 c37))])
      · refine V_iload_n d_X11_needed_40 rfl rfl ?_
        refine V_istore_n (ls' := [_, _, _]) d_X11_needed_41 rfl rfl rfl ?_
        refine V_less (ls' := [some _, some _, some _]) ⟨rfl, rfl, rfl, trivial⟩ ?_
        exact hJj4 l2 (by rw [if_pos (b2i_ne0 c37)])
theorem s_X11_needed_j48 {G : Gl} (hG : G.1.stackTraces = false) {C : Cx} {n : Nat} {μ : Mem} {l1 : Int32} {r : Int32} (hf : f_X11_needed_j48 μ l1 = some r) (hK : FinR G C F_X11_needed (some .int) (some (.int r)) μ) : V G C F_X11_needed 48 [none, some (.int l1), none] [] (pic G μ) n 0 0 := by
  unfold f_X11_needed_j48 at hf
  refine V_iload_n d_X11_needed_48 rfl rfl ?_
  cases hf
  exact R_i hK d_X11_needed_49 (Nat.le_of_ble_eq_true rfl) (Nat.le_of_ble_eq_true rfl)
theorem s_X11_needed_l14 {G : Gl} (hG : G.1.stackTraces = false) {C : Cx} {n : Nat} {μ : Mem} {l1 : Int32} {l2 : Int32} {r : Int32} (hf : f_X11_needed_l14 μ l1 l2 = some r) (hK : FinR G C F_X11_needed (some .int) (some (.int r)) μ) : V G C F_X11_needed 14 [some (.ref (G.2.1 + 0)), some (.int l1), some (.int l2)] [] (pic G μ) n 0 0 := by
  unfold f_X11_needed_l14 at hf
  obtain ⟨t, hl, hf⟩ := ob hf
  refine loopV (P := fun z => ∀ n, V G C F_X11_needed 14 [some (.ref (G.2.1 + 0)), some (.int z.1), some (.int z.2)] [] (pic G μ) n 0 0) (t := t) ?_ _ _ hl n
  intro z y' hy hI hT n
  refine s_X11_needed_b14 hG hy ⟨hI, fun x9 ex => ?_⟩
  have ex2 := hT x9 ex
  subst ex2
  intro n
  exact s_X11_needed_j48 hG hf hK
theorem s_X11_needed_e {G : Gl} (hG : G.1.stackTraces = false) {C : Cx} {n : Nat} {μ : Mem}  {r : Int32} (hf : f_X11_needed μ = some r) (hK : FinR G C F_X11_needed (some .int) (some (.int r)) μ) : V G C F_X11_needed 0 [some (.ref (G.2.1 + 0)), none, none] [] (pic G μ) n 0 0 := by
  unfold f_X11_needed at hf
  refine V_iconst (v := 1) d_X11_needed_0 ic_1 ?_
  refine V_aload_n d_X11_needed_1 rfl rfl ?_
  refine B_get k_0 fl_RX11_19 d_X11_needed_2 g_11_1 ?_
  refine B_get k_3 fl_RX11_291 d_X11_needed_5 g_2_0 ?_
  refine V_ishl d_X11_needed_8 ?_
  refine V_iconst (v := 1) d_X11_needed_9 ic_1 ?_
  refine V_isub d_X11_needed_10 ?_
  refine V_istore_n (ls' := [_, _, _]) d_X11_needed_11 rfl rfl rfl ?_
  refine V_iload_n d_X11_needed_12 rfl rfl ?_
  refine V_istore_n (ls' := [_, _, _]) d_X11_needed_13 rfl rfl rfl ?_
  refine V_less (ls' := [some _, some _, some _]) ⟨rfl, rfl, rfl, trivial⟩ ?_
  exact s_X11_needed_l14 hG hf hK
theorem s_X11_needed {G : Gl} (hG : G.1.stackTraces = false) {μ : Mem} {r : Int32} (hf : f_X11_needed μ = some r) : Rt G yX11_needed F_X11_needed (some .int) [.ref (G.2.1 + 0)] μ (some (.int r)) μ := fun n => Sd.of hG ⟨by decide +kernel, rfl, rfl⟩ rfl (Nat.le_of_ble_eq_true rfl) rfl (fun C hK => s_X11_needed_e hG hf hK)
theorem d_X11_rail_0 : decode F_X11_rail.2.1 0 = .ok (.aload_n 0, 1) := by decide +kernel
theorem d_X11_rail_1 : decode F_X11_rail.2.1 1 = .ok (.getfield 19, 3) := by decide +kernel
theorem d_X11_rail_4 : decode F_X11_rail.2.1 4 = .ok (.iconst 2, 1) := by decide +kernel
theorem d_X11_rail_5 : decode F_X11_rail.2.1 5 = .ok (.invokevirtual 355, 3) := by decide +kernel
theorem d_X11_rail_8 : decode F_X11_rail.2.1 8 = .ok (.ireturn, 1) := by decide +kernel
def f_X11_rail (μ : Mem) : Option Int32 :=
Option.bind (f_X2_lacesThatAre μ 3 2) fun t1 =>
some t1
theorem s_X11_rail_e {G : Gl} (hG : G.1.stackTraces = false) {C : Cx} {n : Nat} {μ : Mem}  {r : Int32} (hf : f_X11_rail μ = some r) (hK : FinR G C F_X11_rail (some .int) (some (.int r)) μ) : V G C F_X11_rail 0 [some (.ref (G.2.1 + 0))] [] (pic G μ) n 0 0 := by
  unfold f_X11_rail at hf
  refine V_aload_n d_X11_rail_0 rfl rfl ?_
  refine B_get k_0 fl_RX11_19 d_X11_rail_1 g_11_1 ?_
  refine V_iconst (v := 2) d_X11_rail_4 ic_2 ?_
  obtain ⟨t1, ht1, hf⟩ := ob hf
  refine B_callV1 (s_X2_lacesThatAre hG L_3 ht1) k_3 clX2 m_X2_lacesThatAre kv_RX11_355 d_X11_rail_5 rfl (Nat.le_of_ble_eq_true rfl) ⟨rfl, rfl, Nat.le_of_ble_eq_true rfl, Nat.le_of_ble_eq_true rfl, Nat.le_of_ble_eq_true rfl⟩ (fun n => ?_)
  cases hf
  exact R_i hK d_X11_rail_8 (Nat.le_of_ble_eq_true rfl) (Nat.le_of_ble_eq_true rfl)
theorem s_X11_rail {G : Gl} (hG : G.1.stackTraces = false) {μ : Mem} {r : Int32} (hf : f_X11_rail μ = some r) : Rt G yX11_rail F_X11_rail (some .int) [.ref (G.2.1 + 0)] μ (some (.int r)) μ := fun n => Sd.of hG ⟨by decide +kernel, rfl, rfl⟩ rfl (Nat.le_of_ble_eq_true rfl) rfl (fun C hK => s_X11_rail_e hG hf hK)
theorem d_X11_seed_0 : decode F_X11_seed.2.1 0 = .ok (.aload_n 0, 1) := by decide +kernel
theorem d_X11_seed_1 : decode F_X11_seed.2.1 1 = .ok (.getfield 19, 3) := by decide +kernel
theorem d_X11_seed_4 : decode F_X11_seed.2.1 4 = .ok (.getfield 385, 3) := by decide +kernel
theorem d_X11_seed_7 : decode F_X11_seed.2.1 7 = .ok (.istore_n 2, 1) := by decide +kernel
theorem d_X11_seed_8 : decode F_X11_seed.2.1 8 = .ok (.aload_n 0, 1) := by decide +kernel
theorem d_X11_seed_9 : decode F_X11_seed.2.1 9 = .ok (.getfield 19, 3) := by decide +kernel
theorem d_X11_seed_12 : decode F_X11_seed.2.1 12 = .ok (.iload_n 1, 1) := by decide +kernel
theorem d_X11_seed_13 : decode F_X11_seed.2.1 13 = .ok (.putfield 385, 3) := by decide +kernel
theorem d_X11_seed_16 : decode F_X11_seed.2.1 16 = .ok (.iload_n 2, 1) := by decide +kernel
theorem d_X11_seed_17 : decode F_X11_seed.2.1 17 = .ok (.ireturn, 1) := by decide +kernel
def f_X11_seed (μ : Mem) (p1 : Int32) : Option (Int32 × Mem) :=
some ((μ 3 4), (mset μ 3 4 p1))
theorem s_X11_seed_e {G : Gl} (hG : G.1.stackTraces = false) {C : Cx} {n : Nat} {μ : Mem} {p1 : Int32} {r : (Int32 × Mem)} (hf : f_X11_seed μ p1 = some r) (hK : FinR G C F_X11_seed (some .int) (some (.int r.1)) r.2) : V G C F_X11_seed 0 [some (.ref (G.2.1 + 0)), some (.int p1), none] [] (pic G μ) n 0 0 := by
  unfold f_X11_seed at hf
  refine V_aload_n d_X11_seed_0 rfl rfl ?_
  refine B_get k_0 fl_RX11_19 d_X11_seed_1 g_11_1 ?_
  refine B_get k_3 fl_RX11_385 d_X11_seed_4 g_2_4 ?_
  refine V_istore_n (ls' := [_, _, _]) d_X11_seed_7 rfl rfl rfl ?_
  refine V_aload_n d_X11_seed_8 rfl rfl ?_
  refine B_get k_0 fl_RX11_19 d_X11_seed_9 g_11_1 ?_
  refine V_iload_n d_X11_seed_12 rfl rfl ?_
  refine B_putI k_3 fl_RX11_385 pt_2_4 (Nat.le_of_ble_eq_true rfl) p_2_4 d_X11_seed_13 ?_
  refine V_iload_n d_X11_seed_16 rfl rfl ?_
  cases hf
  exact R_i hK d_X11_seed_17 (Nat.le_of_ble_eq_true rfl) (Nat.le_of_ble_eq_true rfl)
theorem s_X11_seed {G : Gl} (hG : G.1.stackTraces = false) {μ : Mem} {p1 : Int32} {r : (Int32 × Mem)} (hf : f_X11_seed μ p1 = some r) : Rt G yX11_seed F_X11_seed (some .int) [.ref (G.2.1 + 0), .int p1] μ (some (.int r.1)) r.2 := fun n => Sd.of hG ⟨by decide +kernel, rfl, rfl⟩ rfl (Nat.le_of_ble_eq_true rfl) rfl (fun C hK => s_X11_seed_e hG hf hK)
theorem d_X12_thrown_0 : decode F_X12_thrown.2.1 0 = .ok (.aload_n 0, 1) := by decide +kernel
theorem d_X12_thrown_1 : decode F_X12_thrown.2.1 1 = .ok (.getfield 3, 3) := by decide +kernel
theorem d_X12_thrown_4 : decode F_X12_thrown.2.1 4 = .ok (.ireturn, 1) := by decide +kernel
def f_X12_thrown (μ : Mem) : Option Int32 :=
some (μ 264 0)
theorem s_X12_thrown_e {G : Gl} (hG : G.1.stackTraces = false) {C : Cx} {n : Nat} {μ : Mem}  {r : Int32} (hf : f_X12_thrown μ = some r) (hK : FinR G C F_X12_thrown (some .int) (some (.int r)) μ) : V G C F_X12_thrown 0 [some (.ref (G.2.1 + 264))] [] (pic G μ) n 0 0 := by
  unfold f_X12_thrown at hf
  refine V_aload_n d_X12_thrown_0 rfl rfl ?_
  refine B_get k_264 fl_RX12_3 d_X12_thrown_1 g_12_0 ?_
  cases hf
  exact R_i hK d_X12_thrown_4 (Nat.le_of_ble_eq_true rfl) (Nat.le_of_ble_eq_true rfl)
theorem s_X12_thrown {G : Gl} (hG : G.1.stackTraces = false) {μ : Mem} {r : Int32} (hf : f_X12_thrown μ = some r) : Rt G yX12_thrown F_X12_thrown (some .int) [.ref (G.2.1 + 264)] μ (some (.int r)) μ := fun n => Sd.of hG ⟨by decide +kernel, rfl, rfl⟩ rfl (Nat.le_of_ble_eq_true rfl) rfl (fun C hK => s_X12_thrown_e hG hf hK)
theorem d_X12_throwsIf_0 : decode F_X12_throwsIf.2.1 0 = .ok (.iload_n 1, 1) := by decide +kernel
theorem d_X12_throwsIf_1 : decode F_X12_throwsIf.2.1 1 = .ok (.ifCond .eq 8, 3) := by decide +kernel
theorem d_X12_throwsIf_4 : decode F_X12_throwsIf.2.1 4 = .ok (.aload_n 0, 1) := by decide +kernel
theorem d_X12_throwsIf_5 : decode F_X12_throwsIf.2.1 5 = .ok (.iload_n 2, 1) := by decide +kernel
theorem d_X12_throwsIf_6 : decode F_X12_throwsIf.2.1 6 = .ok (.putfield 3, 3) := by decide +kernel
theorem d_X12_throwsIf_9 : decode F_X12_throwsIf.2.1 9 = .ok (.iload_n 1, 1) := by decide +kernel
theorem d_X12_throwsIf_10 : decode F_X12_throwsIf.2.1 10 = .ok (.ireturn, 1) := by decide +kernel
def f_X12_throwsIf_j9 (μ : Mem) (l1 : Bool) : Option (Bool × Mem) :=
some (l1, μ)
def f_X12_throwsIf (μ : Mem) (p1 : Bool) (p2 : Int32) : Option (Bool × Mem) :=
if p1 = true then
f_X12_throwsIf_j9 (mset μ 264 0 p2) p1
else
f_X12_throwsIf_j9 μ p1
theorem s_X12_throwsIf_j9 {G : Gl} (hG : G.1.stackTraces = false) {C : Cx} {n : Nat} {μ : Mem} {l1 : Bool} {r : (Bool × Mem)} (hf : f_X12_throwsIf_j9 μ l1 = some r) (hK : FinR G C F_X12_throwsIf (some .boolean) (some (.int (b2i r.1))) r.2) : V G C F_X12_throwsIf 9 [none, some (.int (b2i l1)), none] [] (pic G μ) n 0 0 := by
  unfold f_X12_throwsIf_j9 at hf
  refine V_iload_n d_X12_throwsIf_9 rfl rfl ?_
  cases hf
  exact R_z hK d_X12_throwsIf_10 (Nat.le_of_ble_eq_true rfl) (Nat.le_of_ble_eq_true rfl)
theorem s_X12_throwsIf_e {G : Gl} (hG : G.1.stackTraces = false) {C : Cx} {n : Nat} {μ : Mem} {p1 : Bool} {p2 : Int32} {r : (Bool × Mem)} (hf : f_X12_throwsIf μ p1 p2 = some r) (hK : FinR G C F_X12_throwsIf (some .boolean) (some (.int (b2i r.1))) r.2) : V G C F_X12_throwsIf 0 [some (.ref (G.2.1 + 264)), some (.int (b2i p1)), some (.int p2)] [] (pic G μ) n 0 0 := by
  unfold f_X12_throwsIf at hf
  refine V_iload_n d_X12_throwsIf_0 rfl rfl ?_
  refine V_if_eq (tgt := 9) d_X12_throwsIf_1 (by decide) (fun c1 => ?_) (fun c1 => ?_)
  · replace hf := iteF (b2i_nt (b2i_eq0 c1)) hf
    refine V_less (ls' := [none, some _, none]) ⟨rfl, trivial⟩ ?_
    exact s_X12_throwsIf_j9 hG hf hK
  · replace hf := iteT (b2i_ne0 c1) hf
    refine V_aload_n d_X12_throwsIf_4 rfl rfl ?_
    refine V_iload_n d_X12_throwsIf_5 rfl rfl ?_
    refine B_putI k_264 fl_RX12_3 pt_12_0 (Nat.le_of_ble_eq_true rfl) p_12_0 d_X12_throwsIf_6 ?_
    refine V_less (ls' := [none, some _, none]) ⟨rfl, trivial⟩ ?_
    exact s_X12_throwsIf_j9 hG hf hK
theorem s_X12_throwsIf {G : Gl} (hG : G.1.stackTraces = false) {μ : Mem} {p1 : Bool} {p2 : Int32} {r : (Bool × Mem)} (hf : f_X12_throwsIf μ p1 p2 = some r) : Rt G yX12_throwsIf F_X12_throwsIf (some .boolean) [.ref (G.2.1 + 264), .int (b2i p1), .int p2] μ (some (.int (b2i r.1))) r.2 := fun n => Sd.of hG ⟨by decide +kernel, rfl, rfl⟩ rfl (Nat.le_of_ble_eq_true rfl) rfl (fun C hK => s_X12_throwsIf_e hG hf hK)
theorem d_X12_in_0 : decode F_X12_in.2.1 0 = .ok (.iload_n 0, 1) := by decide +kernel
theorem d_X12_in_1 : decode F_X12_in.2.1 1 = .ok (.iload_n 1, 1) := by decide +kernel
theorem d_X12_in_2 : decode F_X12_in.2.1 2 = .ok (.if_icmp .lt 12, 3) := by decide +kernel
theorem d_X12_in_5 : decode F_X12_in.2.1 5 = .ok (.iload_n 0, 1) := by decide +kernel
theorem d_X12_in_6 : decode F_X12_in.2.1 6 = .ok (.iload_n 2, 1) := by decide +kernel
theorem d_X12_in_7 : decode F_X12_in.2.1 7 = .ok (.if_icmp .gt 7, 3) := by decide +kernel
theorem d_X12_in_10 : decode F_X12_in.2.1 10 = .ok (.iconst 1, 1) := by decide +kernel
theorem d_X12_in_11 : decode F_X12_in.2.1 11 = .ok (.goto 4, 3) := by decide +kernel
theorem d_X12_in_14 : decode F_X12_in.2.1 14 = .ok (.iconst 0, 1) := by decide +kernel
theorem d_X12_in_15 : decode F_X12_in.2.1 15 = .ok (.ireturn, 1) := by decide +kernel
def f_X12_in (μ : Mem) (p0 : Int32) (p1 : Int32) (p2 : Int32) : Option Bool :=
some (if p0 < p1 then false else (if p2 < p0 then false else true))
theorem s_X12_in_e {G : Gl} (hG : G.1.stackTraces = false) {C : Cx} {n : Nat} {μ : Mem} {p0 : Int32} {p1 : Int32} {p2 : Int32} {r : Bool} (hf : f_X12_in μ p0 p1 p2 = some r) (hK : FinR G C F_X12_in (some .boolean) (some (.int (b2i r))) μ) : V G C F_X12_in 0 [some (.int p0), some (.int p1), some (.int p2)] [] (pic G μ) n 0 0 := by
  unfold f_X12_in at hf
  refine V_iload_n d_X12_in_0 rfl rfl ?_
  refine V_iload_n d_X12_in_1 rfl rfl ?_
  have hJj1 : ∀ j1 : Bool, j1 = (if p0 < p1 then false else (if p2 < p0 then false else true)) → V G C F_X12_in 15 [none, none, none] [.int (b2i j1)] (pic G μ) n 0 0 := by
    intro j1 ej1
    subst ej1
    cases hf
    exact R_z hK d_X12_in_15 (Nat.le_of_ble_eq_true rfl) (Nat.le_of_ble_eq_true rfl)
  refine V_icmp_lt (tgt := 14) d_X12_in_2 (by decide) (fun c2 => ?_) (fun c2 => ?_)
  · refine V_iconst (v := 0) d_X12_in_14 ic_0 ?_
    refine V_less (ls' := [none, none, none]) trivial ?_
    exact hJj1 false (by rw [if_pos c2])
  · refine V_iload_n d_X12_in_5 rfl rfl ?_
    refine V_iload_n d_X12_in_6 rfl rfl ?_
    refine V_icmp_gt (tgt := 14) d_X12_in_7 (by decide) (fun c7 => ?_) (fun c7 => ?_)
    · refine V_iconst (v := 0) d_X12_in_14 ic_0 ?_
      refine V_less (ls' := [none, none, none]) trivial ?_
      exact hJj1 false (by rw [if_neg c2, if_pos c7])
    · refine V_iconst (v := 1) d_X12_in_10 ic_1 ?_
      refine V_goto (tgt := 15) d_X12_in_11 (by decide) ?_
      refine V_less (ls' := [none, none, none]) trivial ?_
      exact hJj1 true (by rw [if_neg c2, if_neg c7])
theorem s_X12_in {G : Gl} (hG : G.1.stackTraces = false) {μ : Mem} {p0 : Int32} {p1 : Int32} {p2 : Int32} {r : Bool} (hf : f_X12_in μ p0 p1 p2 = some r) : Rt G yX12_in F_X12_in (some .boolean) [.int p0, .int p1, .int p2] μ (some (.int (b2i r))) μ := fun n => Sd.of hG ⟨by decide +kernel, rfl, rfl⟩ rfl (Nat.le_of_ble_eq_true rfl) rfl (fun C hK => s_X12_in_e hG hf hK)
theorem d_X12_has_0 : decode F_X12_has.2.1 0 = .ok (.iload_n 0, 1) := by decide +kernel
theorem d_X12_has_1 : decode F_X12_has.2.1 1 = .ok (.iload_n 1, 1) := by decide +kernel
theorem d_X12_has_2 : decode F_X12_has.2.1 2 = .ok (.ishr, 1) := by decide +kernel
theorem d_X12_has_3 : decode F_X12_has.2.1 3 = .ok (.iconst 1, 1) := by decide +kernel
theorem d_X12_has_4 : decode F_X12_has.2.1 4 = .ok (.iand, 1) := by decide +kernel
theorem d_X12_has_5 : decode F_X12_has.2.1 5 = .ok (.iconst 1, 1) := by decide +kernel
theorem d_X12_has_6 : decode F_X12_has.2.1 6 = .ok (.if_icmp .ne 7, 3) := by decide +kernel
theorem d_X12_has_9 : decode F_X12_has.2.1 9 = .ok (.iconst 1, 1) := by decide +kernel
theorem d_X12_has_10 : decode F_X12_has.2.1 10 = .ok (.goto 4, 3) := by decide +kernel
theorem d_X12_has_13 : decode F_X12_has.2.1 13 = .ok (.iconst 0, 1) := by decide +kernel
theorem d_X12_has_14 : decode F_X12_has.2.1 14 = .ok (.ireturn, 1) := by decide +kernel
def f_X12_has (μ : Mem) (p0 : Int32) (p1 : Int32) : Option Bool :=
some (if ((p0 >>> (p1 &&& 31)) &&& 1) = 1 then true else false)
theorem s_X12_has_e {G : Gl} (hG : G.1.stackTraces = false) {C : Cx} {n : Nat} {μ : Mem} {p0 : Int32} {p1 : Int32} {r : Bool} (hf : f_X12_has μ p0 p1 = some r) (hK : FinR G C F_X12_has (some .boolean) (some (.int (b2i r))) μ) : V G C F_X12_has 0 [some (.int p0), some (.int p1)] [] (pic G μ) n 0 0 := by
  unfold f_X12_has at hf
  refine V_iload_n d_X12_has_0 rfl rfl ?_
  refine V_iload_n d_X12_has_1 rfl rfl ?_
  refine V_ishr d_X12_has_2 ?_
  refine V_iconst (v := 1) d_X12_has_3 ic_1 ?_
  refine V_iand d_X12_has_4 ?_
  refine V_iconst (v := 1) d_X12_has_5 ic_1 ?_
  have hJj1 : ∀ j1 : Bool, j1 = (if ((p0 >>> (p1 &&& 31)) &&& 1) = 1 then true else false) → V G C F_X12_has 14 [none, none] [.int (b2i j1)] (pic G μ) n 0 0 := by
    intro j1 ej1
    subst ej1
    cases hf
    exact R_z hK d_X12_has_14 (Nat.le_of_ble_eq_true rfl) (Nat.le_of_ble_eq_true rfl)
  refine V_icmp_ne (tgt := 13) d_X12_has_6 (by decide) (fun c6 => ?_) (fun c6 => ?_)
  · refine V_iconst (v := 0) d_X12_has_13 ic_0 ?_
    refine V_less (ls' := [none, none]) trivial ?_
    exact hJj1 false (by rw [if_neg c6])
  · refine V_iconst (v := 1) d_X12_has_9 ic_1 ?_
    refine V_goto (tgt := 14) d_X12_has_10 (by decide) ?_
    refine V_less (ls' := [none, none]) trivial ?_
    exact hJj1 true (by rw [if_pos c6])
theorem s_X12_has {G : Gl} (hG : G.1.stackTraces = false) {μ : Mem} {p0 : Int32} {p1 : Int32} {r : Bool} (hf : f_X12_has μ p0 p1 = some r) : Rt G yX12_has F_X12_has (some .boolean) [.int p0, .int p1] μ (some (.int (b2i r))) μ := fun n => Sd.of hG ⟨by decide +kernel, rfl, rfl⟩ rfl (Nat.le_of_ble_eq_true rfl) rfl (fun C hK => s_X12_has_e hG hf hK)
theorem d_X12_image_0 : decode F_X12_image.2.1 0 = .ok (.aload_n 0, 1) := by decide +kernel
theorem d_X12_image_1 : decode F_X12_image.2.1 1 = .ok (.iconst 0, 1) := by decide +kernel
theorem d_X12_image_2 : decode F_X12_image.2.1 2 = .ok (.putfield 3, 3) := by decide +kernel
theorem d_X12_image_5 : decode F_X12_image.2.1 5 = .ok (.iconst 0, 1) := by decide +kernel
theorem d_X12_image_6 : decode F_X12_image.2.1 6 = .ok (.istore_n 1, 1) := by decide +kernel
theorem d_X12_image_7 : decode F_X12_image.2.1 7 = .ok (.iload_n 1, 1) := by decide +kernel
theorem d_X12_image_8 : decode F_X12_image.2.1 8 = .ok (.sipush 1219, 3) := by decide +kernel
theorem d_X12_image_11 : decode F_X12_image.2.1 11 = .ok (.if_icmp .ge 21, 3) := by decide +kernel
theorem d_X12_image_14 : decode F_X12_image.2.1 14 = .ok (.aload_n 0, 1) := by decide +kernel
theorem d_X12_image_15 : decode F_X12_image.2.1 15 = .ok (.getfield 17, 3) := by decide +kernel
theorem d_X12_image_18 : decode F_X12_image.2.1 18 = .ok (.iload_n 1, 1) := by decide +kernel
theorem d_X12_image_19 : decode F_X12_image.2.1 19 = .ok (.aload_n 0, 1) := by decide +kernel
theorem d_X12_image_20 : decode F_X12_image.2.1 20 = .ok (.getfield 13, 3) := by decide +kernel
theorem d_X12_image_23 : decode F_X12_image.2.1 23 = .ok (.iload_n 1, 1) := by decide +kernel
theorem d_X12_image_24 : decode F_X12_image.2.1 24 = .ok (.iaload, 1) := by decide +kernel
theorem d_X12_image_25 : decode F_X12_image.2.1 25 = .ok (.iastore, 1) := by decide +kernel
theorem d_X12_image_26 : decode F_X12_image.2.1 26 = .ok (.iinc 1 1, 3) := by decide +kernel
theorem d_X12_image_29 : decode F_X12_image.2.1 29 = .ok (.goto (-22), 3) := by decide +kernel
theorem d_X12_image_32 : decode F_X12_image.2.1 32 = .ok (.aload_n 0, 1) := by decide +kernel
theorem d_X12_image_33 : decode F_X12_image.2.1 33 = .ok (.iconst 1, 1) := by decide +kernel
theorem d_X12_image_34 : decode F_X12_image.2.1 34 = .ok (.putfield 52, 3) := by decide +kernel
theorem d_X12_image_37 : decode F_X12_image.2.1 37 = .ok (.return_, 1) := by decide +kernel
def f_X12_image_b7 (μ : Mem) (l1 : Int32) : Option ((Int32 × Mem) ⊕ Mem) :=
if 1219 ≤ l1 then
some (.inr μ)
else
Option.bind (rd μ 265 2068 l1) fun t1 =>
Option.bind (wr μ 266 1219 l1 t1) fun μ2 =>
some (.inl ((l1 + 1), μ2))
def f_X12_image_j32 (μ : Mem) : Option Mem :=
some (mset μ 264 6 (b2i true))
def f_X12_image_l7 (μ : Mem) (l1 : Int32) : Option Mem := Option.bind (loopN 10000 (fun z : (Int32 × Mem) => f_X12_image_b7 z.2 z.1) (l1, μ)) fun t : Mem => f_X12_image_j32 t
def f_X12_image (μ : Mem) : Option Mem :=
f_X12_image_l7 (mset μ 264 0 0) 0
theorem s_X12_image_b7 {G : Gl} (hG : G.1.stackTraces = false) {C : Cx} {n : Nat} {μ : Mem} {l1 : Int32} {y : ((Int32 × Mem) ⊕ Mem)} (hf : f_X12_image_b7 μ l1 = some y) (hK : (∀ z', y = .inl z' → ∀ n, V G C F_X12_image 7 [some (.ref (G.2.1 + 264)), some (.int z'.1)] [] (pic G z'.2) n 0 0) ∧ (∀ x', y = .inr x' → ∀ n, V G C F_X12_image 32 [some (.ref (G.2.1 + 264)), none] [] (pic G x') n 0 0)) : V G C F_X12_image 7 [some (.ref (G.2.1 + 264)), some (.int l1)] [] (pic G μ) n 0 0 := by
  unfold f_X12_image_b7 at hf
  refine V_iload_n d_X12_image_7 rfl rfl ?_
  refine V_sipush (v := 1219) d_X12_image_8 sp_1219 ?_
  refine V_icmp_ge (tgt := 32) d_X12_image_11 (by decide) (fun c11 => ?_) (fun c11 => ?_)
  · replace hf := iteT c11 hf
    refine V_less (ls' := [some _, none]) ⟨rfl, trivial⟩ ?_
    cases hf
    exact hK.2 _ rfl _
  · replace hf := iteF c11 hf
    refine V_aload_n d_X12_image_14 rfl rfl ?_
    refine B_get k_264 fl_RX12_17 d_X12_image_15 g_12_2 ?_
    refine V_iload_n d_X12_image_18 rfl rfl ?_
    refine V_aload_n d_X12_image_19 rfl rfl ?_
    refine B_get k_264 fl_RX12_13 d_X12_image_20 g_12_1 ?_
    refine V_iload_n d_X12_image_23 rfl rfl ?_
    obtain ⟨t1, ht1, hf⟩ := ob hf
    refine B_iald k_265 ht1 d_X12_image_24 ?_
    obtain ⟨μ2, hμ2, hf⟩ := ob hf
    refine B_iast k_266 hμ2 d_X12_image_25 ?_
    refine V_iinc (v := (l1 + 1)) (ls' := [_, _]) d_X12_image_26 rfl (by rw [ic_1]) rfl ?_
    refine V_goto (tgt := 7) d_X12_image_29 (by decide) ?_
    refine V_less (ls' := [some _, some _]) ⟨rfl, rfl, trivial⟩ ?_
    cases hf
    exact hK.1 _ rfl _
theorem s_X12_image_j32 {G : Gl} (hG : G.1.stackTraces = false) {C : Cx} {n : Nat} {μ : Mem}  {r : Mem} (hf : f_X12_image_j32 μ = some r) (hK : FinR G C F_X12_image none none r) : V G C F_X12_image 32 [some (.ref (G.2.1 + 264)), none] [] (pic G μ) n 0 0 := by
  unfold f_X12_image_j32 at hf
  refine V_aload_n d_X12_image_32 rfl rfl ?_
  refine V_iconst (v := 1) d_X12_image_33 ic_1 ?_
  refine B_putZ (v := true) k_264 fl_RX12_52 pt_12_6 (Nat.le_of_ble_eq_true rfl) p_12_6 d_X12_image_34 ?_
  cases hf
  exact R_v hK d_X12_image_37 (Nat.le_of_ble_eq_true rfl) (Nat.le_of_ble_eq_true rfl)
theorem s_X12_image_l7 {G : Gl} (hG : G.1.stackTraces = false) {C : Cx} {n : Nat} {μ : Mem} {l1 : Int32} {r : Mem} (hf : f_X12_image_l7 μ l1 = some r) (hK : FinR G C F_X12_image none none r) : V G C F_X12_image 7 [some (.ref (G.2.1 + 264)), some (.int l1)] [] (pic G μ) n 0 0 := by
  unfold f_X12_image_l7 at hf
  obtain ⟨t, hl, hf⟩ := ob hf
  refine loopV (P := fun z => ∀ n, V G C F_X12_image 7 [some (.ref (G.2.1 + 264)), some (.int z.1)] [] (pic G z.2) n 0 0) (t := t) ?_ _ _ hl n
  intro z y' hy hI hT n
  refine s_X12_image_b7 hG hy ⟨hI, fun x9 ex => ?_⟩
  have ex2 := hT x9 ex
  subst ex2
  intro n
  exact s_X12_image_j32 hG hf hK
theorem s_X12_image_e {G : Gl} (hG : G.1.stackTraces = false) {C : Cx} {n : Nat} {μ : Mem}  {r : Mem} (hf : f_X12_image μ = some r) (hK : FinR G C F_X12_image none none r) : V G C F_X12_image 0 [some (.ref (G.2.1 + 264)), none] [] (pic G μ) n 0 0 := by
  unfold f_X12_image at hf
  refine V_aload_n d_X12_image_0 rfl rfl ?_
  refine V_iconst (v := 0) d_X12_image_1 ic_0 ?_
  refine B_putI k_264 fl_RX12_3 pt_12_0 (Nat.le_of_ble_eq_true rfl) p_12_0 d_X12_image_2 ?_
  refine V_iconst (v := 0) d_X12_image_5 ic_0 ?_
  refine V_istore_n (ls' := [_, _]) d_X12_image_6 rfl rfl rfl ?_
  refine V_less (ls' := [some _, some _]) ⟨rfl, rfl, trivial⟩ ?_
  exact s_X12_image_l7 hG hf hK
theorem s_X12_image {G : Gl} (hG : G.1.stackTraces = false) {μ : Mem} {r : Mem} (hf : f_X12_image μ = some r) : Rt G yX12_image F_X12_image none [.ref (G.2.1 + 264)] μ none r := fun n => Sd.of hG ⟨by decide +kernel, rfl, rfl⟩ rfl (Nat.le_of_ble_eq_true rfl) rfl (fun C hK => s_X12_image_e hG hf hK)
theorem d_X12_back_0 : decode F_X12_back.2.1 0 = .ok (.aload_n 0, 1) := by decide +kernel
theorem d_X12_back_1 : decode F_X12_back.2.1 1 = .ok (.iconst 0, 1) := by decide +kernel
theorem d_X12_back_2 : decode F_X12_back.2.1 2 = .ok (.putfield 3, 3) := by decide +kernel
theorem d_X12_back_5 : decode F_X12_back.2.1 5 = .ok (.aload_n 0, 1) := by decide +kernel
theorem d_X12_back_6 : decode F_X12_back.2.1 6 = .ok (.getfield 52, 3) := by decide +kernel
theorem d_X12_back_9 : decode F_X12_back.2.1 9 = .ok (.ifCond .ne 5, 3) := by decide +kernel
theorem d_X12_back_12 : decode F_X12_back.2.1 12 = .ok (.iconst 0, 1) := by decide +kernel
theorem d_X12_back_13 : decode F_X12_back.2.1 13 = .ok (.ireturn, 1) := by decide +kernel
theorem d_X12_back_14 : decode F_X12_back.2.1 14 = .ok (.iconst 0, 1) := by decide +kernel
theorem d_X12_back_15 : decode F_X12_back.2.1 15 = .ok (.istore_n 1, 1) := by decide +kernel
theorem d_X12_back_16 : decode F_X12_back.2.1 16 = .ok (.iload_n 1, 1) := by decide +kernel
theorem d_X12_back_17 : decode F_X12_back.2.1 17 = .ok (.sipush 1219, 3) := by decide +kernel
theorem d_X12_back_20 : decode F_X12_back.2.1 20 = .ok (.if_icmp .ge 21, 3) := by decide +kernel
theorem d_X12_back_23 : decode F_X12_back.2.1 23 = .ok (.aload_n 0, 1) := by decide +kernel
theorem d_X12_back_24 : decode F_X12_back.2.1 24 = .ok (.getfield 13, 3) := by decide +kernel
theorem d_X12_back_27 : decode F_X12_back.2.1 27 = .ok (.iload_n 1, 1) := by decide +kernel
theorem d_X12_back_28 : decode F_X12_back.2.1 28 = .ok (.aload_n 0, 1) := by decide +kernel
theorem d_X12_back_29 : decode F_X12_back.2.1 29 = .ok (.getfield 17, 3) := by decide +kernel
theorem d_X12_back_32 : decode F_X12_back.2.1 32 = .ok (.iload_n 1, 1) := by decide +kernel
theorem d_X12_back_33 : decode F_X12_back.2.1 33 = .ok (.iaload, 1) := by decide +kernel
theorem d_X12_back_34 : decode F_X12_back.2.1 34 = .ok (.iastore, 1) := by decide +kernel
theorem d_X12_back_35 : decode F_X12_back.2.1 35 = .ok (.iinc 1 1, 3) := by decide +kernel
theorem d_X12_back_38 : decode F_X12_back.2.1 38 = .ok (.goto (-22), 3) := by decide +kernel
theorem d_X12_back_41 : decode F_X12_back.2.1 41 = .ok (.aload_n 0, 1) := by decide +kernel
theorem d_X12_back_42 : decode F_X12_back.2.1 42 = .ok (.iconst 0, 1) := by decide +kernel
theorem d_X12_back_43 : decode F_X12_back.2.1 43 = .ok (.putfield 56, 3) := by decide +kernel
theorem d_X12_back_46 : decode F_X12_back.2.1 46 = .ok (.iconst 1, 1) := by decide +kernel
theorem d_X12_back_47 : decode F_X12_back.2.1 47 = .ok (.ireturn, 1) := by decide +kernel
def f_X12_back_b16 (μ : Mem) (l1 : Int32) : Option ((Int32 × Mem) ⊕ Mem) :=
if 1219 ≤ l1 then
some (.inr μ)
else
Option.bind (rd μ 266 1219 l1) fun t1 =>
Option.bind (wr μ 265 2068 l1 t1) fun μ2 =>
some (.inl ((l1 + 1), μ2))
def f_X12_back_j41 (μ : Mem) : Option (Bool × Mem) :=
some (true, (mset μ 264 7 0))
def f_X12_back_l16 (μ : Mem) (l1 : Int32) : Option (Bool × Mem) := Option.bind (loopN 10000 (fun z : (Int32 × Mem) => f_X12_back_b16 z.2 z.1) (l1, μ)) fun t : Mem => f_X12_back_j41 t
def f_X12_back (μ : Mem) : Option (Bool × Mem) :=
if (i2b ((mset μ 264 0 0) 264 6)) = true then
f_X12_back_l16 (mset μ 264 0 0) 0
else
some (false, (mset μ 264 0 0))
theorem s_X12_back_b16 {G : Gl} (hG : G.1.stackTraces = false) {C : Cx} {n : Nat} {μ : Mem} {l1 : Int32} {y : ((Int32 × Mem) ⊕ Mem)} (hf : f_X12_back_b16 μ l1 = some y) (hK : (∀ z', y = .inl z' → ∀ n, V G C F_X12_back 16 [some (.ref (G.2.1 + 264)), some (.int z'.1)] [] (pic G z'.2) n 0 0) ∧ (∀ x', y = .inr x' → ∀ n, V G C F_X12_back 41 [some (.ref (G.2.1 + 264)), none] [] (pic G x') n 0 0)) : V G C F_X12_back 16 [some (.ref (G.2.1 + 264)), some (.int l1)] [] (pic G μ) n 0 0 := by
  unfold f_X12_back_b16 at hf
  refine V_iload_n d_X12_back_16 rfl rfl ?_
  refine V_sipush (v := 1219) d_X12_back_17 sp_1219 ?_
  refine V_icmp_ge (tgt := 41) d_X12_back_20 (by decide) (fun c20 => ?_) (fun c20 => ?_)
  · replace hf := iteT c20 hf
    refine V_less (ls' := [some _, none]) ⟨rfl, trivial⟩ ?_
    cases hf
    exact hK.2 _ rfl _
  · replace hf := iteF c20 hf
    refine V_aload_n d_X12_back_23 rfl rfl ?_
    refine B_get k_264 fl_RX12_13 d_X12_back_24 g_12_1 ?_
    refine V_iload_n d_X12_back_27 rfl rfl ?_
    refine V_aload_n d_X12_back_28 rfl rfl ?_
    refine B_get k_264 fl_RX12_17 d_X12_back_29 g_12_2 ?_
    refine V_iload_n d_X12_back_32 rfl rfl ?_
    obtain ⟨t1, ht1, hf⟩ := ob hf
    refine B_iald k_266 ht1 d_X12_back_33 ?_
    obtain ⟨μ2, hμ2, hf⟩ := ob hf
    refine B_iast k_265 hμ2 d_X12_back_34 ?_
    refine V_iinc (v := (l1 + 1)) (ls' := [_, _]) d_X12_back_35 rfl (by rw [ic_1]) rfl ?_
    refine V_goto (tgt := 16) d_X12_back_38 (by decide) ?_
    refine V_less (ls' := [some _, some _]) ⟨rfl, rfl, trivial⟩ ?_
    cases hf
    exact hK.1 _ rfl _
theorem s_X12_back_j41 {G : Gl} (hG : G.1.stackTraces = false) {C : Cx} {n : Nat} {μ : Mem}  {r : (Bool × Mem)} (hf : f_X12_back_j41 μ = some r) (hK : FinR G C F_X12_back (some .boolean) (some (.int (b2i r.1))) r.2) : V G C F_X12_back 41 [some (.ref (G.2.1 + 264)), none] [] (pic G μ) n 0 0 := by
  unfold f_X12_back_j41 at hf
  refine V_aload_n d_X12_back_41 rfl rfl ?_
  refine V_iconst (v := 0) d_X12_back_42 ic_0 ?_
  refine B_putI k_264 fl_RX12_56 pt_12_7 (Nat.le_of_ble_eq_true rfl) p_12_7 d_X12_back_43 ?_
  refine V_iconst (v := 1) d_X12_back_46 ic_1 ?_
  cases hf
  exact R_z hK d_X12_back_47 (Nat.le_of_ble_eq_true rfl) (Nat.le_of_ble_eq_true rfl)
theorem s_X12_back_l16 {G : Gl} (hG : G.1.stackTraces = false) {C : Cx} {n : Nat} {μ : Mem} {l1 : Int32} {r : (Bool × Mem)} (hf : f_X12_back_l16 μ l1 = some r) (hK : FinR G C F_X12_back (some .boolean) (some (.int (b2i r.1))) r.2) : V G C F_X12_back 16 [some (.ref (G.2.1 + 264)), some (.int l1)] [] (pic G μ) n 0 0 := by
  unfold f_X12_back_l16 at hf
  obtain ⟨t, hl, hf⟩ := ob hf
  refine loopV (P := fun z => ∀ n, V G C F_X12_back 16 [some (.ref (G.2.1 + 264)), some (.int z.1)] [] (pic G z.2) n 0 0) (t := t) ?_ _ _ hl n
  intro z y' hy hI hT n
  refine s_X12_back_b16 hG hy ⟨hI, fun x9 ex => ?_⟩
  have ex2 := hT x9 ex
  subst ex2
  intro n
  exact s_X12_back_j41 hG hf hK
theorem s_X12_back_e {G : Gl} (hG : G.1.stackTraces = false) {C : Cx} {n : Nat} {μ : Mem}  {r : (Bool × Mem)} (hf : f_X12_back μ = some r) (hK : FinR G C F_X12_back (some .boolean) (some (.int (b2i r.1))) r.2) : V G C F_X12_back 0 [some (.ref (G.2.1 + 264)), none] [] (pic G μ) n 0 0 := by
  unfold f_X12_back at hf
  refine V_aload_n d_X12_back_0 rfl rfl ?_
  refine V_iconst (v := 0) d_X12_back_1 ic_0 ?_
  refine B_putI k_264 fl_RX12_3 pt_12_0 (Nat.le_of_ble_eq_true rfl) p_12_0 d_X12_back_2 ?_
  refine V_aload_n d_X12_back_5 rfl rfl ?_
  refine B_get k_264 fl_RX12_52 d_X12_back_6 g_12_6 ?_
  refine V_if_ne (tgt := 14) d_X12_back_9 (by decide) (fun c9 => ?_) (fun c9 => ?_)
  · replace hf := iteT (b2i_ne0 c9) hf
    refine V_iconst (v := 0) d_X12_back_14 ic_0 ?_
    refine V_istore_n (ls' := [_, _]) d_X12_back_15 rfl rfl rfl ?_
    refine V_less (ls' := [some _, some _]) ⟨rfl, rfl, trivial⟩ ?_
    exact s_X12_back_l16 hG hf hK
  · replace hf := iteF (b2i_nt (b2i_eq0 c9)) hf
    refine V_iconst (v := 0) d_X12_back_12 ic_0 ?_
    cases hf
    exact R_z hK d_X12_back_13 (Nat.le_of_ble_eq_true rfl) (Nat.le_of_ble_eq_true rfl)
theorem s_X12_back {G : Gl} (hG : G.1.stackTraces = false) {μ : Mem} {r : (Bool × Mem)} (hf : f_X12_back μ = some r) : Rt G yX12_back F_X12_back (some .boolean) [.ref (G.2.1 + 264)] μ (some (.int (b2i r.1))) r.2 := fun n => Sd.of hG ⟨by decide +kernel, rfl, rfl⟩ rfl (Nat.le_of_ble_eq_true rfl) rfl (fun C hK => s_X12_back_e hG hf hK)
theorem d_X12_remembers_0 : decode F_X12_remembers.2.1 0 = .ok (.aload_n 0, 1) := by decide +kernel
theorem d_X12_remembers_1 : decode F_X12_remembers.2.1 1 = .ok (.getfield 56, 3) := by decide +kernel
theorem d_X12_remembers_4 : decode F_X12_remembers.2.1 4 = .ok (.bipush 12, 2) := by decide +kernel
theorem d_X12_remembers_6 : decode F_X12_remembers.2.1 6 = .ok (.if_icmp .ne 37, 3) := by decide +kernel
theorem d_X12_remembers_9 : decode F_X12_remembers.2.1 9 = .ok (.iconst 0, 1) := by decide +kernel
theorem d_X12_remembers_10 : decode F_X12_remembers.2.1 10 = .ok (.istore_n 1, 1) := by decide +kernel
theorem d_X12_remembers_11 : decode F_X12_remembers.2.1 11 = .ok (.iload_n 1, 1) := by decide +kernel
theorem d_X12_remembers_12 : decode F_X12_remembers.2.1 12 = .ok (.sipush 4070, 3) := by decide +kernel
theorem d_X12_remembers_15 : decode F_X12_remembers.2.1 15 = .ok (.if_icmp .ge 25, 3) := by decide +kernel
theorem d_X12_remembers_18 : decode F_X12_remembers.2.1 18 = .ok (.aload_n 0, 1) := by decide +kernel
theorem d_X12_remembers_19 : decode F_X12_remembers.2.1 19 = .ok (.getfield 26, 3) := by decide +kernel
theorem d_X12_remembers_22 : decode F_X12_remembers.2.1 22 = .ok (.iload_n 1, 1) := by decide +kernel
theorem d_X12_remembers_23 : decode F_X12_remembers.2.1 23 = .ok (.aload_n 0, 1) := by decide +kernel
theorem d_X12_remembers_24 : decode F_X12_remembers.2.1 24 = .ok (.getfield 26, 3) := by decide +kernel
theorem d_X12_remembers_27 : decode F_X12_remembers.2.1 27 = .ok (.iload_n 1, 1) := by decide +kernel
theorem d_X12_remembers_28 : decode F_X12_remembers.2.1 28 = .ok (.sipush 370, 3) := by decide +kernel
theorem d_X12_remembers_31 : decode F_X12_remembers.2.1 31 = .ok (.iadd, 1) := by decide +kernel
theorem d_X12_remembers_32 : decode F_X12_remembers.2.1 32 = .ok (.iaload, 1) := by decide +kernel
theorem d_X12_remembers_33 : decode F_X12_remembers.2.1 33 = .ok (.iastore, 1) := by decide +kernel
theorem d_X12_remembers_34 : decode F_X12_remembers.2.1 34 = .ok (.iinc 1 1, 3) := by decide +kernel
theorem d_X12_remembers_37 : decode F_X12_remembers.2.1 37 = .ok (.goto (-26), 3) := by decide +kernel
theorem d_X12_remembers_40 : decode F_X12_remembers.2.1 40 = .ok (.goto 13, 3) := by decide +kernel
theorem d_X12_remembers_43 : decode F_X12_remembers.2.1 43 = .ok (.aload_n 0, 1) := by decide +kernel
theorem d_X12_remembers_44 : decode F_X12_remembers.2.1 44 = .ok (.dup, 1) := by decide +kernel
theorem d_X12_remembers_45 : decode F_X12_remembers.2.1 45 = .ok (.getfield 56, 3) := by decide +kernel
theorem d_X12_remembers_48 : decode F_X12_remembers.2.1 48 = .ok (.iconst 1, 1) := by decide +kernel
theorem d_X12_remembers_49 : decode F_X12_remembers.2.1 49 = .ok (.iadd, 1) := by decide +kernel
theorem d_X12_remembers_50 : decode F_X12_remembers.2.1 50 = .ok (.putfield 56, 3) := by decide +kernel
theorem d_X12_remembers_53 : decode F_X12_remembers.2.1 53 = .ok (.iconst 0, 1) := by decide +kernel
theorem d_X12_remembers_54 : decode F_X12_remembers.2.1 54 = .ok (.istore_n 1, 1) := by decide +kernel
theorem d_X12_remembers_55 : decode F_X12_remembers.2.1 55 = .ok (.iload_n 1, 1) := by decide +kernel
theorem d_X12_remembers_56 : decode F_X12_remembers.2.1 56 = .ok (.sipush 370, 3) := by decide +kernel
theorem d_X12_remembers_59 : decode F_X12_remembers.2.1 59 = .ok (.if_icmp .ge 32, 3) := by decide +kernel
theorem d_X12_remembers_62 : decode F_X12_remembers.2.1 62 = .ok (.aload_n 0, 1) := by decide +kernel
theorem d_X12_remembers_63 : decode F_X12_remembers.2.1 63 = .ok (.getfield 26, 3) := by decide +kernel
theorem d_X12_remembers_66 : decode F_X12_remembers.2.1 66 = .ok (.sipush 370, 3) := by decide +kernel
theorem d_X12_remembers_69 : decode F_X12_remembers.2.1 69 = .ok (.aload_n 0, 1) := by decide +kernel
theorem d_X12_remembers_70 : decode F_X12_remembers.2.1 70 = .ok (.getfield 56, 3) := by decide +kernel
theorem d_X12_remembers_73 : decode F_X12_remembers.2.1 73 = .ok (.iconst 1, 1) := by decide +kernel
theorem d_X12_remembers_74 : decode F_X12_remembers.2.1 74 = .ok (.isub, 1) := by decide +kernel
theorem d_X12_remembers_75 : decode F_X12_remembers.2.1 75 = .ok (.imul, 1) := by decide +kernel
theorem d_X12_remembers_76 : decode F_X12_remembers.2.1 76 = .ok (.iload_n 1, 1) := by decide +kernel
theorem d_X12_remembers_77 : decode F_X12_remembers.2.1 77 = .ok (.iadd, 1) := by decide +kernel
theorem d_X12_remembers_78 : decode F_X12_remembers.2.1 78 = .ok (.aload_n 0, 1) := by decide +kernel
theorem d_X12_remembers_79 : decode F_X12_remembers.2.1 79 = .ok (.getfield 13, 3) := by decide +kernel
theorem d_X12_remembers_82 : decode F_X12_remembers.2.1 82 = .ok (.iload_n 1, 1) := by decide +kernel
theorem d_X12_remembers_83 : decode F_X12_remembers.2.1 83 = .ok (.iaload, 1) := by decide +kernel
theorem d_X12_remembers_84 : decode F_X12_remembers.2.1 84 = .ok (.iastore, 1) := by decide +kernel
theorem d_X12_remembers_85 : decode F_X12_remembers.2.1 85 = .ok (.iinc 1 1, 3) := by decide +kernel
theorem d_X12_remembers_88 : decode F_X12_remembers.2.1 88 = .ok (.goto (-33), 3) := by decide +kernel
theorem d_X12_remembers_91 : decode F_X12_remembers.2.1 91 = .ok (.return_, 1) := by decide +kernel
def f_X12_remembers_b11 (μ : Mem) (l1 : Int32) : Option ((Int32 × Mem) ⊕ Mem) :=
if 4070 ≤ l1 then
some (.inr μ)
else
Option.bind (rd μ 269 4440 (l1 + 370)) fun t1 =>
Option.bind (wr μ 269 4440 l1 t1) fun μ2 =>
some (.inl ((l1 + 1), μ2))
def f_X12_remembers_b55 (μ : Mem) (l1 : Int32) : Option ((Int32 × Mem) ⊕ Mem) :=
if 370 ≤ l1 then
some (.inr μ)
else
Option.bind (rd μ 265 2068 l1) fun t1 =>
Option.bind (wr μ 269 4440 ((370 * ((μ 264 7) - 1)) + l1) t1) fun μ2 =>
some (.inl ((l1 + 1), μ2))
def f_X12_remembers_j91 (μ : Mem) : Option Mem :=
some μ
def f_X12_remembers_l55 (μ : Mem) (l1 : Int32) : Option Mem := Option.bind (loopN 10000 (fun z : (Int32 × Mem) => f_X12_remembers_b55 z.2 z.1) (l1, μ)) fun t : Mem => f_X12_remembers_j91 t
def f_X12_remembers_j53 (μ : Mem) : Option Mem :=
f_X12_remembers_l55 μ 0
def f_X12_remembers_j40 (μ : Mem) : Option Mem :=
f_X12_remembers_j53 μ
def f_X12_remembers_l11 (μ : Mem) (l1 : Int32) : Option Mem := Option.bind (loopN 10000 (fun z : (Int32 × Mem) => f_X12_remembers_b11 z.2 z.1) (l1, μ)) fun t : Mem => f_X12_remembers_j40 t
def f_X12_remembers (μ : Mem) : Option Mem :=
if (μ 264 7) = 12 then
f_X12_remembers_l11 μ 0
else
f_X12_remembers_j53 (mset μ 264 7 ((μ 264 7) + 1))
theorem s_X12_remembers_b55 {G : Gl} (hG : G.1.stackTraces = false) {C : Cx} {n : Nat} {μ : Mem} {l1 : Int32} {y : ((Int32 × Mem) ⊕ Mem)} (hf : f_X12_remembers_b55 μ l1 = some y) (hK : (∀ z', y = .inl z' → ∀ n, V G C F_X12_remembers 55 [some (.ref (G.2.1 + 264)), some (.int z'.1)] [] (pic G z'.2) n 0 0) ∧ (∀ x', y = .inr x' → ∀ n, V G C F_X12_remembers 91 [none, none] [] (pic G x') n 0 0)) : V G C F_X12_remembers 55 [some (.ref (G.2.1 + 264)), some (.int l1)] [] (pic G μ) n 0 0 := by
  unfold f_X12_remembers_b55 at hf
  refine V_iload_n d_X12_remembers_55 rfl rfl ?_
  refine V_sipush (v := 370) d_X12_remembers_56 sp_370 ?_
  refine V_icmp_ge (tgt := 91) d_X12_remembers_59 (by decide) (fun c59 => ?_) (fun c59 => ?_)
  · replace hf := iteT c59 hf
    refine V_less (ls' := [none, none]) trivial ?_
    cases hf
    exact hK.2 _ rfl _
  · replace hf := iteF c59 hf
    refine V_aload_n d_X12_remembers_62 rfl rfl ?_
    refine B_get k_264 fl_RX12_26 d_X12_remembers_63 g_12_5 ?_
    refine V_sipush (v := 370) d_X12_remembers_66 sp_370 ?_
    refine V_aload_n d_X12_remembers_69 rfl rfl ?_
    refine B_get k_264 fl_RX12_56 d_X12_remembers_70 g_12_7 ?_
    refine V_iconst (v := 1) d_X12_remembers_73 ic_1 ?_
    refine V_isub d_X12_remembers_74 ?_
    refine V_imul d_X12_remembers_75 ?_
    refine V_iload_n d_X12_remembers_76 rfl rfl ?_
    refine V_iadd d_X12_remembers_77 ?_
    refine V_aload_n d_X12_remembers_78 rfl rfl ?_
    refine B_get k_264 fl_RX12_13 d_X12_remembers_79 g_12_1 ?_
    refine V_iload_n d_X12_remembers_82 rfl rfl ?_
    obtain ⟨t1, ht1, hf⟩ := ob hf
    refine B_iald k_265 ht1 d_X12_remembers_83 ?_
    obtain ⟨μ2, hμ2, hf⟩ := ob hf
    refine B_iast k_269 hμ2 d_X12_remembers_84 ?_
    refine V_iinc (v := (l1 + 1)) (ls' := [_, _]) d_X12_remembers_85 rfl (by rw [ic_1]) rfl ?_
    refine V_goto (tgt := 55) d_X12_remembers_88 (by decide) ?_
    refine V_less (ls' := [some _, some _]) ⟨rfl, rfl, trivial⟩ ?_
    cases hf
    exact hK.1 _ rfl _
theorem s_X12_remembers_j91 {G : Gl} (hG : G.1.stackTraces = false) {C : Cx} {n : Nat} {μ : Mem}  {r : Mem} (hf : f_X12_remembers_j91 μ = some r) (hK : FinR G C F_X12_remembers none none r) : V G C F_X12_remembers 91 [none, none] [] (pic G μ) n 0 0 := by
  unfold f_X12_remembers_j91 at hf
  cases hf
  exact R_v hK d_X12_remembers_91 (Nat.le_of_ble_eq_true rfl) (Nat.le_of_ble_eq_true rfl)
theorem s_X12_remembers_l55 {G : Gl} (hG : G.1.stackTraces = false) {C : Cx} {n : Nat} {μ : Mem} {l1 : Int32} {r : Mem} (hf : f_X12_remembers_l55 μ l1 = some r) (hK : FinR G C F_X12_remembers none none r) : V G C F_X12_remembers 55 [some (.ref (G.2.1 + 264)), some (.int l1)] [] (pic G μ) n 0 0 := by
  unfold f_X12_remembers_l55 at hf
  obtain ⟨t, hl, hf⟩ := ob hf
  refine loopV (P := fun z => ∀ n, V G C F_X12_remembers 55 [some (.ref (G.2.1 + 264)), some (.int z.1)] [] (pic G z.2) n 0 0) (t := t) ?_ _ _ hl n
  intro z y' hy hI hT n
  refine s_X12_remembers_b55 hG hy ⟨hI, fun x9 ex => ?_⟩
  have ex2 := hT x9 ex
  subst ex2
  intro n
  exact s_X12_remembers_j91 hG hf hK
theorem s_X12_remembers_j53 {G : Gl} (hG : G.1.stackTraces = false) {C : Cx} {n : Nat} {μ : Mem}  {r : Mem} (hf : f_X12_remembers_j53 μ = some r) (hK : FinR G C F_X12_remembers none none r) : V G C F_X12_remembers 53 [some (.ref (G.2.1 + 264)), none] [] (pic G μ) n 0 0 := by
  unfold f_X12_remembers_j53 at hf
  refine V_iconst (v := 0) d_X12_remembers_53 ic_0 ?_
  refine V_istore_n (ls' := [_, _]) d_X12_remembers_54 rfl rfl rfl ?_
  refine V_less (ls' := [some _, some _]) ⟨rfl, rfl, trivial⟩ ?_
  exact s_X12_remembers_l55 hG hf hK
theorem s_X12_remembers_b11 {G : Gl} (hG : G.1.stackTraces = false) {C : Cx} {n : Nat} {μ : Mem} {l1 : Int32} {y : ((Int32 × Mem) ⊕ Mem)} (hf : f_X12_remembers_b11 μ l1 = some y) (hK : (∀ z', y = .inl z' → ∀ n, V G C F_X12_remembers 11 [some (.ref (G.2.1 + 264)), some (.int z'.1)] [] (pic G z'.2) n 0 0) ∧ (∀ x', y = .inr x' → ∀ n, V G C F_X12_remembers 40 [some (.ref (G.2.1 + 264)), none] [] (pic G x') n 0 0)) : V G C F_X12_remembers 11 [some (.ref (G.2.1 + 264)), some (.int l1)] [] (pic G μ) n 0 0 := by
  unfold f_X12_remembers_b11 at hf
  refine V_iload_n d_X12_remembers_11 rfl rfl ?_
  refine V_sipush (v := 4070) d_X12_remembers_12 sp_4070 ?_
  refine V_icmp_ge (tgt := 40) d_X12_remembers_15 (by decide) (fun c15 => ?_) (fun c15 => ?_)
  · replace hf := iteT c15 hf
    refine V_less (ls' := [some _, none]) ⟨rfl, trivial⟩ ?_
    cases hf
    exact hK.2 _ rfl _
  · replace hf := iteF c15 hf
    refine V_aload_n d_X12_remembers_18 rfl rfl ?_
    refine B_get k_264 fl_RX12_26 d_X12_remembers_19 g_12_5 ?_
    refine V_iload_n d_X12_remembers_22 rfl rfl ?_
    refine V_aload_n d_X12_remembers_23 rfl rfl ?_
    refine B_get k_264 fl_RX12_26 d_X12_remembers_24 g_12_5 ?_
    refine V_iload_n d_X12_remembers_27 rfl rfl ?_
    refine V_sipush (v := 370) d_X12_remembers_28 sp_370 ?_
    refine V_iadd d_X12_remembers_31 ?_
    obtain ⟨t1, ht1, hf⟩ := ob hf
    refine B_iald k_269 ht1 d_X12_remembers_32 ?_
    obtain ⟨μ2, hμ2, hf⟩ := ob hf
    refine B_iast k_269 hμ2 d_X12_remembers_33 ?_
    refine V_iinc (v := (l1 + 1)) (ls' := [_, _]) d_X12_remembers_34 rfl (by rw [ic_1]) rfl ?_
    refine V_goto (tgt := 11) d_X12_remembers_37 (by decide) ?_
    refine V_less (ls' := [some _, some _]) ⟨rfl, rfl, trivial⟩ ?_
    cases hf
    exact hK.1 _ rfl _
theorem s_X12_remembers_j40 {G : Gl} (hG : G.1.stackTraces = false) {C : Cx} {n : Nat} {μ : Mem}  {r : Mem} (hf : f_X12_remembers_j40 μ = some r) (hK : FinR G C F_X12_remembers none none r) : V G C F_X12_remembers 40 [some (.ref (G.2.1 + 264)), none] [] (pic G μ) n 0 0 := by
  unfold f_X12_remembers_j40 at hf
  refine V_goto (tgt := 53) d_X12_remembers_40 (by decide) ?_
  refine V_less (ls' := [some _, none]) ⟨rfl, trivial⟩ ?_
  exact s_X12_remembers_j53 hG hf hK
theorem s_X12_remembers_l11 {G : Gl} (hG : G.1.stackTraces = false) {C : Cx} {n : Nat} {μ : Mem} {l1 : Int32} {r : Mem} (hf : f_X12_remembers_l11 μ l1 = some r) (hK : FinR G C F_X12_remembers none none r) : V G C F_X12_remembers 11 [some (.ref (G.2.1 + 264)), some (.int l1)] [] (pic G μ) n 0 0 := by
  unfold f_X12_remembers_l11 at hf
  obtain ⟨t, hl, hf⟩ := ob hf
  refine loopV (P := fun z => ∀ n, V G C F_X12_remembers 11 [some (.ref (G.2.1 + 264)), some (.int z.1)] [] (pic G z.2) n 0 0) (t := t) ?_ _ _ hl n
  intro z y' hy hI hT n
  refine s_X12_remembers_b11 hG hy ⟨hI, fun x9 ex => ?_⟩
  have ex2 := hT x9 ex
  subst ex2
  intro n
  exact s_X12_remembers_j40 hG hf hK
theorem s_X12_remembers_e {G : Gl} (hG : G.1.stackTraces = false) {C : Cx} {n : Nat} {μ : Mem}  {r : Mem} (hf : f_X12_remembers μ = some r) (hK : FinR G C F_X12_remembers none none r) : V G C F_X12_remembers 0 [some (.ref (G.2.1 + 264)), none] [] (pic G μ) n 0 0 := by
  unfold f_X12_remembers at hf
  refine V_aload_n d_X12_remembers_0 rfl rfl ?_
  refine B_get k_264 fl_RX12_56 d_X12_remembers_1 g_12_7 ?_
  refine V_bipush (v := 12) d_X12_remembers_4 bp_12 ?_
  refine V_icmp_ne (tgt := 43) d_X12_remembers_6 (by decide) (fun c6 => ?_) (fun c6 => ?_)
  · replace hf := iteF c6 hf
    refine V_aload_n d_X12_remembers_43 rfl rfl ?_
    refine V_dup d_X12_remembers_44 rfl ?_
    refine B_get k_264 fl_RX12_56 d_X12_remembers_45 g_12_7 ?_
    refine V_iconst (v := 1) d_X12_remembers_48 ic_1 ?_
    refine V_iadd d_X12_remembers_49 ?_
    refine B_putI k_264 fl_RX12_56 pt_12_7 (Nat.le_of_ble_eq_true rfl) p_12_7 d_X12_remembers_50 ?_
    refine V_less (ls' := [some _, none]) ⟨rfl, trivial⟩ ?_
    exact s_X12_remembers_j53 hG hf hK
  · replace hf := iteT c6 hf
    refine V_iconst (v := 0) d_X12_remembers_9 ic_0 ?_
    refine V_istore_n (ls' := [_, _]) d_X12_remembers_10 rfl rfl rfl ?_
    refine V_less (ls' := [some _, some _]) ⟨rfl, rfl, trivial⟩ ?_
    exact s_X12_remembers_l11 hG hf hK
theorem s_X12_remembers {G : Gl} (hG : G.1.stackTraces = false) {μ : Mem} {r : Mem} (hf : f_X12_remembers μ = some r) : Rt G yX12_remembers F_X12_remembers none [.ref (G.2.1 + 264)] μ none r := fun n => Sd.of hG ⟨by decide +kernel, rfl, rfl⟩ rfl (Nat.le_of_ble_eq_true rfl) rfl (fun C hK => s_X12_remembers_e hG hf hK)
theorem d_X12_undo_0 : decode F_X12_undo.2.1 0 = .ok (.aload_n 0, 1) := by decide +kernel
theorem d_X12_undo_1 : decode F_X12_undo.2.1 1 = .ok (.iconst 0, 1) := by decide +kernel
theorem d_X12_undo_2 : decode F_X12_undo.2.1 2 = .ok (.putfield 3, 3) := by decide +kernel
theorem d_X12_undo_5 : decode F_X12_undo.2.1 5 = .ok (.aload_n 0, 1) := by decide +kernel
theorem d_X12_undo_6 : decode F_X12_undo.2.1 6 = .ok (.getfield 56, 3) := by decide +kernel
theorem d_X12_undo_9 : decode F_X12_undo.2.1 9 = .ok (.ifCond .ne 5, 3) := by decide +kernel
theorem d_X12_undo_12 : decode F_X12_undo.2.1 12 = .ok (.iconst 0, 1) := by decide +kernel
theorem d_X12_undo_13 : decode F_X12_undo.2.1 13 = .ok (.ireturn, 1) := by decide +kernel
theorem d_X12_undo_14 : decode F_X12_undo.2.1 14 = .ok (.aload_n 0, 1) := by decide +kernel
theorem d_X12_undo_15 : decode F_X12_undo.2.1 15 = .ok (.dup, 1) := by decide +kernel
theorem d_X12_undo_16 : decode F_X12_undo.2.1 16 = .ok (.getfield 56, 3) := by decide +kernel
theorem d_X12_undo_19 : decode F_X12_undo.2.1 19 = .ok (.iconst 1, 1) := by decide +kernel
theorem d_X12_undo_20 : decode F_X12_undo.2.1 20 = .ok (.isub, 1) := by decide +kernel
theorem d_X12_undo_21 : decode F_X12_undo.2.1 21 = .ok (.putfield 56, 3) := by decide +kernel
theorem d_X12_undo_24 : decode F_X12_undo.2.1 24 = .ok (.iconst 0, 1) := by decide +kernel
theorem d_X12_undo_25 : decode F_X12_undo.2.1 25 = .ok (.istore_n 1, 1) := by decide +kernel
theorem d_X12_undo_26 : decode F_X12_undo.2.1 26 = .ok (.iload_n 1, 1) := by decide +kernel
theorem d_X12_undo_27 : decode F_X12_undo.2.1 27 = .ok (.sipush 370, 3) := by decide +kernel
theorem d_X12_undo_30 : decode F_X12_undo.2.1 30 = .ok (.if_icmp .ge 30, 3) := by decide +kernel
theorem d_X12_undo_33 : decode F_X12_undo.2.1 33 = .ok (.aload_n 0, 1) := by decide +kernel
theorem d_X12_undo_34 : decode F_X12_undo.2.1 34 = .ok (.getfield 13, 3) := by decide +kernel
theorem d_X12_undo_37 : decode F_X12_undo.2.1 37 = .ok (.iload_n 1, 1) := by decide +kernel
theorem d_X12_undo_38 : decode F_X12_undo.2.1 38 = .ok (.aload_n 0, 1) := by decide +kernel
theorem d_X12_undo_39 : decode F_X12_undo.2.1 39 = .ok (.getfield 26, 3) := by decide +kernel
theorem d_X12_undo_42 : decode F_X12_undo.2.1 42 = .ok (.sipush 370, 3) := by decide +kernel
theorem d_X12_undo_45 : decode F_X12_undo.2.1 45 = .ok (.aload_n 0, 1) := by decide +kernel
theorem d_X12_undo_46 : decode F_X12_undo.2.1 46 = .ok (.getfield 56, 3) := by decide +kernel
theorem d_X12_undo_49 : decode F_X12_undo.2.1 49 = .ok (.imul, 1) := by decide +kernel
theorem d_X12_undo_50 : decode F_X12_undo.2.1 50 = .ok (.iload_n 1, 1) := by decide +kernel
theorem d_X12_undo_51 : decode F_X12_undo.2.1 51 = .ok (.iadd, 1) := by decide +kernel
theorem d_X12_undo_52 : decode F_X12_undo.2.1 52 = .ok (.iaload, 1) := by decide +kernel
theorem d_X12_undo_53 : decode F_X12_undo.2.1 53 = .ok (.iastore, 1) := by decide +kernel
theorem d_X12_undo_54 : decode F_X12_undo.2.1 54 = .ok (.iinc 1 1, 3) := by decide +kernel
theorem d_X12_undo_57 : decode F_X12_undo.2.1 57 = .ok (.goto (-31), 3) := by decide +kernel
theorem d_X12_undo_60 : decode F_X12_undo.2.1 60 = .ok (.iconst 1, 1) := by decide +kernel
theorem d_X12_undo_61 : decode F_X12_undo.2.1 61 = .ok (.ireturn, 1) := by decide +kernel
def f_X12_undo_b26 (μ : Mem) (l1 : Int32) : Option ((Int32 × Mem) ⊕ Mem) :=
if 370 ≤ l1 then
some (.inr μ)
else
Option.bind (rd μ 269 4440 ((370 * (μ 264 7)) + l1)) fun t1 =>
Option.bind (wr μ 265 2068 l1 t1) fun μ2 =>
some (.inl ((l1 + 1), μ2))
def f_X12_undo_j60 (μ : Mem) : Option (Bool × Mem) :=
some (true, μ)
def f_X12_undo_l26 (μ : Mem) (l1 : Int32) : Option (Bool × Mem) := Option.bind (loopN 10000 (fun z : (Int32 × Mem) => f_X12_undo_b26 z.2 z.1) (l1, μ)) fun t : Mem => f_X12_undo_j60 t
def f_X12_undo (μ : Mem) : Option (Bool × Mem) :=
if ((mset μ 264 0 0) 264 7) = 0 then
some (false, (mset μ 264 0 0))
else
f_X12_undo_l26 (mset (mset μ 264 0 0) 264 7 (((mset μ 264 0 0) 264 7) - 1)) 0
theorem s_X12_undo_b26 {G : Gl} (hG : G.1.stackTraces = false) {C : Cx} {n : Nat} {μ : Mem} {l1 : Int32} {y : ((Int32 × Mem) ⊕ Mem)} (hf : f_X12_undo_b26 μ l1 = some y) (hK : (∀ z', y = .inl z' → ∀ n, V G C F_X12_undo 26 [some (.ref (G.2.1 + 264)), some (.int z'.1)] [] (pic G z'.2) n 0 0) ∧ (∀ x', y = .inr x' → ∀ n, V G C F_X12_undo 60 [none, none] [] (pic G x') n 0 0)) : V G C F_X12_undo 26 [some (.ref (G.2.1 + 264)), some (.int l1)] [] (pic G μ) n 0 0 := by
  unfold f_X12_undo_b26 at hf
  refine V_iload_n d_X12_undo_26 rfl rfl ?_
  refine V_sipush (v := 370) d_X12_undo_27 sp_370 ?_
  refine V_icmp_ge (tgt := 60) d_X12_undo_30 (by decide) (fun c30 => ?_) (fun c30 => ?_)
  · replace hf := iteT c30 hf
    refine V_less (ls' := [none, none]) trivial ?_
    cases hf
    exact hK.2 _ rfl _
  · replace hf := iteF c30 hf
    refine V_aload_n d_X12_undo_33 rfl rfl ?_
    refine B_get k_264 fl_RX12_13 d_X12_undo_34 g_12_1 ?_
    refine V_iload_n d_X12_undo_37 rfl rfl ?_
    refine V_aload_n d_X12_undo_38 rfl rfl ?_
    refine B_get k_264 fl_RX12_26 d_X12_undo_39 g_12_5 ?_
    refine V_sipush (v := 370) d_X12_undo_42 sp_370 ?_
    refine V_aload_n d_X12_undo_45 rfl rfl ?_
    refine B_get k_264 fl_RX12_56 d_X12_undo_46 g_12_7 ?_
    refine V_imul d_X12_undo_49 ?_
    refine V_iload_n d_X12_undo_50 rfl rfl ?_
    refine V_iadd d_X12_undo_51 ?_
    obtain ⟨t1, ht1, hf⟩ := ob hf
    refine B_iald k_269 ht1 d_X12_undo_52 ?_
    obtain ⟨μ2, hμ2, hf⟩ := ob hf
    refine B_iast k_265 hμ2 d_X12_undo_53 ?_
    refine V_iinc (v := (l1 + 1)) (ls' := [_, _]) d_X12_undo_54 rfl (by rw [ic_1]) rfl ?_
    refine V_goto (tgt := 26) d_X12_undo_57 (by decide) ?_
    refine V_less (ls' := [some _, some _]) ⟨rfl, rfl, trivial⟩ ?_
    cases hf
    exact hK.1 _ rfl _
theorem s_X12_undo_j60 {G : Gl} (hG : G.1.stackTraces = false) {C : Cx} {n : Nat} {μ : Mem}  {r : (Bool × Mem)} (hf : f_X12_undo_j60 μ = some r) (hK : FinR G C F_X12_undo (some .boolean) (some (.int (b2i r.1))) r.2) : V G C F_X12_undo 60 [none, none] [] (pic G μ) n 0 0 := by
  unfold f_X12_undo_j60 at hf
  refine V_iconst (v := 1) d_X12_undo_60 ic_1 ?_
  cases hf
  exact R_z hK d_X12_undo_61 (Nat.le_of_ble_eq_true rfl) (Nat.le_of_ble_eq_true rfl)
theorem s_X12_undo_l26 {G : Gl} (hG : G.1.stackTraces = false) {C : Cx} {n : Nat} {μ : Mem} {l1 : Int32} {r : (Bool × Mem)} (hf : f_X12_undo_l26 μ l1 = some r) (hK : FinR G C F_X12_undo (some .boolean) (some (.int (b2i r.1))) r.2) : V G C F_X12_undo 26 [some (.ref (G.2.1 + 264)), some (.int l1)] [] (pic G μ) n 0 0 := by
  unfold f_X12_undo_l26 at hf
  obtain ⟨t, hl, hf⟩ := ob hf
  refine loopV (P := fun z => ∀ n, V G C F_X12_undo 26 [some (.ref (G.2.1 + 264)), some (.int z.1)] [] (pic G z.2) n 0 0) (t := t) ?_ _ _ hl n
  intro z y' hy hI hT n
  refine s_X12_undo_b26 hG hy ⟨hI, fun x9 ex => ?_⟩
  have ex2 := hT x9 ex
  subst ex2
  intro n
  exact s_X12_undo_j60 hG hf hK
theorem s_X12_undo_e {G : Gl} (hG : G.1.stackTraces = false) {C : Cx} {n : Nat} {μ : Mem}  {r : (Bool × Mem)} (hf : f_X12_undo μ = some r) (hK : FinR G C F_X12_undo (some .boolean) (some (.int (b2i r.1))) r.2) : V G C F_X12_undo 0 [some (.ref (G.2.1 + 264)), none] [] (pic G μ) n 0 0 := by
  unfold f_X12_undo at hf
  refine V_aload_n d_X12_undo_0 rfl rfl ?_
  refine V_iconst (v := 0) d_X12_undo_1 ic_0 ?_
  refine B_putI k_264 fl_RX12_3 pt_12_0 (Nat.le_of_ble_eq_true rfl) p_12_0 d_X12_undo_2 ?_
  refine V_aload_n d_X12_undo_5 rfl rfl ?_
  refine B_get k_264 fl_RX12_56 d_X12_undo_6 g_12_7 ?_
  refine V_if_ne (tgt := 14) d_X12_undo_9 (by decide) (fun c9 => ?_) (fun c9 => ?_)
  · replace hf := iteF c9 hf
    refine V_aload_n d_X12_undo_14 rfl rfl ?_
    refine V_dup d_X12_undo_15 rfl ?_
    refine B_get k_264 fl_RX12_56 d_X12_undo_16 g_12_7 ?_
    refine V_iconst (v := 1) d_X12_undo_19 ic_1 ?_
    refine V_isub d_X12_undo_20 ?_
    refine B_putI k_264 fl_RX12_56 pt_12_7 (Nat.le_of_ble_eq_true rfl) p_12_7 d_X12_undo_21 ?_
    refine V_iconst (v := 0) d_X12_undo_24 ic_0 ?_
    refine V_istore_n (ls' := [_, _]) d_X12_undo_25 rfl rfl rfl ?_
    refine V_less (ls' := [some _, some _]) ⟨rfl, rfl, trivial⟩ ?_
    exact s_X12_undo_l26 hG hf hK
  · replace hf := iteT c9 hf
    refine V_iconst (v := 0) d_X12_undo_12 ic_0 ?_
    cases hf
    exact R_z hK d_X12_undo_13 (Nat.le_of_ble_eq_true rfl) (Nat.le_of_ble_eq_true rfl)
theorem s_X12_undo {G : Gl} (hG : G.1.stackTraces = false) {μ : Mem} {r : (Bool × Mem)} (hf : f_X12_undo μ = some r) : Rt G yX12_undo F_X12_undo (some .boolean) [.ref (G.2.1 + 264)] μ (some (.int (b2i r.1))) r.2 := fun n => Sd.of hG ⟨by decide +kernel, rfl, rfl⟩ rfl (Nat.le_of_ble_eq_true rfl) rfl (fun C hK => s_X12_undo_e hG hf hK)
theorem d_X12_people_0 : decode F_X12_people.2.1 0 = .ok (.aload_n 0, 1) := by decide +kernel
theorem d_X12_people_1 : decode F_X12_people.2.1 1 = .ok (.getfield 13, 3) := by decide +kernel
theorem d_X12_people_4 : decode F_X12_people.2.1 4 = .ok (.iconst 0, 1) := by decide +kernel
theorem d_X12_people_5 : decode F_X12_people.2.1 5 = .ok (.iaload, 1) := by decide +kernel
theorem d_X12_people_6 : decode F_X12_people.2.1 6 = .ok (.ireturn, 1) := by decide +kernel
def f_X12_people (μ : Mem) : Option Int32 :=
Option.bind (rd μ 265 2068 0) fun t1 =>
some t1
theorem s_X12_people_e {G : Gl} (hG : G.1.stackTraces = false) {C : Cx} {n : Nat} {μ : Mem}  {r : Int32} (hf : f_X12_people μ = some r) (hK : FinR G C F_X12_people (some .int) (some (.int r)) μ) : V G C F_X12_people 0 [some (.ref (G.2.1 + 264))] [] (pic G μ) n 0 0 := by
  unfold f_X12_people at hf
  refine V_aload_n d_X12_people_0 rfl rfl ?_
  refine B_get k_264 fl_RX12_13 d_X12_people_1 g_12_1 ?_
  refine V_iconst (v := 0) d_X12_people_4 ic_0 ?_
  obtain ⟨t1, ht1, hf⟩ := ob hf
  refine B_iald k_265 ht1 d_X12_people_5 ?_
  cases hf
  exact R_i hK d_X12_people_6 (Nat.le_of_ble_eq_true rfl) (Nat.le_of_ble_eq_true rfl)
theorem s_X12_people {G : Gl} (hG : G.1.stackTraces = false) {μ : Mem} {r : Int32} (hf : f_X12_people μ = some r) : Rt G yX12_people F_X12_people (some .int) [.ref (G.2.1 + 264)] μ (some (.int r)) μ := fun n => Sd.of hG ⟨by decide +kernel, rfl, rfl⟩ rfl (Nat.le_of_ble_eq_true rfl) rfl (fun C hK => s_X12_people_e hG hf hK)
theorem d_X12_laces_0 : decode F_X12_laces.2.1 0 = .ok (.iconst 2, 1) := by decide +kernel
theorem d_X12_laces_1 : decode F_X12_laces.2.1 1 = .ok (.aload_n 0, 1) := by decide +kernel
theorem d_X12_laces_2 : decode F_X12_laces.2.1 2 = .ok (.invokevirtual 59, 3) := by decide +kernel
theorem d_X12_laces_5 : decode F_X12_laces.2.1 5 = .ok (.imul, 1) := by decide +kernel
theorem d_X12_laces_6 : decode F_X12_laces.2.1 6 = .ok (.ireturn, 1) := by decide +kernel
def f_X12_laces (μ : Mem) : Option Int32 :=
Option.bind (f_X12_people μ) fun t1 =>
some (2 * t1)
theorem s_X12_laces_e {G : Gl} (hG : G.1.stackTraces = false) {C : Cx} {n : Nat} {μ : Mem}  {r : Int32} (hf : f_X12_laces μ = some r) (hK : FinR G C F_X12_laces (some .int) (some (.int r)) μ) : V G C F_X12_laces 0 [some (.ref (G.2.1 + 264))] [] (pic G μ) n 0 0 := by
  unfold f_X12_laces at hf
  refine V_iconst (v := 2) d_X12_laces_0 ic_2 ?_
  refine V_aload_n d_X12_laces_1 rfl rfl ?_
  obtain ⟨t1, ht1, hf⟩ := ob hf
  refine B_callV1 (s_X12_people hG ht1) k_264 clX12 m_X12_people kv_RX12_59 d_X12_laces_2 rfl (Nat.le_of_ble_eq_true rfl) ⟨rfl, rfl, Nat.le_of_ble_eq_true rfl, Nat.le_of_ble_eq_true rfl, Nat.le_of_ble_eq_true rfl⟩ (fun n => ?_)
  refine V_imul d_X12_laces_5 ?_
  cases hf
  exact R_i hK d_X12_laces_6 (Nat.le_of_ble_eq_true rfl) (Nat.le_of_ble_eq_true rfl)
theorem s_X12_laces {G : Gl} (hG : G.1.stackTraces = false) {μ : Mem} {r : Int32} (hf : f_X12_laces μ = some r) : Rt G yX12_laces F_X12_laces (some .int) [.ref (G.2.1 + 264)] μ (some (.int r)) μ := fun n => Sd.of hG ⟨by decide +kernel, rfl, rfl⟩ rfl (Nat.le_of_ble_eq_true rfl) rfl (fun C hK => s_X12_laces_e hG hf hK)
theorem d_X12_everybody_0 : decode F_X12_everybody.2.1 0 = .ok (.iconst 1, 1) := by decide +kernel
theorem d_X12_everybody_1 : decode F_X12_everybody.2.1 1 = .ok (.aload_n 0, 1) := by decide +kernel
theorem d_X12_everybody_2 : decode F_X12_everybody.2.1 2 = .ok (.invokevirtual 59, 3) := by decide +kernel
theorem d_X12_everybody_5 : decode F_X12_everybody.2.1 5 = .ok (.ishl, 1) := by decide +kernel
theorem d_X12_everybody_6 : decode F_X12_everybody.2.1 6 = .ok (.iconst 1, 1) := by decide +kernel
theorem d_X12_everybody_7 : decode F_X12_everybody.2.1 7 = .ok (.isub, 1) := by decide +kernel
theorem d_X12_everybody_8 : decode F_X12_everybody.2.1 8 = .ok (.ireturn, 1) := by decide +kernel
def f_X12_everybody (μ : Mem) : Option Int32 :=
Option.bind (f_X12_people μ) fun t1 =>
some ((1 <<< (t1 &&& 31)) - 1)
theorem s_X12_everybody_e {G : Gl} (hG : G.1.stackTraces = false) {C : Cx} {n : Nat} {μ : Mem}  {r : Int32} (hf : f_X12_everybody μ = some r) (hK : FinR G C F_X12_everybody (some .int) (some (.int r)) μ) : V G C F_X12_everybody 0 [some (.ref (G.2.1 + 264))] [] (pic G μ) n 0 0 := by
  unfold f_X12_everybody at hf
  refine V_iconst (v := 1) d_X12_everybody_0 ic_1 ?_
  refine V_aload_n d_X12_everybody_1 rfl rfl ?_
  obtain ⟨t1, ht1, hf⟩ := ob hf
  refine B_callV1 (s_X12_people hG ht1) k_264 clX12 m_X12_people kv_RX12_59 d_X12_everybody_2 rfl (Nat.le_of_ble_eq_true rfl) ⟨rfl, rfl, Nat.le_of_ble_eq_true rfl, Nat.le_of_ble_eq_true rfl, Nat.le_of_ble_eq_true rfl⟩ (fun n => ?_)
  refine V_ishl d_X12_everybody_5 ?_
  refine V_iconst (v := 1) d_X12_everybody_6 ic_1 ?_
  refine V_isub d_X12_everybody_7 ?_
  cases hf
  exact R_i hK d_X12_everybody_8 (Nat.le_of_ble_eq_true rfl) (Nat.le_of_ble_eq_true rfl)
theorem s_X12_everybody {G : Gl} (hG : G.1.stackTraces = false) {μ : Mem} {r : Int32} (hf : f_X12_everybody μ = some r) : Rt G yX12_everybody F_X12_everybody (some .int) [.ref (G.2.1 + 264)] μ (some (.int r)) μ := fun n => Sd.of hG ⟨by decide +kernel, rfl, rfl⟩ rfl (Nat.le_of_ble_eq_true rfl) rfl (fun C hK => s_X12_everybody_e hG hf hK)
theorem d_X12_at_0 : decode F_X12_at.2.1 0 = .ok (.bipush 28, 2) := by decide +kernel
theorem d_X12_at_2 : decode F_X12_at.2.1 2 = .ok (.iconst 5, 1) := by decide +kernel
theorem d_X12_at_3 : decode F_X12_at.2.1 3 = .ok (.iload_n 0, 1) := by decide +kernel
theorem d_X12_at_4 : decode F_X12_at.2.1 4 = .ok (.imul, 1) := by decide +kernel
theorem d_X12_at_5 : decode F_X12_at.2.1 5 = .ok (.iadd, 1) := by decide +kernel
theorem d_X12_at_6 : decode F_X12_at.2.1 6 = .ok (.iload_n 1, 1) := by decide +kernel
theorem d_X12_at_7 : decode F_X12_at.2.1 7 = .ok (.iadd, 1) := by decide +kernel
theorem d_X12_at_8 : decode F_X12_at.2.1 8 = .ok (.ireturn, 1) := by decide +kernel
def f_X12_at (μ : Mem) (p0 : Int32) (p1 : Int32) : Option Int32 :=
some ((28 + (5 * p0)) + p1)
theorem s_X12_at_e {G : Gl} (hG : G.1.stackTraces = false) {C : Cx} {n : Nat} {μ : Mem} {p0 : Int32} {p1 : Int32} {r : Int32} (hf : f_X12_at μ p0 p1 = some r) (hK : FinR G C F_X12_at (some .int) (some (.int r)) μ) : V G C F_X12_at 0 [some (.int p0), some (.int p1)] [] (pic G μ) n 0 0 := by
  unfold f_X12_at at hf
  refine V_bipush (v := 28) d_X12_at_0 bp_28 ?_
  refine V_iconst (v := 5) d_X12_at_2 ic_5 ?_
  refine V_iload_n d_X12_at_3 rfl rfl ?_
  refine V_imul d_X12_at_4 ?_
  refine V_iadd d_X12_at_5 ?_
  refine V_iload_n d_X12_at_6 rfl rfl ?_
  refine V_iadd d_X12_at_7 ?_
  cases hf
  exact R_i hK d_X12_at_8 (Nat.le_of_ble_eq_true rfl) (Nat.le_of_ble_eq_true rfl)
theorem s_X12_at {G : Gl} (hG : G.1.stackTraces = false) {μ : Mem} {p0 : Int32} {p1 : Int32} {r : Int32} (hf : f_X12_at μ p0 p1 = some r) : Rt G yX12_at F_X12_at (some .int) [.int p0, .int p1] μ (some (.int r)) μ := fun n => Sd.of hG ⟨by decide +kernel, rfl, rfl⟩ rfl (Nat.le_of_ble_eq_true rfl) rfl (fun C hK => s_X12_at_e hG hf hK)
theorem d_X12_of_0 : decode F_X12_of.2.1 0 = .ok (.aload_n 0, 1) := by decide +kernel
theorem d_X12_of_1 : decode F_X12_of.2.1 1 = .ok (.getfield 13, 3) := by decide +kernel
theorem d_X12_of_4 : decode F_X12_of.2.1 4 = .ok (.iload_n 1, 1) := by decide +kernel
theorem d_X12_of_5 : decode F_X12_of.2.1 5 = .ok (.iload_n 2, 1) := by decide +kernel
theorem d_X12_of_6 : decode F_X12_of.2.1 6 = .ok (.invokestatic 63, 3) := by decide +kernel
theorem d_X12_of_9 : decode F_X12_of.2.1 9 = .ok (.iaload, 1) := by decide +kernel
theorem d_X12_of_10 : decode F_X12_of.2.1 10 = .ok (.ireturn, 1) := by decide +kernel
def f_X12_of (μ : Mem) (p1 : Int32) (p2 : Int32) : Option Int32 :=
Option.bind (f_X12_at μ p1 p2) fun t1 =>
Option.bind (rd μ 265 2068 t1) fun t2 =>
some t2
theorem s_X12_of_e {G : Gl} (hG : G.1.stackTraces = false) {C : Cx} {n : Nat} {μ : Mem} {p1 : Int32} {p2 : Int32} {r : Int32} (hf : f_X12_of μ p1 p2 = some r) (hK : FinR G C F_X12_of (some .int) (some (.int r)) μ) : V G C F_X12_of 0 [some (.ref (G.2.1 + 264)), some (.int p1), some (.int p2)] [] (pic G μ) n 0 0 := by
  unfold f_X12_of at hf
  refine V_aload_n d_X12_of_0 rfl rfl ?_
  refine B_get k_264 fl_RX12_13 d_X12_of_1 g_12_1 ?_
  refine V_iload_n d_X12_of_4 rfl rfl ?_
  refine V_iload_n d_X12_of_5 rfl rfl ?_
  obtain ⟨t1, ht1, hf⟩ := ob hf
  refine B_callS1 (s_X12_at hG ht1) m_X12_at ks_RX12_63 d_X12_of_6 rfl (Nat.le_of_ble_eq_true rfl) ⟨rfl, rfl, Nat.le_of_ble_eq_true rfl, Nat.le_of_ble_eq_true rfl, Nat.le_of_ble_eq_true rfl⟩ (fun n => ?_)
  obtain ⟨t2, ht2, hf⟩ := ob hf
  refine B_iald k_265 ht2 d_X12_of_9 ?_
  cases hf
  exact R_i hK d_X12_of_10 (Nat.le_of_ble_eq_true rfl) (Nat.le_of_ble_eq_true rfl)
theorem s_X12_of {G : Gl} (hG : G.1.stackTraces = false) {μ : Mem} {p1 : Int32} {p2 : Int32} {r : Int32} (hf : f_X12_of μ p1 p2 = some r) : Rt G yX12_of F_X12_of (some .int) [.ref (G.2.1 + 264), .int p1, .int p2] μ (some (.int r)) μ := fun n => Sd.of hG ⟨by decide +kernel, rfl, rfl⟩ rfl (Nat.le_of_ble_eq_true rfl) rfl (fun C hK => s_X12_of_e hG hf hK)
theorem d_X12_laceAt_0 : decode F_X12_laceAt.2.1 0 = .ok (.bipush 58, 2) := by decide +kernel
theorem d_X12_laceAt_2 : decode F_X12_laceAt.2.1 2 = .ok (.bipush 6, 2) := by decide +kernel
theorem d_X12_laceAt_4 : decode F_X12_laceAt.2.1 4 = .ok (.iload_n 0, 1) := by decide +kernel
theorem d_X12_laceAt_5 : decode F_X12_laceAt.2.1 5 = .ok (.imul, 1) := by decide +kernel
theorem d_X12_laceAt_6 : decode F_X12_laceAt.2.1 6 = .ok (.iadd, 1) := by decide +kernel
theorem d_X12_laceAt_7 : decode F_X12_laceAt.2.1 7 = .ok (.iload_n 1, 1) := by decide +kernel
theorem d_X12_laceAt_8 : decode F_X12_laceAt.2.1 8 = .ok (.iadd, 1) := by decide +kernel
theorem d_X12_laceAt_9 : decode F_X12_laceAt.2.1 9 = .ok (.ireturn, 1) := by decide +kernel
def f_X12_laceAt (μ : Mem) (p0 : Int32) (p1 : Int32) : Option Int32 :=
some ((58 + (6 * p0)) + p1)
theorem s_X12_laceAt_e {G : Gl} (hG : G.1.stackTraces = false) {C : Cx} {n : Nat} {μ : Mem} {p0 : Int32} {p1 : Int32} {r : Int32} (hf : f_X12_laceAt μ p0 p1 = some r) (hK : FinR G C F_X12_laceAt (some .int) (some (.int r)) μ) : V G C F_X12_laceAt 0 [some (.int p0), some (.int p1)] [] (pic G μ) n 0 0 := by
  unfold f_X12_laceAt at hf
  refine V_bipush (v := 58) d_X12_laceAt_0 bp_58 ?_
  refine V_bipush (v := 6) d_X12_laceAt_2 bp_6 ?_
  refine V_iload_n d_X12_laceAt_4 rfl rfl ?_
  refine V_imul d_X12_laceAt_5 ?_
  refine V_iadd d_X12_laceAt_6 ?_
  refine V_iload_n d_X12_laceAt_7 rfl rfl ?_
  refine V_iadd d_X12_laceAt_8 ?_
  cases hf
  exact R_i hK d_X12_laceAt_9 (Nat.le_of_ble_eq_true rfl) (Nat.le_of_ble_eq_true rfl)
theorem s_X12_laceAt {G : Gl} (hG : G.1.stackTraces = false) {μ : Mem} {p0 : Int32} {p1 : Int32} {r : Int32} (hf : f_X12_laceAt μ p0 p1 = some r) : Rt G yX12_laceAt F_X12_laceAt (some .int) [.int p0, .int p1] μ (some (.int r)) μ := fun n => Sd.of hG ⟨by decide +kernel, rfl, rfl⟩ rfl (Nat.le_of_ble_eq_true rfl) rfl (fun C hK => s_X12_laceAt_e hG hf hK)
theorem d_X12_ofLace_0 : decode F_X12_ofLace.2.1 0 = .ok (.aload_n 0, 1) := by decide +kernel
theorem d_X12_ofLace_1 : decode F_X12_ofLace.2.1 1 = .ok (.getfield 13, 3) := by decide +kernel
theorem d_X12_ofLace_4 : decode F_X12_ofLace.2.1 4 = .ok (.iload_n 1, 1) := by decide +kernel
theorem d_X12_ofLace_5 : decode F_X12_ofLace.2.1 5 = .ok (.iload_n 2, 1) := by decide +kernel
theorem d_X12_ofLace_6 : decode F_X12_ofLace.2.1 6 = .ok (.invokestatic 67, 3) := by decide +kernel
theorem d_X12_ofLace_9 : decode F_X12_ofLace.2.1 9 = .ok (.iaload, 1) := by decide +kernel
theorem d_X12_ofLace_10 : decode F_X12_ofLace.2.1 10 = .ok (.ireturn, 1) := by decide +kernel
def f_X12_ofLace (μ : Mem) (p1 : Int32) (p2 : Int32) : Option Int32 :=
Option.bind (f_X12_laceAt μ p1 p2) fun t1 =>
Option.bind (rd μ 265 2068 t1) fun t2 =>
some t2
theorem s_X12_ofLace_e {G : Gl} (hG : G.1.stackTraces = false) {C : Cx} {n : Nat} {μ : Mem} {p1 : Int32} {p2 : Int32} {r : Int32} (hf : f_X12_ofLace μ p1 p2 = some r) (hK : FinR G C F_X12_ofLace (some .int) (some (.int r)) μ) : V G C F_X12_ofLace 0 [some (.ref (G.2.1 + 264)), some (.int p1), some (.int p2)] [] (pic G μ) n 0 0 := by
  unfold f_X12_ofLace at hf
  refine V_aload_n d_X12_ofLace_0 rfl rfl ?_
  refine B_get k_264 fl_RX12_13 d_X12_ofLace_1 g_12_1 ?_
  refine V_iload_n d_X12_ofLace_4 rfl rfl ?_
  refine V_iload_n d_X12_ofLace_5 rfl rfl ?_
  obtain ⟨t1, ht1, hf⟩ := ob hf
  refine B_callS1 (s_X12_laceAt hG ht1) m_X12_laceAt ks_RX12_67 d_X12_ofLace_6 rfl (Nat.le_of_ble_eq_true rfl) ⟨rfl, rfl, Nat.le_of_ble_eq_true rfl, Nat.le_of_ble_eq_true rfl, Nat.le_of_ble_eq_true rfl⟩ (fun n => ?_)
  obtain ⟨t2, ht2, hf⟩ := ob hf
  refine B_iald k_265 ht2 d_X12_ofLace_9 ?_
  cases hf
  exact R_i hK d_X12_ofLace_10 (Nat.le_of_ble_eq_true rfl) (Nat.le_of_ble_eq_true rfl)
theorem s_X12_ofLace {G : Gl} (hG : G.1.stackTraces = false) {μ : Mem} {p1 : Int32} {p2 : Int32} {r : Int32} (hf : f_X12_ofLace μ p1 p2 = some r) : Rt G yX12_ofLace F_X12_ofLace (some .int) [.ref (G.2.1 + 264), .int p1, .int p2] μ (some (.int r)) μ := fun n => Sd.of hG ⟨by decide +kernel, rfl, rfl⟩ rfl (Nat.le_of_ble_eq_true rfl) rfl (fun C hK => s_X12_ofLace_e hG hf hK)
theorem d_X12_ownerOf_0 : decode F_X12_ownerOf.2.1 0 = .ok (.iload_n 0, 1) := by decide +kernel
theorem d_X12_ownerOf_1 : decode F_X12_ownerOf.2.1 1 = .ok (.iconst 2, 1) := by decide +kernel
theorem d_X12_ownerOf_2 : decode F_X12_ownerOf.2.1 2 = .ok (.idiv, 1) := by decide +kernel
theorem d_X12_ownerOf_3 : decode F_X12_ownerOf.2.1 3 = .ok (.ireturn, 1) := by decide +kernel
def f_X12_ownerOf (μ : Mem) (p0 : Int32) : Option Int32 :=
Option.bind (dv p0 2) fun t1 =>
some t1
theorem s_X12_ownerOf_e {G : Gl} (hG : G.1.stackTraces = false) {C : Cx} {n : Nat} {μ : Mem} {p0 : Int32} {r : Int32} (hf : f_X12_ownerOf μ p0 = some r) (hK : FinR G C F_X12_ownerOf (some .int) (some (.int r)) μ) : V G C F_X12_ownerOf 0 [some (.int p0)] [] (pic G μ) n 0 0 := by
  unfold f_X12_ownerOf at hf
  refine V_iload_n d_X12_ownerOf_0 rfl rfl ?_
  refine V_iconst (v := 2) d_X12_ownerOf_1 ic_2 ?_
  obtain ⟨t1, ht1, hf⟩ := ob hf
  obtain ⟨gt1, ht1⟩ := dv_some ht1
  refine V_idiv d_X12_ownerOf_2 gt1 ?_
  rw [ht1]
  cases hf
  exact R_i hK d_X12_ownerOf_3 (Nat.le_of_ble_eq_true rfl) (Nat.le_of_ble_eq_true rfl)
theorem s_X12_ownerOf {G : Gl} (hG : G.1.stackTraces = false) {μ : Mem} {p0 : Int32} {r : Int32} (hf : f_X12_ownerOf μ p0 = some r) : Rt G yX12_ownerOf F_X12_ownerOf (some .int) [.int p0] μ (some (.int r)) μ := fun n => Sd.of hG ⟨by decide +kernel, rfl, rfl⟩ rfl (Nat.le_of_ble_eq_true rfl) rfl (fun C hK => s_X12_ownerOf_e hG hf hK)
theorem d_X12_isPledged_0 : decode F_X12_isPledged.2.1 0 = .ok (.aload_n 0, 1) := by decide +kernel
theorem d_X12_isPledged_1 : decode F_X12_isPledged.2.1 1 = .ok (.iload_n 1, 1) := by decide +kernel
theorem d_X12_isPledged_2 : decode F_X12_isPledged.2.1 2 = .ok (.iconst 0, 1) := by decide +kernel
theorem d_X12_isPledged_3 : decode F_X12_isPledged.2.1 3 = .ok (.invokevirtual 70, 3) := by decide +kernel
theorem d_X12_isPledged_6 : decode F_X12_isPledged.2.1 6 = .ok (.iconst 1, 1) := by decide +kernel
theorem d_X12_isPledged_7 : decode F_X12_isPledged.2.1 7 = .ok (.if_icmp .ne 7, 3) := by decide +kernel
theorem d_X12_isPledged_10 : decode F_X12_isPledged.2.1 10 = .ok (.iconst 1, 1) := by decide +kernel
theorem d_X12_isPledged_11 : decode F_X12_isPledged.2.1 11 = .ok (.goto 4, 3) := by decide +kernel
theorem d_X12_isPledged_14 : decode F_X12_isPledged.2.1 14 = .ok (.iconst 0, 1) := by decide +kernel
theorem d_X12_isPledged_15 : decode F_X12_isPledged.2.1 15 = .ok (.ireturn, 1) := by decide +kernel
def f_X12_isPledged (μ : Mem) (p1 : Int32) : Option Bool :=
Option.bind (f_X12_ofLace μ p1 0) fun t1 =>
some (if t1 = 1 then true else false)
theorem s_X12_isPledged_e {G : Gl} (hG : G.1.stackTraces = false) {C : Cx} {n : Nat} {μ : Mem} {p1 : Int32} {r : Bool} (hf : f_X12_isPledged μ p1 = some r) (hK : FinR G C F_X12_isPledged (some .boolean) (some (.int (b2i r))) μ) : V G C F_X12_isPledged 0 [some (.ref (G.2.1 + 264)), some (.int p1)] [] (pic G μ) n 0 0 := by
  unfold f_X12_isPledged at hf
  refine V_aload_n d_X12_isPledged_0 rfl rfl ?_
  refine V_iload_n d_X12_isPledged_1 rfl rfl ?_
  refine V_iconst (v := 0) d_X12_isPledged_2 ic_0 ?_
  obtain ⟨t1, ht1, hf⟩ := ob hf
  refine B_callV1 (s_X12_ofLace hG ht1) k_264 clX12 m_X12_ofLace kv_RX12_70 d_X12_isPledged_3 rfl (Nat.le_of_ble_eq_true rfl) ⟨rfl, rfl, Nat.le_of_ble_eq_true rfl, Nat.le_of_ble_eq_true rfl, Nat.le_of_ble_eq_true rfl⟩ (fun n => ?_)
  refine V_iconst (v := 1) d_X12_isPledged_6 ic_1 ?_
  have hJj2 : ∀ j2 : Bool, j2 = (if t1 = 1 then true else false) → V G C F_X12_isPledged 15 [none, none] [.int (b2i j2)] (pic G μ) n 0 0 := by
    intro j2 ej2
    subst ej2
    cases hf
    exact R_z hK d_X12_isPledged_15 (Nat.le_of_ble_eq_true rfl) (Nat.le_of_ble_eq_true rfl)
  refine V_icmp_ne (tgt := 14) d_X12_isPledged_7 (by decide) (fun c7 => ?_) (fun c7 => ?_)
  · refine V_iconst (v := 0) d_X12_isPledged_14 ic_0 ?_
    refine V_less (ls' := [none, none]) trivial ?_
    exact hJj2 false (by rw [if_neg c7])
  · refine V_iconst (v := 1) d_X12_isPledged_10 ic_1 ?_
    refine V_goto (tgt := 15) d_X12_isPledged_11 (by decide) ?_
    refine V_less (ls' := [none, none]) trivial ?_
    exact hJj2 true (by rw [if_pos c7])
theorem s_X12_isPledged {G : Gl} (hG : G.1.stackTraces = false) {μ : Mem} {p1 : Int32} {r : Bool} (hf : f_X12_isPledged μ p1 = some r) : Rt G yX12_isPledged F_X12_isPledged (some .boolean) [.ref (G.2.1 + 264), .int p1] μ (some (.int (b2i r))) μ := fun n => Sd.of hG ⟨by decide +kernel, rfl, rfl⟩ rfl (Nat.le_of_ble_eq_true rfl) rfl (fun C hK => s_X12_isPledged_e hG hf hK)
theorem d_X12_isLost_0 : decode F_X12_isLost.2.1 0 = .ok (.aload_n 0, 1) := by decide +kernel
theorem d_X12_isLost_1 : decode F_X12_isLost.2.1 1 = .ok (.iload_n 1, 1) := by decide +kernel
theorem d_X12_isLost_2 : decode F_X12_isLost.2.1 2 = .ok (.iconst 0, 1) := by decide +kernel
theorem d_X12_isLost_3 : decode F_X12_isLost.2.1 3 = .ok (.invokevirtual 70, 3) := by decide +kernel
theorem d_X12_isLost_6 : decode F_X12_isLost.2.1 6 = .ok (.iconst 2, 1) := by decide +kernel
theorem d_X12_isLost_7 : decode F_X12_isLost.2.1 7 = .ok (.if_icmp .ne 7, 3) := by decide +kernel
theorem d_X12_isLost_10 : decode F_X12_isLost.2.1 10 = .ok (.iconst 1, 1) := by decide +kernel
theorem d_X12_isLost_11 : decode F_X12_isLost.2.1 11 = .ok (.goto 4, 3) := by decide +kernel
theorem d_X12_isLost_14 : decode F_X12_isLost.2.1 14 = .ok (.iconst 0, 1) := by decide +kernel
theorem d_X12_isLost_15 : decode F_X12_isLost.2.1 15 = .ok (.ireturn, 1) := by decide +kernel
def f_X12_isLost (μ : Mem) (p1 : Int32) : Option Bool :=
Option.bind (f_X12_ofLace μ p1 0) fun t1 =>
some (if t1 = 2 then true else false)
theorem s_X12_isLost_e {G : Gl} (hG : G.1.stackTraces = false) {C : Cx} {n : Nat} {μ : Mem} {p1 : Int32} {r : Bool} (hf : f_X12_isLost μ p1 = some r) (hK : FinR G C F_X12_isLost (some .boolean) (some (.int (b2i r))) μ) : V G C F_X12_isLost 0 [some (.ref (G.2.1 + 264)), some (.int p1)] [] (pic G μ) n 0 0 := by
  unfold f_X12_isLost at hf
  refine V_aload_n d_X12_isLost_0 rfl rfl ?_
  refine V_iload_n d_X12_isLost_1 rfl rfl ?_
  refine V_iconst (v := 0) d_X12_isLost_2 ic_0 ?_
  obtain ⟨t1, ht1, hf⟩ := ob hf
  refine B_callV1 (s_X12_ofLace hG ht1) k_264 clX12 m_X12_ofLace kv_RX12_70 d_X12_isLost_3 rfl (Nat.le_of_ble_eq_true rfl) ⟨rfl, rfl, Nat.le_of_ble_eq_true rfl, Nat.le_of_ble_eq_true rfl, Nat.le_of_ble_eq_true rfl⟩ (fun n => ?_)
  refine V_iconst (v := 2) d_X12_isLost_6 ic_2 ?_
  have hJj2 : ∀ j2 : Bool, j2 = (if t1 = 2 then true else false) → V G C F_X12_isLost 15 [none, none] [.int (b2i j2)] (pic G μ) n 0 0 := by
    intro j2 ej2
    subst ej2
    cases hf
    exact R_z hK d_X12_isLost_15 (Nat.le_of_ble_eq_true rfl) (Nat.le_of_ble_eq_true rfl)
  refine V_icmp_ne (tgt := 14) d_X12_isLost_7 (by decide) (fun c7 => ?_) (fun c7 => ?_)
  · refine V_iconst (v := 0) d_X12_isLost_14 ic_0 ?_
    refine V_less (ls' := [none, none]) trivial ?_
    exact hJj2 false (by rw [if_neg c7])
  · refine V_iconst (v := 1) d_X12_isLost_10 ic_1 ?_
    refine V_goto (tgt := 15) d_X12_isLost_11 (by decide) ?_
    refine V_less (ls' := [none, none]) trivial ?_
    exact hJj2 true (by rw [if_pos c7])
theorem s_X12_isLost {G : Gl} (hG : G.1.stackTraces = false) {μ : Mem} {p1 : Int32} {r : Bool} (hf : f_X12_isLost μ p1 = some r) : Rt G yX12_isLost F_X12_isLost (some .boolean) [.ref (G.2.1 + 264), .int p1] μ (some (.int (b2i r))) μ := fun n => Sd.of hG ⟨by decide +kernel, rfl, rfl⟩ rfl (Nat.le_of_ble_eq_true rfl) rfl (fun C hK => s_X12_isLost_e hG hf hK)
theorem d_X12_isIn_0 : decode F_X12_isIn.2.1 0 = .ok (.aload_n 0, 1) := by decide +kernel
theorem d_X12_isIn_1 : decode F_X12_isIn.2.1 1 = .ok (.iload_n 1, 1) := by decide +kernel
theorem d_X12_isIn_2 : decode F_X12_isIn.2.1 2 = .ok (.iconst 0, 1) := by decide +kernel
theorem d_X12_isIn_3 : decode F_X12_isIn.2.1 3 = .ok (.invokevirtual 70, 3) := by decide +kernel
theorem d_X12_isIn_6 : decode F_X12_isIn.2.1 6 = .ok (.ifCond .ne 7, 3) := by decide +kernel
theorem d_X12_isIn_9 : decode F_X12_isIn.2.1 9 = .ok (.iconst 1, 1) := by decide +kernel
theorem d_X12_isIn_10 : decode F_X12_isIn.2.1 10 = .ok (.goto 4, 3) := by decide +kernel
theorem d_X12_isIn_13 : decode F_X12_isIn.2.1 13 = .ok (.iconst 0, 1) := by decide +kernel
theorem d_X12_isIn_14 : decode F_X12_isIn.2.1 14 = .ok (.ireturn, 1) := by decide +kernel
def f_X12_isIn (μ : Mem) (p1 : Int32) : Option Bool :=
Option.bind (f_X12_ofLace μ p1 0) fun t1 =>
some (if t1 = 0 then true else false)
theorem s_X12_isIn_e {G : Gl} (hG : G.1.stackTraces = false) {C : Cx} {n : Nat} {μ : Mem} {p1 : Int32} {r : Bool} (hf : f_X12_isIn μ p1 = some r) (hK : FinR G C F_X12_isIn (some .boolean) (some (.int (b2i r))) μ) : V G C F_X12_isIn 0 [some (.ref (G.2.1 + 264)), some (.int p1)] [] (pic G μ) n 0 0 := by
  unfold f_X12_isIn at hf
  refine V_aload_n d_X12_isIn_0 rfl rfl ?_
  refine V_iload_n d_X12_isIn_1 rfl rfl ?_
  refine V_iconst (v := 0) d_X12_isIn_2 ic_0 ?_
  obtain ⟨t1, ht1, hf⟩ := ob hf
  refine B_callV1 (s_X12_ofLace hG ht1) k_264 clX12 m_X12_ofLace kv_RX12_70 d_X12_isIn_3 rfl (Nat.le_of_ble_eq_true rfl) ⟨rfl, rfl, Nat.le_of_ble_eq_true rfl, Nat.le_of_ble_eq_true rfl, Nat.le_of_ble_eq_true rfl⟩ (fun n => ?_)
  have hJj2 : ∀ j2 : Bool, j2 = (if t1 = 0 then true else false) → V G C F_X12_isIn 14 [none, none] [.int (b2i j2)] (pic G μ) n 0 0 := by
    intro j2 ej2
    subst ej2
    cases hf
    exact R_z hK d_X12_isIn_14 (Nat.le_of_ble_eq_true rfl) (Nat.le_of_ble_eq_true rfl)
  refine V_if_ne (tgt := 13) d_X12_isIn_6 (by decide) (fun c6 => ?_) (fun c6 => ?_)
  · refine V_iconst (v := 0) d_X12_isIn_13 ic_0 ?_
    refine V_less (ls' := [none, none]) trivial ?_
    exact hJj2 false (by rw [if_neg c6])
  · refine V_iconst (v := 1) d_X12_isIn_9 ic_1 ?_
    refine V_goto (tgt := 14) d_X12_isIn_10 (by decide) ?_
    refine V_less (ls' := [none, none]) trivial ?_
    exact hJj2 true (by rw [if_pos c6])
theorem s_X12_isIn {G : Gl} (hG : G.1.stackTraces = false) {μ : Mem} {p1 : Int32} {r : Bool} (hf : f_X12_isIn μ p1 = some r) : Rt G yX12_isIn F_X12_isIn (some .boolean) [.ref (G.2.1 + 264), .int p1] μ (some (.int (b2i r))) μ := fun n => Sd.of hG ⟨by decide +kernel, rfl, rfl⟩ rfl (Nat.le_of_ble_eq_true rfl) rfl (fun C hK => s_X12_isIn_e hG hf hK)
theorem d_X12_noPerson_0 : decode F_X12_noPerson.2.1 0 = .ok (.iload_n 1, 1) := by decide +kernel
theorem d_X12_noPerson_1 : decode F_X12_noPerson.2.1 1 = .ok (.iconst 0, 1) := by decide +kernel
theorem d_X12_noPerson_2 : decode F_X12_noPerson.2.1 2 = .ok (.aload_n 0, 1) := by decide +kernel
theorem d_X12_noPerson_3 : decode F_X12_noPerson.2.1 3 = .ok (.invokevirtual 59, 3) := by decide +kernel
theorem d_X12_noPerson_6 : decode F_X12_noPerson.2.1 6 = .ok (.iconst 1, 1) := by decide +kernel
theorem d_X12_noPerson_7 : decode F_X12_noPerson.2.1 7 = .ok (.isub, 1) := by decide +kernel
theorem d_X12_noPerson_8 : decode F_X12_noPerson.2.1 8 = .ok (.invokestatic 73, 3) := by decide +kernel
theorem d_X12_noPerson_11 : decode F_X12_noPerson.2.1 11 = .ok (.ifCond .ne 7, 3) := by decide +kernel
theorem d_X12_noPerson_14 : decode F_X12_noPerson.2.1 14 = .ok (.iconst 1, 1) := by decide +kernel
theorem d_X12_noPerson_15 : decode F_X12_noPerson.2.1 15 = .ok (.goto 4, 3) := by decide +kernel
theorem d_X12_noPerson_18 : decode F_X12_noPerson.2.1 18 = .ok (.iconst 0, 1) := by decide +kernel
theorem d_X12_noPerson_19 : decode F_X12_noPerson.2.1 19 = .ok (.ireturn, 1) := by decide +kernel
def f_X12_noPerson (μ : Mem) (p1 : Int32) : Option Bool :=
Option.bind (f_X12_people μ) fun t1 =>
Option.bind (f_X12_in μ p1 0 (t1 - 1)) fun t2 =>
some (if t2 = true then false else true)
theorem s_X12_noPerson_e {G : Gl} (hG : G.1.stackTraces = false) {C : Cx} {n : Nat} {μ : Mem} {p1 : Int32} {r : Bool} (hf : f_X12_noPerson μ p1 = some r) (hK : FinR G C F_X12_noPerson (some .boolean) (some (.int (b2i r))) μ) : V G C F_X12_noPerson 0 [some (.ref (G.2.1 + 264)), some (.int p1)] [] (pic G μ) n 0 0 := by
  unfold f_X12_noPerson at hf
  refine V_iload_n d_X12_noPerson_0 rfl rfl ?_
  refine V_iconst (v := 0) d_X12_noPerson_1 ic_0 ?_
  refine V_aload_n d_X12_noPerson_2 rfl rfl ?_
  obtain ⟨t1, ht1, hf⟩ := ob hf
  refine B_callV1 (s_X12_people hG ht1) k_264 clX12 m_X12_people kv_RX12_59 d_X12_noPerson_3 rfl (Nat.le_of_ble_eq_true rfl) ⟨rfl, rfl, Nat.le_of_ble_eq_true rfl, Nat.le_of_ble_eq_true rfl, Nat.le_of_ble_eq_true rfl⟩ (fun n => ?_)
  refine V_iconst (v := 1) d_X12_noPerson_6 ic_1 ?_
  refine V_isub d_X12_noPerson_7 ?_
  obtain ⟨t2, ht2, hf⟩ := ob hf
  refine B_callS1 (s_X12_in hG ht2) m_X12_in ks_RX12_73 d_X12_noPerson_8 rfl (Nat.le_of_ble_eq_true rfl) ⟨rfl, rfl, Nat.le_of_ble_eq_true rfl, Nat.le_of_ble_eq_true rfl, Nat.le_of_ble_eq_true rfl⟩ (fun n => ?_)
  have hJj3 : ∀ j3 : Bool, j3 = (if t2 = true then false else true) → V G C F_X12_noPerson 19 [none, none] [.int (b2i j3)] (pic G μ) n 0 0 := by
    intro j3 ej3
    subst ej3
    cases hf
    exact R_z hK d_X12_noPerson_19 (Nat.le_of_ble_eq_true rfl) (Nat.le_of_ble_eq_true rfl)
  refine V_if_ne (tgt := 18) d_X12_noPerson_11 (by decide) (fun c11 => ?_) (fun c11 => ?_)
  · refine V_iconst (v := 0) d_X12_noPerson_18 ic_0 ?_
    refine V_less (ls' := [none, none]) trivial ?_
    exact hJj3 false (by rw [if_pos (b2i_ne0 c11)])
  · refine V_iconst (v := 1) d_X12_noPerson_14 ic_1 ?_
    refine V_goto (tgt := 19) d_X12_noPerson_15 (by decide) ?_
    refine V_less (ls' := [none, none]) trivial ?_
    exact hJj3 true (by rw [if_neg (b2i_nt (b2i_eq0 c11))])
theorem s_X12_noPerson {G : Gl} (hG : G.1.stackTraces = false) {μ : Mem} {p1 : Int32} {r : Bool} (hf : f_X12_noPerson μ p1 = some r) : Rt G yX12_noPerson F_X12_noPerson (some .boolean) [.ref (G.2.1 + 264), .int p1] μ (some (.int (b2i r))) μ := fun n => Sd.of hG ⟨by decide +kernel, rfl, rfl⟩ rfl (Nat.le_of_ble_eq_true rfl) rfl (fun C hK => s_X12_noPerson_e hG hf hK)
theorem d_X12_noLace_0 : decode F_X12_noLace.2.1 0 = .ok (.iload_n 1, 1) := by decide +kernel
theorem d_X12_noLace_1 : decode F_X12_noLace.2.1 1 = .ok (.iconst 0, 1) := by decide +kernel
theorem d_X12_noLace_2 : decode F_X12_noLace.2.1 2 = .ok (.aload_n 0, 1) := by decide +kernel
theorem d_X12_noLace_3 : decode F_X12_noLace.2.1 3 = .ok (.invokevirtual 77, 3) := by decide +kernel
theorem d_X12_noLace_6 : decode F_X12_noLace.2.1 6 = .ok (.iconst 1, 1) := by decide +kernel
theorem d_X12_noLace_7 : decode F_X12_noLace.2.1 7 = .ok (.isub, 1) := by decide +kernel
theorem d_X12_noLace_8 : decode F_X12_noLace.2.1 8 = .ok (.invokestatic 73, 3) := by decide +kernel
theorem d_X12_noLace_11 : decode F_X12_noLace.2.1 11 = .ok (.ifCond .ne 7, 3) := by decide +kernel
theorem d_X12_noLace_14 : decode F_X12_noLace.2.1 14 = .ok (.iconst 1, 1) := by decide +kernel
theorem d_X12_noLace_15 : decode F_X12_noLace.2.1 15 = .ok (.goto 4, 3) := by decide +kernel
theorem d_X12_noLace_18 : decode F_X12_noLace.2.1 18 = .ok (.iconst 0, 1) := by decide +kernel
theorem d_X12_noLace_19 : decode F_X12_noLace.2.1 19 = .ok (.ireturn, 1) := by decide +kernel
def f_X12_noLace (μ : Mem) (p1 : Int32) : Option Bool :=
Option.bind (f_X12_laces μ) fun t1 =>
Option.bind (f_X12_in μ p1 0 (t1 - 1)) fun t2 =>
some (if t2 = true then false else true)
theorem s_X12_noLace_e {G : Gl} (hG : G.1.stackTraces = false) {C : Cx} {n : Nat} {μ : Mem} {p1 : Int32} {r : Bool} (hf : f_X12_noLace μ p1 = some r) (hK : FinR G C F_X12_noLace (some .boolean) (some (.int (b2i r))) μ) : V G C F_X12_noLace 0 [some (.ref (G.2.1 + 264)), some (.int p1)] [] (pic G μ) n 0 0 := by
  unfold f_X12_noLace at hf
  refine V_iload_n d_X12_noLace_0 rfl rfl ?_
  refine V_iconst (v := 0) d_X12_noLace_1 ic_0 ?_
  refine V_aload_n d_X12_noLace_2 rfl rfl ?_
  obtain ⟨t1, ht1, hf⟩ := ob hf
  refine B_callV1 (s_X12_laces hG ht1) k_264 clX12 m_X12_laces kv_RX12_77 d_X12_noLace_3 rfl (Nat.le_of_ble_eq_true rfl) ⟨rfl, rfl, Nat.le_of_ble_eq_true rfl, Nat.le_of_ble_eq_true rfl, Nat.le_of_ble_eq_true rfl⟩ (fun n => ?_)
  refine V_iconst (v := 1) d_X12_noLace_6 ic_1 ?_
  refine V_isub d_X12_noLace_7 ?_
  obtain ⟨t2, ht2, hf⟩ := ob hf
  refine B_callS1 (s_X12_in hG ht2) m_X12_in ks_RX12_73 d_X12_noLace_8 rfl (Nat.le_of_ble_eq_true rfl) ⟨rfl, rfl, Nat.le_of_ble_eq_true rfl, Nat.le_of_ble_eq_true rfl, Nat.le_of_ble_eq_true rfl⟩ (fun n => ?_)
  have hJj3 : ∀ j3 : Bool, j3 = (if t2 = true then false else true) → V G C F_X12_noLace 19 [none, none] [.int (b2i j3)] (pic G μ) n 0 0 := by
    intro j3 ej3
    subst ej3
    cases hf
    exact R_z hK d_X12_noLace_19 (Nat.le_of_ble_eq_true rfl) (Nat.le_of_ble_eq_true rfl)
  refine V_if_ne (tgt := 18) d_X12_noLace_11 (by decide) (fun c11 => ?_) (fun c11 => ?_)
  · refine V_iconst (v := 0) d_X12_noLace_18 ic_0 ?_
    refine V_less (ls' := [none, none]) trivial ?_
    exact hJj3 false (by rw [if_pos (b2i_ne0 c11)])
  · refine V_iconst (v := 1) d_X12_noLace_14 ic_1 ?_
    refine V_goto (tgt := 19) d_X12_noLace_15 (by decide) ?_
    refine V_less (ls' := [none, none]) trivial ?_
    exact hJj3 true (by rw [if_neg (b2i_nt (b2i_eq0 c11))])
theorem s_X12_noLace {G : Gl} (hG : G.1.stackTraces = false) {μ : Mem} {p1 : Int32} {r : Bool} (hf : f_X12_noLace μ p1 = some r) : Rt G yX12_noLace F_X12_noLace (some .boolean) [.ref (G.2.1 + 264), .int p1] μ (some (.int (b2i r))) μ := fun n => Sd.of hG ⟨by decide +kernel, rfl, rfl⟩ rfl (Nat.le_of_ble_eq_true rfl) rfl (fun C hK => s_X12_noLace_e hG hf hK)
theorem d_X12_noPlace_0 : decode F_X12_noPlace.2.1 0 = .ok (.iload_n 0, 1) := by decide +kernel
theorem d_X12_noPlace_1 : decode F_X12_noPlace.2.1 1 = .ok (.iconst 0, 1) := by decide +kernel
theorem d_X12_noPlace_2 : decode F_X12_noPlace.2.1 2 = .ok (.bipush 19, 2) := by decide +kernel
theorem d_X12_noPlace_4 : decode F_X12_noPlace.2.1 4 = .ok (.invokestatic 73, 3) := by decide +kernel
theorem d_X12_noPlace_7 : decode F_X12_noPlace.2.1 7 = .ok (.ifCond .ne 7, 3) := by decide +kernel
theorem d_X12_noPlace_10 : decode F_X12_noPlace.2.1 10 = .ok (.iconst 1, 1) := by decide +kernel
theorem d_X12_noPlace_11 : decode F_X12_noPlace.2.1 11 = .ok (.goto 4, 3) := by decide +kernel
theorem d_X12_noPlace_14 : decode F_X12_noPlace.2.1 14 = .ok (.iconst 0, 1) := by decide +kernel
theorem d_X12_noPlace_15 : decode F_X12_noPlace.2.1 15 = .ok (.ireturn, 1) := by decide +kernel
def f_X12_noPlace (μ : Mem) (p0 : Int32) : Option Bool :=
Option.bind (f_X12_in μ p0 0 19) fun t1 =>
some (if t1 = true then false else true)
theorem s_X12_noPlace_e {G : Gl} (hG : G.1.stackTraces = false) {C : Cx} {n : Nat} {μ : Mem} {p0 : Int32} {r : Bool} (hf : f_X12_noPlace μ p0 = some r) (hK : FinR G C F_X12_noPlace (some .boolean) (some (.int (b2i r))) μ) : V G C F_X12_noPlace 0 [some (.int p0)] [] (pic G μ) n 0 0 := by
  unfold f_X12_noPlace at hf
  refine V_iload_n d_X12_noPlace_0 rfl rfl ?_
  refine V_iconst (v := 0) d_X12_noPlace_1 ic_0 ?_
  refine V_bipush (v := 19) d_X12_noPlace_2 bp_19 ?_
  obtain ⟨t1, ht1, hf⟩ := ob hf
  refine B_callS1 (s_X12_in hG ht1) m_X12_in ks_RX12_73 d_X12_noPlace_4 rfl (Nat.le_of_ble_eq_true rfl) ⟨rfl, rfl, Nat.le_of_ble_eq_true rfl, Nat.le_of_ble_eq_true rfl, Nat.le_of_ble_eq_true rfl⟩ (fun n => ?_)
  have hJj2 : ∀ j2 : Bool, j2 = (if t1 = true then false else true) → V G C F_X12_noPlace 15 [none] [.int (b2i j2)] (pic G μ) n 0 0 := by
    intro j2 ej2
    subst ej2
    cases hf
    exact R_z hK d_X12_noPlace_15 (Nat.le_of_ble_eq_true rfl) (Nat.le_of_ble_eq_true rfl)
  refine V_if_ne (tgt := 14) d_X12_noPlace_7 (by decide) (fun c7 => ?_) (fun c7 => ?_)
  · refine V_iconst (v := 0) d_X12_noPlace_14 ic_0 ?_
    refine V_less (ls' := [none]) trivial ?_
    exact hJj2 false (by rw [if_pos (b2i_ne0 c7)])
  · refine V_iconst (v := 1) d_X12_noPlace_10 ic_1 ?_
    refine V_goto (tgt := 15) d_X12_noPlace_11 (by decide) ?_
    refine V_less (ls' := [none]) trivial ?_
    exact hJj2 true (by rw [if_neg (b2i_nt (b2i_eq0 c7))])
theorem s_X12_noPlace {G : Gl} (hG : G.1.stackTraces = false) {μ : Mem} {p0 : Int32} {r : Bool} (hf : f_X12_noPlace μ p0 = some r) : Rt G yX12_noPlace F_X12_noPlace (some .boolean) [.int p0] μ (some (.int (b2i r))) μ := fun n => Sd.of hG ⟨by decide +kernel, rfl, rfl⟩ rfl (Nat.le_of_ble_eq_true rfl) rfl (fun C hK => s_X12_noPlace_e hG hf hK)
theorem d_X12_tellsLace_0 : decode F_X12_tellsLace.2.1 0 = .ok (.aload_n 0, 1) := by decide +kernel
theorem d_X12_tellsLace_1 : decode F_X12_tellsLace.2.1 1 = .ok (.getfield 13, 3) := by decide +kernel
theorem d_X12_tellsLace_4 : decode F_X12_tellsLace.2.1 4 = .ok (.iload_n 1, 1) := by decide +kernel
theorem d_X12_tellsLace_5 : decode F_X12_tellsLace.2.1 5 = .ok (.iconst 0, 1) := by decide +kernel
theorem d_X12_tellsLace_6 : decode F_X12_tellsLace.2.1 6 = .ok (.invokestatic 67, 3) := by decide +kernel
theorem d_X12_tellsLace_9 : decode F_X12_tellsLace.2.1 9 = .ok (.iload_n 2, 1) := by decide +kernel
theorem d_X12_tellsLace_10 : decode F_X12_tellsLace.2.1 10 = .ok (.iastore, 1) := by decide +kernel
theorem d_X12_tellsLace_11 : decode F_X12_tellsLace.2.1 11 = .ok (.aload_n 0, 1) := by decide +kernel
theorem d_X12_tellsLace_12 : decode F_X12_tellsLace.2.1 12 = .ok (.getfield 13, 3) := by decide +kernel
theorem d_X12_tellsLace_15 : decode F_X12_tellsLace.2.1 15 = .ok (.iload_n 1, 1) := by decide +kernel
theorem d_X12_tellsLace_16 : decode F_X12_tellsLace.2.1 16 = .ok (.iconst 1, 1) := by decide +kernel
theorem d_X12_tellsLace_17 : decode F_X12_tellsLace.2.1 17 = .ok (.invokestatic 67, 3) := by decide +kernel
theorem d_X12_tellsLace_20 : decode F_X12_tellsLace.2.1 20 = .ok (.iload_n 3, 1) := by decide +kernel
theorem d_X12_tellsLace_21 : decode F_X12_tellsLace.2.1 21 = .ok (.iastore, 1) := by decide +kernel
theorem d_X12_tellsLace_22 : decode F_X12_tellsLace.2.1 22 = .ok (.aload_n 0, 1) := by decide +kernel
theorem d_X12_tellsLace_23 : decode F_X12_tellsLace.2.1 23 = .ok (.getfield 13, 3) := by decide +kernel
theorem d_X12_tellsLace_26 : decode F_X12_tellsLace.2.1 26 = .ok (.iload_n 1, 1) := by decide +kernel
theorem d_X12_tellsLace_27 : decode F_X12_tellsLace.2.1 27 = .ok (.iconst 2, 1) := by decide +kernel
theorem d_X12_tellsLace_28 : decode F_X12_tellsLace.2.1 28 = .ok (.invokestatic 67, 3) := by decide +kernel
theorem d_X12_tellsLace_31 : decode F_X12_tellsLace.2.1 31 = .ok (.iload 4, 2) := by decide +kernel
theorem d_X12_tellsLace_33 : decode F_X12_tellsLace.2.1 33 = .ok (.iastore, 1) := by decide +kernel
theorem d_X12_tellsLace_34 : decode F_X12_tellsLace.2.1 34 = .ok (.aload_n 0, 1) := by decide +kernel
theorem d_X12_tellsLace_35 : decode F_X12_tellsLace.2.1 35 = .ok (.getfield 13, 3) := by decide +kernel
theorem d_X12_tellsLace_38 : decode F_X12_tellsLace.2.1 38 = .ok (.iload_n 1, 1) := by decide +kernel
theorem d_X12_tellsLace_39 : decode F_X12_tellsLace.2.1 39 = .ok (.iconst 3, 1) := by decide +kernel
theorem d_X12_tellsLace_40 : decode F_X12_tellsLace.2.1 40 = .ok (.invokestatic 67, 3) := by decide +kernel
theorem d_X12_tellsLace_43 : decode F_X12_tellsLace.2.1 43 = .ok (.iload 5, 2) := by decide +kernel
theorem d_X12_tellsLace_45 : decode F_X12_tellsLace.2.1 45 = .ok (.iastore, 1) := by decide +kernel
theorem d_X12_tellsLace_46 : decode F_X12_tellsLace.2.1 46 = .ok (.aload_n 0, 1) := by decide +kernel
theorem d_X12_tellsLace_47 : decode F_X12_tellsLace.2.1 47 = .ok (.getfield 13, 3) := by decide +kernel
theorem d_X12_tellsLace_50 : decode F_X12_tellsLace.2.1 50 = .ok (.iload_n 1, 1) := by decide +kernel
theorem d_X12_tellsLace_51 : decode F_X12_tellsLace.2.1 51 = .ok (.iconst 4, 1) := by decide +kernel
theorem d_X12_tellsLace_52 : decode F_X12_tellsLace.2.1 52 = .ok (.invokestatic 67, 3) := by decide +kernel
theorem d_X12_tellsLace_55 : decode F_X12_tellsLace.2.1 55 = .ok (.iload 6, 2) := by decide +kernel
theorem d_X12_tellsLace_57 : decode F_X12_tellsLace.2.1 57 = .ok (.iastore, 1) := by decide +kernel
theorem d_X12_tellsLace_58 : decode F_X12_tellsLace.2.1 58 = .ok (.aload_n 0, 1) := by decide +kernel
theorem d_X12_tellsLace_59 : decode F_X12_tellsLace.2.1 59 = .ok (.getfield 13, 3) := by decide +kernel
theorem d_X12_tellsLace_62 : decode F_X12_tellsLace.2.1 62 = .ok (.iload_n 1, 1) := by decide +kernel
theorem d_X12_tellsLace_63 : decode F_X12_tellsLace.2.1 63 = .ok (.iconst 5, 1) := by decide +kernel
theorem d_X12_tellsLace_64 : decode F_X12_tellsLace.2.1 64 = .ok (.invokestatic 67, 3) := by decide +kernel
theorem d_X12_tellsLace_67 : decode F_X12_tellsLace.2.1 67 = .ok (.iconst (-1), 1) := by decide +kernel
theorem d_X12_tellsLace_68 : decode F_X12_tellsLace.2.1 68 = .ok (.iastore, 1) := by decide +kernel
theorem d_X12_tellsLace_69 : decode F_X12_tellsLace.2.1 69 = .ok (.return_, 1) := by decide +kernel
def f_X12_tellsLace (μ : Mem) (p1 : Int32) (p2 : Int32) (p3 : Int32) (p4 : Int32) (p5 : Int32) (p6 : Int32) : Option Mem :=
Option.bind (f_X12_laceAt μ p1 0) fun t1 =>
Option.bind (wr μ 265 2068 t1 p2) fun μ2 =>
Option.bind (f_X12_laceAt μ2 p1 1) fun t3 =>
Option.bind (wr μ2 265 2068 t3 p3) fun μ4 =>
Option.bind (f_X12_laceAt μ4 p1 2) fun t5 =>
Option.bind (wr μ4 265 2068 t5 p4) fun μ6 =>
Option.bind (f_X12_laceAt μ6 p1 3) fun t7 =>
Option.bind (wr μ6 265 2068 t7 p5) fun μ8 =>
Option.bind (f_X12_laceAt μ8 p1 4) fun t9 =>
Option.bind (wr μ8 265 2068 t9 p6) fun μ10 =>
Option.bind (f_X12_laceAt μ10 p1 5) fun t11 =>
Option.bind (wr μ10 265 2068 t11 (-1)) fun μ12 =>
some μ12
theorem s_X12_tellsLace_e {G : Gl} (hG : G.1.stackTraces = false) {C : Cx} {n : Nat} {μ : Mem} {p1 : Int32} {p2 : Int32} {p3 : Int32} {p4 : Int32} {p5 : Int32} {p6 : Int32} {r : Mem} (hf : f_X12_tellsLace μ p1 p2 p3 p4 p5 p6 = some r) (hK : FinR G C F_X12_tellsLace none none r) : V G C F_X12_tellsLace 0 [some (.ref (G.2.1 + 264)), some (.int p1), some (.int p2), some (.int p3), some (.int p4), some (.int p5), some (.int p6)] [] (pic G μ) n 0 0 := by
  unfold f_X12_tellsLace at hf
  refine V_aload_n d_X12_tellsLace_0 rfl rfl ?_
  refine B_get k_264 fl_RX12_13 d_X12_tellsLace_1 g_12_1 ?_
  refine V_iload_n d_X12_tellsLace_4 rfl rfl ?_
  refine V_iconst (v := 0) d_X12_tellsLace_5 ic_0 ?_
  obtain ⟨t1, ht1, hf⟩ := ob hf
  refine B_callS1 (s_X12_laceAt hG ht1) m_X12_laceAt ks_RX12_67 d_X12_tellsLace_6 rfl (Nat.le_of_ble_eq_true rfl) ⟨rfl, rfl, Nat.le_of_ble_eq_true rfl, Nat.le_of_ble_eq_true rfl, Nat.le_of_ble_eq_true rfl⟩ (fun n => ?_)
  refine V_iload_n d_X12_tellsLace_9 rfl rfl ?_
  obtain ⟨μ2, hμ2, hf⟩ := ob hf
  refine B_iast k_265 hμ2 d_X12_tellsLace_10 ?_
  refine V_aload_n d_X12_tellsLace_11 rfl rfl ?_
  refine B_get k_264 fl_RX12_13 d_X12_tellsLace_12 g_12_1 ?_
  refine V_iload_n d_X12_tellsLace_15 rfl rfl ?_
  refine V_iconst (v := 1) d_X12_tellsLace_16 ic_1 ?_
  obtain ⟨t3, ht3, hf⟩ := ob hf
  refine B_callS1 (s_X12_laceAt hG ht3) m_X12_laceAt ks_RX12_67 d_X12_tellsLace_17 rfl (Nat.le_of_ble_eq_true rfl) ⟨rfl, rfl, Nat.le_of_ble_eq_true rfl, Nat.le_of_ble_eq_true rfl, Nat.le_of_ble_eq_true rfl⟩ (fun n => ?_)
  refine V_iload_n d_X12_tellsLace_20 rfl rfl ?_
  obtain ⟨μ4, hμ4, hf⟩ := ob hf
  refine B_iast k_265 hμ4 d_X12_tellsLace_21 ?_
  refine V_aload_n d_X12_tellsLace_22 rfl rfl ?_
  refine B_get k_264 fl_RX12_13 d_X12_tellsLace_23 g_12_1 ?_
  refine V_iload_n d_X12_tellsLace_26 rfl rfl ?_
  refine V_iconst (v := 2) d_X12_tellsLace_27 ic_2 ?_
  obtain ⟨t5, ht5, hf⟩ := ob hf
  refine B_callS1 (s_X12_laceAt hG ht5) m_X12_laceAt ks_RX12_67 d_X12_tellsLace_28 rfl (Nat.le_of_ble_eq_true rfl) ⟨rfl, rfl, Nat.le_of_ble_eq_true rfl, Nat.le_of_ble_eq_true rfl, Nat.le_of_ble_eq_true rfl⟩ (fun n => ?_)
  refine V_iload d_X12_tellsLace_31 rfl ?_
  obtain ⟨μ6, hμ6, hf⟩ := ob hf
  refine B_iast k_265 hμ6 d_X12_tellsLace_33 ?_
  refine V_aload_n d_X12_tellsLace_34 rfl rfl ?_
  refine B_get k_264 fl_RX12_13 d_X12_tellsLace_35 g_12_1 ?_
  refine V_iload_n d_X12_tellsLace_38 rfl rfl ?_
  refine V_iconst (v := 3) d_X12_tellsLace_39 ic_3 ?_
  obtain ⟨t7, ht7, hf⟩ := ob hf
  refine B_callS1 (s_X12_laceAt hG ht7) m_X12_laceAt ks_RX12_67 d_X12_tellsLace_40 rfl (Nat.le_of_ble_eq_true rfl) ⟨rfl, rfl, Nat.le_of_ble_eq_true rfl, Nat.le_of_ble_eq_true rfl, Nat.le_of_ble_eq_true rfl⟩ (fun n => ?_)
  refine V_iload d_X12_tellsLace_43 rfl ?_
  obtain ⟨μ8, hμ8, hf⟩ := ob hf
  refine B_iast k_265 hμ8 d_X12_tellsLace_45 ?_
  refine V_aload_n d_X12_tellsLace_46 rfl rfl ?_
  refine B_get k_264 fl_RX12_13 d_X12_tellsLace_47 g_12_1 ?_
  refine V_iload_n d_X12_tellsLace_50 rfl rfl ?_
  refine V_iconst (v := 4) d_X12_tellsLace_51 ic_4 ?_
  obtain ⟨t9, ht9, hf⟩ := ob hf
  refine B_callS1 (s_X12_laceAt hG ht9) m_X12_laceAt ks_RX12_67 d_X12_tellsLace_52 rfl (Nat.le_of_ble_eq_true rfl) ⟨rfl, rfl, Nat.le_of_ble_eq_true rfl, Nat.le_of_ble_eq_true rfl, Nat.le_of_ble_eq_true rfl⟩ (fun n => ?_)
  refine V_iload d_X12_tellsLace_55 rfl ?_
  obtain ⟨μ10, hμ10, hf⟩ := ob hf
  refine B_iast k_265 hμ10 d_X12_tellsLace_57 ?_
  refine V_aload_n d_X12_tellsLace_58 rfl rfl ?_
  refine B_get k_264 fl_RX12_13 d_X12_tellsLace_59 g_12_1 ?_
  refine V_iload_n d_X12_tellsLace_62 rfl rfl ?_
  refine V_iconst (v := 5) d_X12_tellsLace_63 ic_5 ?_
  obtain ⟨t11, ht11, hf⟩ := ob hf
  refine B_callS1 (s_X12_laceAt hG ht11) m_X12_laceAt ks_RX12_67 d_X12_tellsLace_64 rfl (Nat.le_of_ble_eq_true rfl) ⟨rfl, rfl, Nat.le_of_ble_eq_true rfl, Nat.le_of_ble_eq_true rfl, Nat.le_of_ble_eq_true rfl⟩ (fun n => ?_)
  refine V_iconst (v := (-1)) d_X12_tellsLace_67 ic_m1 ?_
  obtain ⟨μ12, hμ12, hf⟩ := ob hf
  refine B_iast k_265 hμ12 d_X12_tellsLace_68 ?_
  cases hf
  exact R_v hK d_X12_tellsLace_69 (Nat.le_of_ble_eq_true rfl) (Nat.le_of_ble_eq_true rfl)
theorem s_X12_tellsLace {G : Gl} (hG : G.1.stackTraces = false) {μ : Mem} {p1 : Int32} {p2 : Int32} {p3 : Int32} {p4 : Int32} {p5 : Int32} {p6 : Int32} {r : Mem} (hf : f_X12_tellsLace μ p1 p2 p3 p4 p5 p6 = some r) : Rt G yX12_tellsLace F_X12_tellsLace none [.ref (G.2.1 + 264), .int p1, .int p2, .int p3, .int p4, .int p5, .int p6] μ none r := fun n => Sd.of hG ⟨by decide +kernel, rfl, rfl⟩ rfl (Nat.le_of_ble_eq_true rfl) rfl (fun C hK => s_X12_tellsLace_e hG hf hK)
theorem d_X12_comesBack_0 : decode F_X12_comesBack.2.1 0 = .ok (.aload_n 0, 1) := by decide +kernel
theorem d_X12_comesBack_1 : decode F_X12_comesBack.2.1 1 = .ok (.iload_n 1, 1) := by decide +kernel
theorem d_X12_comesBack_2 : decode F_X12_comesBack.2.1 2 = .ok (.iconst 0, 1) := by decide +kernel
theorem d_X12_comesBack_3 : decode F_X12_comesBack.2.1 3 = .ok (.iconst (-1), 1) := by decide +kernel
theorem d_X12_comesBack_4 : decode F_X12_comesBack.2.1 4 = .ok (.iconst 0, 1) := by decide +kernel
theorem d_X12_comesBack_5 : decode F_X12_comesBack.2.1 5 = .ok (.iconst 0, 1) := by decide +kernel
theorem d_X12_comesBack_6 : decode F_X12_comesBack.2.1 6 = .ok (.iconst 0, 1) := by decide +kernel
theorem d_X12_comesBack_7 : decode F_X12_comesBack.2.1 7 = .ok (.invokevirtual 80, 3) := by decide +kernel
theorem d_X12_comesBack_10 : decode F_X12_comesBack.2.1 10 = .ok (.return_, 1) := by decide +kernel
def f_X12_comesBack (μ : Mem) (p1 : Int32) : Option Mem :=
Option.bind (f_X12_tellsLace μ p1 0 (-1) 0 0 0) fun q1 =>
some q1
theorem s_X12_comesBack_e {G : Gl} (hG : G.1.stackTraces = false) {C : Cx} {n : Nat} {μ : Mem} {p1 : Int32} {r : Mem} (hf : f_X12_comesBack μ p1 = some r) (hK : FinR G C F_X12_comesBack none none r) : V G C F_X12_comesBack 0 [some (.ref (G.2.1 + 264)), some (.int p1)] [] (pic G μ) n 0 0 := by
  unfold f_X12_comesBack at hf
  refine V_aload_n d_X12_comesBack_0 rfl rfl ?_
  refine V_iload_n d_X12_comesBack_1 rfl rfl ?_
  refine V_iconst (v := 0) d_X12_comesBack_2 ic_0 ?_
  refine V_iconst (v := (-1)) d_X12_comesBack_3 ic_m1 ?_
  refine V_iconst (v := 0) d_X12_comesBack_4 ic_0 ?_
  refine V_iconst (v := 0) d_X12_comesBack_5 ic_0 ?_
  refine V_iconst (v := 0) d_X12_comesBack_6 ic_0 ?_
  obtain ⟨q1, hq1, hf⟩ := ob hf
  refine B_callV0 (s_X12_tellsLace hG hq1) k_264 clX12 m_X12_tellsLace kv_RX12_80 d_X12_comesBack_7 rfl (Nat.le_of_ble_eq_true rfl) ⟨rfl, rfl, Nat.le_of_ble_eq_true rfl, Nat.le_of_ble_eq_true rfl, Nat.le_of_ble_eq_true rfl⟩ (fun n => ?_)
  cases hf
  exact R_v hK d_X12_comesBack_10 (Nat.le_of_ble_eq_true rfl) (Nat.le_of_ble_eq_true rfl)
theorem s_X12_comesBack {G : Gl} (hG : G.1.stackTraces = false) {μ : Mem} {p1 : Int32} {r : Mem} (hf : f_X12_comesBack μ p1 = some r) : Rt G yX12_comesBack F_X12_comesBack none [.ref (G.2.1 + 264), .int p1] μ none r := fun n => Sd.of hG ⟨by decide +kernel, rfl, rfl⟩ rfl (Nat.le_of_ble_eq_true rfl) rfl (fun C hK => s_X12_comesBack_e hG hf hK)
theorem d_X12_gets_0 : decode F_X12_gets.2.1 0 = .ok (.aload_n 0, 1) := by decide +kernel
theorem d_X12_gets_1 : decode F_X12_gets.2.1 1 = .ok (.getfield 13, 3) := by decide +kernel
theorem d_X12_gets_4 : decode F_X12_gets.2.1 4 = .ok (.iload_n 1, 1) := by decide +kernel
theorem d_X12_gets_5 : decode F_X12_gets.2.1 5 = .ok (.iconst 0, 1) := by decide +kernel
theorem d_X12_gets_6 : decode F_X12_gets.2.1 6 = .ok (.invokestatic 63, 3) := by decide +kernel
theorem d_X12_gets_9 : decode F_X12_gets.2.1 9 = .ok (.sipush 999, 3) := by decide +kernel
theorem d_X12_gets_12 : decode F_X12_gets.2.1 12 = .ok (.aload_n 0, 1) := by decide +kernel
theorem d_X12_gets_13 : decode F_X12_gets.2.1 13 = .ok (.iload_n 1, 1) := by decide +kernel
theorem d_X12_gets_14 : decode F_X12_gets.2.1 14 = .ok (.iconst 0, 1) := by decide +kernel
theorem d_X12_gets_15 : decode F_X12_gets.2.1 15 = .ok (.invokevirtual 84, 3) := by decide +kernel
theorem d_X12_gets_18 : decode F_X12_gets.2.1 18 = .ok (.iload_n 2, 1) := by decide +kernel
theorem d_X12_gets_19 : decode F_X12_gets.2.1 19 = .ok (.iadd, 1) := by decide +kernel
theorem d_X12_gets_20 : decode F_X12_gets.2.1 20 = .ok (.invokestatic 87, 3) := by decide +kernel
theorem d_X12_gets_23 : decode F_X12_gets.2.1 23 = .ok (.iastore, 1) := by decide +kernel
theorem d_X12_gets_24 : decode F_X12_gets.2.1 24 = .ok (.return_, 1) := by decide +kernel
def f_X12_gets (μ : Mem) (p1 : Int32) (p2 : Int32) : Option Mem :=
Option.bind (f_X12_at μ p1 0) fun t1 =>
Option.bind (f_X12_of μ p1 0) fun t2 =>
Option.bind (f_J9_min_7cf53 μ 999 (t2 + p2)) fun t3 =>
Option.bind (wr μ 265 2068 t1 t3) fun μ4 =>
some μ4
theorem s_X12_gets_e {G : Gl} (hG : G.1.stackTraces = false) {C : Cx} {n : Nat} {μ : Mem} {p1 : Int32} {p2 : Int32} {r : Mem} (hf : f_X12_gets μ p1 p2 = some r) (hK : FinR G C F_X12_gets none none r) : V G C F_X12_gets 0 [some (.ref (G.2.1 + 264)), some (.int p1), some (.int p2)] [] (pic G μ) n 0 0 := by
  unfold f_X12_gets at hf
  refine V_aload_n d_X12_gets_0 rfl rfl ?_
  refine B_get k_264 fl_RX12_13 d_X12_gets_1 g_12_1 ?_
  refine V_iload_n d_X12_gets_4 rfl rfl ?_
  refine V_iconst (v := 0) d_X12_gets_5 ic_0 ?_
  obtain ⟨t1, ht1, hf⟩ := ob hf
  refine B_callS1 (s_X12_at hG ht1) m_X12_at ks_RX12_63 d_X12_gets_6 rfl (Nat.le_of_ble_eq_true rfl) ⟨rfl, rfl, Nat.le_of_ble_eq_true rfl, Nat.le_of_ble_eq_true rfl, Nat.le_of_ble_eq_true rfl⟩ (fun n => ?_)
  refine V_sipush (v := 999) d_X12_gets_9 sp_999 ?_
  refine V_aload_n d_X12_gets_12 rfl rfl ?_
  refine V_iload_n d_X12_gets_13 rfl rfl ?_
  refine V_iconst (v := 0) d_X12_gets_14 ic_0 ?_
  obtain ⟨t2, ht2, hf⟩ := ob hf
  refine B_callV1 (s_X12_of hG ht2) k_264 clX12 m_X12_of kv_RX12_84 d_X12_gets_15 rfl (Nat.le_of_ble_eq_true rfl) ⟨rfl, rfl, Nat.le_of_ble_eq_true rfl, Nat.le_of_ble_eq_true rfl, Nat.le_of_ble_eq_true rfl⟩ (fun n => ?_)
  refine V_iload_n d_X12_gets_18 rfl rfl ?_
  refine V_iadd d_X12_gets_19 ?_
  obtain ⟨t3, ht3, hf⟩ := ob hf
  refine B_callS1 (s_J9_min_7cf53 hG ht3) m_J9_min_7cf53 ks_RX12_87 d_X12_gets_20 rfl (Nat.le_of_ble_eq_true rfl) ⟨rfl, rfl, Nat.le_of_ble_eq_true rfl, Nat.le_of_ble_eq_true rfl, Nat.le_of_ble_eq_true rfl⟩ (fun n => ?_)
  obtain ⟨μ4, hμ4, hf⟩ := ob hf
  refine B_iast k_265 hμ4 d_X12_gets_23 ?_
  cases hf
  exact R_v hK d_X12_gets_24 (Nat.le_of_ble_eq_true rfl) (Nat.le_of_ble_eq_true rfl)
theorem s_X12_gets {G : Gl} (hG : G.1.stackTraces = false) {μ : Mem} {p1 : Int32} {p2 : Int32} {r : Mem} (hf : f_X12_gets μ p1 p2 = some r) : Rt G yX12_gets F_X12_gets none [.ref (G.2.1 + 264), .int p1, .int p2] μ none r := fun n => Sd.of hG ⟨by decide +kernel, rfl, rfl⟩ rfl (Nat.le_of_ble_eq_true rfl) rfl (fun C hK => s_X12_gets_e hG hf hK)
theorem d_X12_drawn_0 : decode F_X12_drawn.2.1 0 = .ok (.aload_n 0, 1) := by decide +kernel
theorem d_X12_drawn_1 : decode F_X12_drawn.2.1 1 = .ok (.getfield 13, 3) := by decide +kernel
theorem d_X12_drawn_4 : decode F_X12_drawn.2.1 4 = .ok (.bipush 7, 2) := by decide +kernel
theorem d_X12_drawn_6 : decode F_X12_drawn.2.1 6 = .ok (.ldc 92, 2) := by decide +kernel
theorem d_X12_drawn_8 : decode F_X12_drawn.2.1 8 = .ok (.aload_n 0, 1) := by decide +kernel
theorem d_X12_drawn_9 : decode F_X12_drawn.2.1 9 = .ok (.getfield 13, 3) := by decide +kernel
theorem d_X12_drawn_12 : decode F_X12_drawn.2.1 12 = .ok (.bipush 7, 2) := by decide +kernel
theorem d_X12_drawn_14 : decode F_X12_drawn.2.1 14 = .ok (.iaload, 1) := by decide +kernel
theorem d_X12_drawn_15 : decode F_X12_drawn.2.1 15 = .ok (.imul, 1) := by decide +kernel
theorem d_X12_drawn_16 : decode F_X12_drawn.2.1 16 = .ok (.sipush 12345, 3) := by decide +kernel
theorem d_X12_drawn_19 : decode F_X12_drawn.2.1 19 = .ok (.iadd, 1) := by decide +kernel
theorem d_X12_drawn_20 : decode F_X12_drawn.2.1 20 = .ok (.iastore, 1) := by decide +kernel
theorem d_X12_drawn_21 : decode F_X12_drawn.2.1 21 = .ok (.aload_n 0, 1) := by decide +kernel
theorem d_X12_drawn_22 : decode F_X12_drawn.2.1 22 = .ok (.getfield 13, 3) := by decide +kernel
theorem d_X12_drawn_25 : decode F_X12_drawn.2.1 25 = .ok (.bipush 7, 2) := by decide +kernel
theorem d_X12_drawn_27 : decode F_X12_drawn.2.1 27 = .ok (.iaload, 1) := by decide +kernel
theorem d_X12_drawn_28 : decode F_X12_drawn.2.1 28 = .ok (.bipush 16, 2) := by decide +kernel
theorem d_X12_drawn_30 : decode F_X12_drawn.2.1 30 = .ok (.ishr, 1) := by decide +kernel
theorem d_X12_drawn_31 : decode F_X12_drawn.2.1 31 = .ok (.sipush 32767, 3) := by decide +kernel
theorem d_X12_drawn_34 : decode F_X12_drawn.2.1 34 = .ok (.iand, 1) := by decide +kernel
theorem d_X12_drawn_35 : decode F_X12_drawn.2.1 35 = .ok (.iload_n 1, 1) := by decide +kernel
theorem d_X12_drawn_36 : decode F_X12_drawn.2.1 36 = .ok (.irem, 1) := by decide +kernel
theorem d_X12_drawn_37 : decode F_X12_drawn.2.1 37 = .ok (.ireturn, 1) := by decide +kernel
def f_X12_drawn (μ : Mem) (p1 : Int32) : Option (Int32 × Mem) :=
Option.bind (rd μ 265 2068 7) fun t1 =>
Option.bind (wr μ 265 2068 7 ((1103515245 * t1) + 12345)) fun μ2 =>
Option.bind (rd μ2 265 2068 7) fun t3 =>
Option.bind (rm9 ((t3 >>> (16 &&& 31)) &&& 32767) p1) fun t4 =>
some (t4, μ2)
theorem s_X12_drawn_e {G : Gl} (hG : G.1.stackTraces = false) {C : Cx} {n : Nat} {μ : Mem} {p1 : Int32} {r : (Int32 × Mem)} (hf : f_X12_drawn μ p1 = some r) (hK : FinR G C F_X12_drawn (some .int) (some (.int r.1)) r.2) : V G C F_X12_drawn 0 [some (.ref (G.2.1 + 264)), some (.int p1)] [] (pic G μ) n 0 0 := by
  unfold f_X12_drawn at hf
  refine V_aload_n d_X12_drawn_0 rfl rfl ?_
  refine B_get k_264 fl_RX12_13 d_X12_drawn_1 g_12_1 ?_
  refine V_bipush (v := 7) d_X12_drawn_4 bp_7 ?_
  refine V_ldc (v := 1103515245) d_X12_drawn_6 w_1860 ?_
  refine V_aload_n d_X12_drawn_8 rfl rfl ?_
  refine B_get k_264 fl_RX12_13 d_X12_drawn_9 g_12_1 ?_
  refine V_bipush (v := 7) d_X12_drawn_12 bp_7 ?_
  obtain ⟨t1, ht1, hf⟩ := ob hf
  refine B_iald k_265 ht1 d_X12_drawn_14 ?_
  refine V_imul d_X12_drawn_15 ?_
  refine V_sipush (v := 12345) d_X12_drawn_16 sp_12345 ?_
  refine V_iadd d_X12_drawn_19 ?_
  obtain ⟨μ2, hμ2, hf⟩ := ob hf
  refine B_iast k_265 hμ2 d_X12_drawn_20 ?_
  refine V_aload_n d_X12_drawn_21 rfl rfl ?_
  refine B_get k_264 fl_RX12_13 d_X12_drawn_22 g_12_1 ?_
  refine V_bipush (v := 7) d_X12_drawn_25 bp_7 ?_
  obtain ⟨t3, ht3, hf⟩ := ob hf
  refine B_iald k_265 ht3 d_X12_drawn_27 ?_
  refine V_bipush (v := 16) d_X12_drawn_28 bp_16 ?_
  refine V_ishr d_X12_drawn_30 ?_
  refine V_sipush (v := 32767) d_X12_drawn_31 sp_32767 ?_
  refine V_iand d_X12_drawn_34 ?_
  refine V_iload_n d_X12_drawn_35 rfl rfl ?_
  obtain ⟨t4, ht4, hf⟩ := ob hf
  obtain ⟨gt4, ht4⟩ := rm_some ht4
  refine V_irem d_X12_drawn_36 gt4 ?_
  rw [ht4]
  cases hf
  exact R_i hK d_X12_drawn_37 (Nat.le_of_ble_eq_true rfl) (Nat.le_of_ble_eq_true rfl)
theorem s_X12_drawn {G : Gl} (hG : G.1.stackTraces = false) {μ : Mem} {p1 : Int32} {r : (Int32 × Mem)} (hf : f_X12_drawn μ p1 = some r) : Rt G yX12_drawn F_X12_drawn (some .int) [.ref (G.2.1 + 264), .int p1] μ (some (.int r.1)) r.2 := fun n => Sd.of hG ⟨by decide +kernel, rfl, rfl⟩ rfl (Nat.le_of_ble_eq_true rfl) rfl (fun C hK => s_X12_drawn_e hG hf hK)
theorem d_X12_feed_0 : decode F_X12_feed.2.1 0 = .ok (.aload_n 0, 1) := by decide +kernel
theorem d_X12_feed_1 : decode F_X12_feed.2.1 1 = .ok (.iconst 0, 1) := by decide +kernel
theorem d_X12_feed_2 : decode F_X12_feed.2.1 2 = .ok (.putfield 3, 3) := by decide +kernel
theorem d_X12_feed_5 : decode F_X12_feed.2.1 5 = .ok (.aload_n 0, 1) := by decide +kernel
theorem d_X12_feed_6 : decode F_X12_feed.2.1 6 = .ok (.getfield 93, 3) := by decide +kernel
theorem d_X12_feed_9 : decode F_X12_feed.2.1 9 = .ok (.bipush 20, 2) := by decide +kernel
theorem d_X12_feed_11 : decode F_X12_feed.2.1 11 = .ok (.iadd, 1) := by decide +kernel
theorem d_X12_feed_12 : decode F_X12_feed.2.1 12 = .ok (.sipush 400, 3) := by decide +kernel
theorem d_X12_feed_15 : decode F_X12_feed.2.1 15 = .ok (.if_icmp .le 5, 3) := by decide +kernel
theorem d_X12_feed_18 : decode F_X12_feed.2.1 18 = .ok (.iconst (-1), 1) := by decide +kernel
theorem d_X12_feed_19 : decode F_X12_feed.2.1 19 = .ok (.ireturn, 1) := by decide +kernel
theorem d_X12_feed_20 : decode F_X12_feed.2.1 20 = .ok (.aload_n 0, 1) := by decide +kernel
theorem d_X12_feed_21 : decode F_X12_feed.2.1 21 = .ok (.getfield 36, 3) := by decide +kernel
theorem d_X12_feed_24 : decode F_X12_feed.2.1 24 = .ok (.iconst 0, 1) := by decide +kernel
theorem d_X12_feed_25 : decode F_X12_feed.2.1 25 = .ok (.iload_n 1, 1) := by decide +kernel
theorem d_X12_feed_26 : decode F_X12_feed.2.1 26 = .ok (.iastore, 1) := by decide +kernel
theorem d_X12_feed_27 : decode F_X12_feed.2.1 27 = .ok (.aload_n 0, 1) := by decide +kernel
theorem d_X12_feed_28 : decode F_X12_feed.2.1 28 = .ok (.getfield 36, 3) := by decide +kernel
theorem d_X12_feed_31 : decode F_X12_feed.2.1 31 = .ok (.iconst 1, 1) := by decide +kernel
theorem d_X12_feed_32 : decode F_X12_feed.2.1 32 = .ok (.iload_n 2, 1) := by decide +kernel
theorem d_X12_feed_33 : decode F_X12_feed.2.1 33 = .ok (.iastore, 1) := by decide +kernel
theorem d_X12_feed_34 : decode F_X12_feed.2.1 34 = .ok (.aload_n 0, 1) := by decide +kernel
theorem d_X12_feed_35 : decode F_X12_feed.2.1 35 = .ok (.getfield 36, 3) := by decide +kernel
theorem d_X12_feed_38 : decode F_X12_feed.2.1 38 = .ok (.iconst 2, 1) := by decide +kernel
theorem d_X12_feed_39 : decode F_X12_feed.2.1 39 = .ok (.iload_n 3, 1) := by decide +kernel
theorem d_X12_feed_40 : decode F_X12_feed.2.1 40 = .ok (.iastore, 1) := by decide +kernel
theorem d_X12_feed_41 : decode F_X12_feed.2.1 41 = .ok (.aload_n 0, 1) := by decide +kernel
theorem d_X12_feed_42 : decode F_X12_feed.2.1 42 = .ok (.getfield 36, 3) := by decide +kernel
theorem d_X12_feed_45 : decode F_X12_feed.2.1 45 = .ok (.iconst 3, 1) := by decide +kernel
theorem d_X12_feed_46 : decode F_X12_feed.2.1 46 = .ok (.iload 4, 2) := by decide +kernel
theorem d_X12_feed_48 : decode F_X12_feed.2.1 48 = .ok (.iastore, 1) := by decide +kernel
theorem d_X12_feed_49 : decode F_X12_feed.2.1 49 = .ok (.aload_n 0, 1) := by decide +kernel
theorem d_X12_feed_50 : decode F_X12_feed.2.1 50 = .ok (.getfield 36, 3) := by decide +kernel
theorem d_X12_feed_53 : decode F_X12_feed.2.1 53 = .ok (.iconst 4, 1) := by decide +kernel
theorem d_X12_feed_54 : decode F_X12_feed.2.1 54 = .ok (.iload 5, 2) := by decide +kernel
theorem d_X12_feed_56 : decode F_X12_feed.2.1 56 = .ok (.iastore, 1) := by decide +kernel
theorem d_X12_feed_57 : decode F_X12_feed.2.1 57 = .ok (.iconst 0, 1) := by decide +kernel
theorem d_X12_feed_58 : decode F_X12_feed.2.1 58 = .ok (.istore 6, 2) := by decide +kernel
theorem d_X12_feed_60 : decode F_X12_feed.2.1 60 = .ok (.iload 6, 2) := by decide +kernel
theorem d_X12_feed_62 : decode F_X12_feed.2.1 62 = .ok (.bipush 20, 2) := by decide +kernel
theorem d_X12_feed_64 : decode F_X12_feed.2.1 64 = .ok (.if_icmp .ge 42, 3) := by decide +kernel
theorem d_X12_feed_67 : decode F_X12_feed.2.1 67 = .ok (.aload_n 0, 1) := by decide +kernel
theorem d_X12_feed_68 : decode F_X12_feed.2.1 68 = .ok (.getfield 29, 3) := by decide +kernel
theorem d_X12_feed_71 : decode F_X12_feed.2.1 71 = .ok (.aload_n 0, 1) := by decide +kernel
theorem d_X12_feed_72 : decode F_X12_feed.2.1 72 = .ok (.getfield 93, 3) := by decide +kernel
theorem d_X12_feed_75 : decode F_X12_feed.2.1 75 = .ok (.iload 6, 2) := by decide +kernel
theorem d_X12_feed_77 : decode F_X12_feed.2.1 77 = .ok (.iadd, 1) := by decide +kernel
theorem d_X12_feed_78 : decode F_X12_feed.2.1 78 = .ok (.aload_n 0, 1) := by decide +kernel
theorem d_X12_feed_79 : decode F_X12_feed.2.1 79 = .ok (.getfield 36, 3) := by decide +kernel
theorem d_X12_feed_82 : decode F_X12_feed.2.1 82 = .ok (.iload 6, 2) := by decide +kernel
theorem d_X12_feed_84 : decode F_X12_feed.2.1 84 = .ok (.iconst 4, 1) := by decide +kernel
theorem d_X12_feed_85 : decode F_X12_feed.2.1 85 = .ok (.idiv, 1) := by decide +kernel
theorem d_X12_feed_86 : decode F_X12_feed.2.1 86 = .ok (.iaload, 1) := by decide +kernel
theorem d_X12_feed_87 : decode F_X12_feed.2.1 87 = .ok (.bipush 24, 2) := by decide +kernel
theorem d_X12_feed_89 : decode F_X12_feed.2.1 89 = .ok (.bipush 8, 2) := by decide +kernel
theorem d_X12_feed_91 : decode F_X12_feed.2.1 91 = .ok (.iload 6, 2) := by decide +kernel
theorem d_X12_feed_93 : decode F_X12_feed.2.1 93 = .ok (.iconst 4, 1) := by decide +kernel
theorem d_X12_feed_94 : decode F_X12_feed.2.1 94 = .ok (.irem, 1) := by decide +kernel
theorem d_X12_feed_95 : decode F_X12_feed.2.1 95 = .ok (.imul, 1) := by decide +kernel
theorem d_X12_feed_96 : decode F_X12_feed.2.1 96 = .ok (.isub, 1) := by decide +kernel
theorem d_X12_feed_97 : decode F_X12_feed.2.1 97 = .ok (.ishr, 1) := by decide +kernel
theorem d_X12_feed_98 : decode F_X12_feed.2.1 98 = .ok (.i2b, 1) := by decide +kernel
theorem d_X12_feed_99 : decode F_X12_feed.2.1 99 = .ok (.bastore, 1) := by decide +kernel
theorem d_X12_feed_100 : decode F_X12_feed.2.1 100 = .ok (.iinc 6 1, 3) := by decide +kernel
theorem d_X12_feed_103 : decode F_X12_feed.2.1 103 = .ok (.goto (-43), 3) := by decide +kernel
theorem d_X12_feed_106 : decode F_X12_feed.2.1 106 = .ok (.aload_n 0, 1) := by decide +kernel
theorem d_X12_feed_107 : decode F_X12_feed.2.1 107 = .ok (.dup, 1) := by decide +kernel
theorem d_X12_feed_108 : decode F_X12_feed.2.1 108 = .ok (.getfield 93, 3) := by decide +kernel
theorem d_X12_feed_111 : decode F_X12_feed.2.1 111 = .ok (.bipush 20, 2) := by decide +kernel
theorem d_X12_feed_113 : decode F_X12_feed.2.1 113 = .ok (.iadd, 1) := by decide +kernel
theorem d_X12_feed_114 : decode F_X12_feed.2.1 114 = .ok (.putfield 93, 3) := by decide +kernel
theorem d_X12_feed_117 : decode F_X12_feed.2.1 117 = .ok (.aload_n 0, 1) := by decide +kernel
theorem d_X12_feed_118 : decode F_X12_feed.2.1 118 = .ok (.getfield 93, 3) := by decide +kernel
theorem d_X12_feed_121 : decode F_X12_feed.2.1 121 = .ok (.ireturn, 1) := by decide +kernel
def f_X12_feed_b60 (μ : Mem) (l6 : Int32) : Option ((Int32 × Mem) ⊕ Mem) :=
if 20 ≤ l6 then
some (.inr μ)
else
Option.bind (dv l6 4) fun t1 =>
Option.bind (rd μ 271 5 t1) fun t2 =>
Option.bind (rm9 l6 4) fun t3 =>
Option.bind (wr μ 270 400 ((μ 264 9) + l6) ((Int32.toInt8 ((Int32.toInt8 (t2 >>> ((24 - (8 * t3)) &&& 31))).toInt32)).toInt32)) fun μ4 =>
some (.inl ((l6 + 1), μ4))
def f_X12_feed_j106 (μ : Mem) : Option (Int32 × Mem) :=
some (((mset μ 264 9 ((μ 264 9) + 20)) 264 9), (mset μ 264 9 ((μ 264 9) + 20)))
def f_X12_feed_l60 (μ : Mem) (l6 : Int32) : Option (Int32 × Mem) := Option.bind (loopN 10000 (fun z : (Int32 × Mem) => f_X12_feed_b60 z.2 z.1) (l6, μ)) fun t : Mem => f_X12_feed_j106 t
def f_X12_feed (μ : Mem) (p1 : Int32) (p2 : Int32) (p3 : Int32) (p4 : Int32) (p5 : Int32) : Option (Int32 × Mem) :=
if (((mset μ 264 0 0) 264 9) + 20) ≤ 400 then
Option.bind (wr (mset μ 264 0 0) 271 5 0 p1) fun μ1 =>
Option.bind (wr μ1 271 5 1 p2) fun μ2 =>
Option.bind (wr μ2 271 5 2 p3) fun μ3 =>
Option.bind (wr μ3 271 5 3 p4) fun μ4 =>
Option.bind (wr μ4 271 5 4 p5) fun μ5 =>
f_X12_feed_l60 μ5 0
else
some ((-1), (mset μ 264 0 0))
theorem s_X12_feed_b60 {G : Gl} (hG : G.1.stackTraces = false) {C : Cx} {n : Nat} {μ : Mem} {l6 : Int32} {y : ((Int32 × Mem) ⊕ Mem)} (hf : f_X12_feed_b60 μ l6 = some y) (hK : (∀ z', y = .inl z' → ∀ n, V G C F_X12_feed 60 [some (.ref (G.2.1 + 264)), none, none, none, none, none, some (.int z'.1)] [] (pic G z'.2) n 0 0) ∧ (∀ x', y = .inr x' → ∀ n, V G C F_X12_feed 106 [some (.ref (G.2.1 + 264)), none, none, none, none, none, none] [] (pic G x') n 0 0)) : V G C F_X12_feed 60 [some (.ref (G.2.1 + 264)), none, none, none, none, none, some (.int l6)] [] (pic G μ) n 0 0 := by
  unfold f_X12_feed_b60 at hf
  refine V_iload d_X12_feed_60 rfl ?_
  refine V_bipush (v := 20) d_X12_feed_62 bp_20 ?_
  refine V_icmp_ge (tgt := 106) d_X12_feed_64 (by decide) (fun c64 => ?_) (fun c64 => ?_)
  · replace hf := iteT c64 hf
    refine V_less (ls' := [some _, none, none, none, none, none, none]) ⟨rfl, trivial⟩ ?_
    cases hf
    exact hK.2 _ rfl _
  · replace hf := iteF c64 hf
    refine V_aload_n d_X12_feed_67 rfl rfl ?_
    refine B_get k_264 fl_RX12_29 d_X12_feed_68 g_12_8 ?_
    refine V_aload_n d_X12_feed_71 rfl rfl ?_
    refine B_get k_264 fl_RX12_93 d_X12_feed_72 g_12_9 ?_
    refine V_iload d_X12_feed_75 rfl ?_
    refine V_iadd d_X12_feed_77 ?_
    refine V_aload_n d_X12_feed_78 rfl rfl ?_
    refine B_get k_264 fl_RX12_36 d_X12_feed_79 g_12_15 ?_
    refine V_iload d_X12_feed_82 rfl ?_
    refine V_iconst (v := 4) d_X12_feed_84 ic_4 ?_
    obtain ⟨t1, ht1, hf⟩ := ob hf
    obtain ⟨gt1, ht1⟩ := dv_some ht1
    refine V_idiv d_X12_feed_85 gt1 ?_
    rw [ht1]
    obtain ⟨t2, ht2, hf⟩ := ob hf
    refine B_iald k_271 ht2 d_X12_feed_86 ?_
    refine V_bipush (v := 24) d_X12_feed_87 bp_24 ?_
    refine V_bipush (v := 8) d_X12_feed_89 bp_8 ?_
    refine V_iload d_X12_feed_91 rfl ?_
    refine V_iconst (v := 4) d_X12_feed_93 ic_4 ?_
    obtain ⟨t3, ht3, hf⟩ := ob hf
    obtain ⟨gt3, ht3⟩ := rm_some ht3
    refine V_irem d_X12_feed_94 gt3 ?_
    rw [ht3]
    refine V_imul d_X12_feed_95 ?_
    refine V_isub d_X12_feed_96 ?_
    refine V_ishr d_X12_feed_97 ?_
    refine V_i2b d_X12_feed_98 ?_
    obtain ⟨μ4, hμ4, hf⟩ := ob hf
    refine B_bast k_270 hμ4 d_X12_feed_99 ?_
    refine V_iinc (v := (l6 + 1)) (ls' := [_, _, _, _, _, _, _]) d_X12_feed_100 rfl (by rw [ic_1]) rfl ?_
    refine V_goto (tgt := 60) d_X12_feed_103 (by decide) ?_
    refine V_less (ls' := [some _, none, none, none, none, none, some _]) ⟨rfl, rfl, trivial⟩ ?_
    cases hf
    exact hK.1 _ rfl _
theorem s_X12_feed_j106 {G : Gl} (hG : G.1.stackTraces = false) {C : Cx} {n : Nat} {μ : Mem}  {r : (Int32 × Mem)} (hf : f_X12_feed_j106 μ = some r) (hK : FinR G C F_X12_feed (some .int) (some (.int r.1)) r.2) : V G C F_X12_feed 106 [some (.ref (G.2.1 + 264)), none, none, none, none, none, none] [] (pic G μ) n 0 0 := by
  unfold f_X12_feed_j106 at hf
  refine V_aload_n d_X12_feed_106 rfl rfl ?_
  refine V_dup d_X12_feed_107 rfl ?_
  refine B_get k_264 fl_RX12_93 d_X12_feed_108 g_12_9 ?_
  refine V_bipush (v := 20) d_X12_feed_111 bp_20 ?_
  refine V_iadd d_X12_feed_113 ?_
  refine B_putI k_264 fl_RX12_93 pt_12_9 (Nat.le_of_ble_eq_true rfl) p_12_9 d_X12_feed_114 ?_
  refine V_aload_n d_X12_feed_117 rfl rfl ?_
  refine B_get k_264 fl_RX12_93 d_X12_feed_118 g_12_9 ?_
  cases hf
  exact R_i hK d_X12_feed_121 (Nat.le_of_ble_eq_true rfl) (Nat.le_of_ble_eq_true rfl)
theorem s_X12_feed_l60 {G : Gl} (hG : G.1.stackTraces = false) {C : Cx} {n : Nat} {μ : Mem} {l6 : Int32} {r : (Int32 × Mem)} (hf : f_X12_feed_l60 μ l6 = some r) (hK : FinR G C F_X12_feed (some .int) (some (.int r.1)) r.2) : V G C F_X12_feed 60 [some (.ref (G.2.1 + 264)), none, none, none, none, none, some (.int l6)] [] (pic G μ) n 0 0 := by
  unfold f_X12_feed_l60 at hf
  obtain ⟨t, hl, hf⟩ := ob hf
  refine loopV (P := fun z => ∀ n, V G C F_X12_feed 60 [some (.ref (G.2.1 + 264)), none, none, none, none, none, some (.int z.1)] [] (pic G z.2) n 0 0) (t := t) ?_ _ _ hl n
  intro z y' hy hI hT n
  refine s_X12_feed_b60 hG hy ⟨hI, fun x9 ex => ?_⟩
  have ex2 := hT x9 ex
  subst ex2
  intro n
  exact s_X12_feed_j106 hG hf hK
theorem s_X12_feed_e {G : Gl} (hG : G.1.stackTraces = false) {C : Cx} {n : Nat} {μ : Mem} {p1 : Int32} {p2 : Int32} {p3 : Int32} {p4 : Int32} {p5 : Int32} {r : (Int32 × Mem)} (hf : f_X12_feed μ p1 p2 p3 p4 p5 = some r) (hK : FinR G C F_X12_feed (some .int) (some (.int r.1)) r.2) : V G C F_X12_feed 0 [some (.ref (G.2.1 + 264)), some (.int p1), some (.int p2), some (.int p3), some (.int p4), some (.int p5), none] [] (pic G μ) n 0 0 := by
  unfold f_X12_feed at hf
  refine V_aload_n d_X12_feed_0 rfl rfl ?_
  refine V_iconst (v := 0) d_X12_feed_1 ic_0 ?_
  refine B_putI k_264 fl_RX12_3 pt_12_0 (Nat.le_of_ble_eq_true rfl) p_12_0 d_X12_feed_2 ?_
  refine V_aload_n d_X12_feed_5 rfl rfl ?_
  refine B_get k_264 fl_RX12_93 d_X12_feed_6 g_12_9 ?_
  refine V_bipush (v := 20) d_X12_feed_9 bp_20 ?_
  refine V_iadd d_X12_feed_11 ?_
  refine V_sipush (v := 400) d_X12_feed_12 sp_400 ?_
  refine V_icmp_le (tgt := 20) d_X12_feed_15 (by decide) (fun c15 => ?_) (fun c15 => ?_)
  · replace hf := iteT c15 hf
    refine V_aload_n d_X12_feed_20 rfl rfl ?_
    refine B_get k_264 fl_RX12_36 d_X12_feed_21 g_12_15 ?_
    refine V_iconst (v := 0) d_X12_feed_24 ic_0 ?_
    refine V_iload_n d_X12_feed_25 rfl rfl ?_
    obtain ⟨μ1, hμ1, hf⟩ := ob hf
    refine B_iast k_271 hμ1 d_X12_feed_26 ?_
    refine V_aload_n d_X12_feed_27 rfl rfl ?_
    refine B_get k_264 fl_RX12_36 d_X12_feed_28 g_12_15 ?_
    refine V_iconst (v := 1) d_X12_feed_31 ic_1 ?_
    refine V_iload_n d_X12_feed_32 rfl rfl ?_
    obtain ⟨μ2, hμ2, hf⟩ := ob hf
    refine B_iast k_271 hμ2 d_X12_feed_33 ?_
    refine V_aload_n d_X12_feed_34 rfl rfl ?_
    refine B_get k_264 fl_RX12_36 d_X12_feed_35 g_12_15 ?_
    refine V_iconst (v := 2) d_X12_feed_38 ic_2 ?_
    refine V_iload_n d_X12_feed_39 rfl rfl ?_
    obtain ⟨μ3, hμ3, hf⟩ := ob hf
    refine B_iast k_271 hμ3 d_X12_feed_40 ?_
    refine V_aload_n d_X12_feed_41 rfl rfl ?_
    refine B_get k_264 fl_RX12_36 d_X12_feed_42 g_12_15 ?_
    refine V_iconst (v := 3) d_X12_feed_45 ic_3 ?_
    refine V_iload d_X12_feed_46 rfl ?_
    obtain ⟨μ4, hμ4, hf⟩ := ob hf
    refine B_iast k_271 hμ4 d_X12_feed_48 ?_
    refine V_aload_n d_X12_feed_49 rfl rfl ?_
    refine B_get k_264 fl_RX12_36 d_X12_feed_50 g_12_15 ?_
    refine V_iconst (v := 4) d_X12_feed_53 ic_4 ?_
    refine V_iload d_X12_feed_54 rfl ?_
    obtain ⟨μ5, hμ5, hf⟩ := ob hf
    refine B_iast k_271 hμ5 d_X12_feed_56 ?_
    refine V_iconst (v := 0) d_X12_feed_57 ic_0 ?_
    refine V_istore (ls' := [_, _, _, _, _, _, _]) d_X12_feed_58 rfl rfl ?_
    refine V_less (ls' := [some _, none, none, none, none, none, some _]) ⟨rfl, rfl, trivial⟩ ?_
    exact s_X12_feed_l60 hG hf hK
  · replace hf := iteF c15 hf
    refine V_iconst (v := (-1)) d_X12_feed_18 ic_m1 ?_
    cases hf
    exact R_i hK d_X12_feed_19 (Nat.le_of_ble_eq_true rfl) (Nat.le_of_ble_eq_true rfl)
theorem s_X12_feed {G : Gl} (hG : G.1.stackTraces = false) {μ : Mem} {p1 : Int32} {p2 : Int32} {p3 : Int32} {p4 : Int32} {p5 : Int32} {r : (Int32 × Mem)} (hf : f_X12_feed μ p1 p2 p3 p4 p5 = some r) : Rt G yX12_feed F_X12_feed (some .int) [.ref (G.2.1 + 264), .int p1, .int p2, .int p3, .int p4, .int p5] μ (some (.int r.1)) r.2 := fun n => Sd.of hG ⟨by decide +kernel, rfl, rfl⟩ rfl (Nat.le_of_ble_eq_true rfl) rfl (fun C hK => s_X12_feed_e hG hf hK)
theorem d_X12_end_0 : decode F_X12_end.2.1 0 = .ok (.aload_n 0, 1) := by decide +kernel
theorem d_X12_end_1 : decode F_X12_end.2.1 1 = .ok (.iconst 0, 1) := by decide +kernel
theorem d_X12_end_2 : decode F_X12_end.2.1 2 = .ok (.putfield 3, 3) := by decide +kernel
theorem d_X12_end_5 : decode F_X12_end.2.1 5 = .ok (.iload_n 1, 1) := by decide +kernel
theorem d_X12_end_6 : decode F_X12_end.2.1 6 = .ok (.ifCond .lt 11, 3) := by decide +kernel
theorem d_X12_end_9 : decode F_X12_end.2.1 9 = .ok (.iload_n 1, 1) := by decide +kernel
theorem d_X12_end_10 : decode F_X12_end.2.1 10 = .ok (.aload_n 0, 1) := by decide +kernel
theorem d_X12_end_11 : decode F_X12_end.2.1 11 = .ok (.getfield 93, 3) := by decide +kernel
theorem d_X12_end_14 : decode F_X12_end.2.1 14 = .ok (.if_icmp .le 5, 3) := by decide +kernel
theorem d_X12_end_17 : decode F_X12_end.2.1 17 = .ok (.iconst 0, 1) := by decide +kernel
theorem d_X12_end_18 : decode F_X12_end.2.1 18 = .ok (.ireturn, 1) := by decide +kernel
theorem d_X12_end_19 : decode F_X12_end.2.1 19 = .ok (.aload_n 0, 1) := by decide +kernel
theorem d_X12_end_20 : decode F_X12_end.2.1 20 = .ok (.iload_n 1, 1) := by decide +kernel
theorem d_X12_end_21 : decode F_X12_end.2.1 21 = .ok (.putfield 93, 3) := by decide +kernel
theorem d_X12_end_24 : decode F_X12_end.2.1 24 = .ok (.iconst 1, 1) := by decide +kernel
theorem d_X12_end_25 : decode F_X12_end.2.1 25 = .ok (.ireturn, 1) := by decide +kernel
def f_X12_end_j17 (μ : Mem) : Option (Bool × Mem) :=
some (false, μ)
def f_X12_end (μ : Mem) (p1 : Int32) : Option (Bool × Mem) :=
if p1 < 0 then
f_X12_end_j17 (mset μ 264 0 0)
else
if p1 ≤ ((mset μ 264 0 0) 264 9) then
some (true, (mset (mset μ 264 0 0) 264 9 p1))
else
f_X12_end_j17 (mset μ 264 0 0)
theorem s_X12_end_j17 {G : Gl} (hG : G.1.stackTraces = false) {C : Cx} {n : Nat} {μ : Mem}  {r : (Bool × Mem)} (hf : f_X12_end_j17 μ = some r) (hK : FinR G C F_X12_end (some .boolean) (some (.int (b2i r.1))) r.2) : V G C F_X12_end 17 [none, none] [] (pic G μ) n 0 0 := by
  unfold f_X12_end_j17 at hf
  refine V_iconst (v := 0) d_X12_end_17 ic_0 ?_
  cases hf
  exact R_z hK d_X12_end_18 (Nat.le_of_ble_eq_true rfl) (Nat.le_of_ble_eq_true rfl)
theorem s_X12_end_e {G : Gl} (hG : G.1.stackTraces = false) {C : Cx} {n : Nat} {μ : Mem} {p1 : Int32} {r : (Bool × Mem)} (hf : f_X12_end μ p1 = some r) (hK : FinR G C F_X12_end (some .boolean) (some (.int (b2i r.1))) r.2) : V G C F_X12_end 0 [some (.ref (G.2.1 + 264)), some (.int p1)] [] (pic G μ) n 0 0 := by
  unfold f_X12_end at hf
  refine V_aload_n d_X12_end_0 rfl rfl ?_
  refine V_iconst (v := 0) d_X12_end_1 ic_0 ?_
  refine B_putI k_264 fl_RX12_3 pt_12_0 (Nat.le_of_ble_eq_true rfl) p_12_0 d_X12_end_2 ?_
  refine V_iload_n d_X12_end_5 rfl rfl ?_
  refine V_if_lt (tgt := 17) d_X12_end_6 (by decide) (fun c6 => ?_) (fun c6 => ?_)
  · replace hf := iteT c6 hf
    refine V_less (ls' := [none, none]) trivial ?_
    exact s_X12_end_j17 hG hf hK
  · replace hf := iteF c6 hf
    refine V_iload_n d_X12_end_9 rfl rfl ?_
    refine V_aload_n d_X12_end_10 rfl rfl ?_
    refine B_get k_264 fl_RX12_93 d_X12_end_11 g_12_9 ?_
    refine V_icmp_le (tgt := 19) d_X12_end_14 (by decide) (fun c14 => ?_) (fun c14 => ?_)
    · replace hf := iteT c14 hf
      refine V_aload_n d_X12_end_19 rfl rfl ?_
      refine V_iload_n d_X12_end_20 rfl rfl ?_
      refine B_putI k_264 fl_RX12_93 pt_12_9 (Nat.le_of_ble_eq_true rfl) p_12_9 d_X12_end_21 ?_
      refine V_iconst (v := 1) d_X12_end_24 ic_1 ?_
      cases hf
      exact R_z hK d_X12_end_25 (Nat.le_of_ble_eq_true rfl) (Nat.le_of_ble_eq_true rfl)
    · replace hf := iteF c14 hf
      refine V_less (ls' := [none, none]) trivial ?_
      exact s_X12_end_j17 hG hf hK
theorem s_X12_end {G : Gl} (hG : G.1.stackTraces = false) {μ : Mem} {p1 : Int32} {r : (Bool × Mem)} (hf : f_X12_end μ p1 = some r) : Rt G yX12_end F_X12_end (some .boolean) [.ref (G.2.1 + 264), .int p1] μ (some (.int (b2i r.1))) r.2 := fun n => Sd.of hG ⟨by decide +kernel, rfl, rfl⟩ rfl (Nat.le_of_ble_eq_true rfl) rfl (fun C hK => s_X12_end_e hG hf hK)
theorem d_X12_isAt_0 : decode F_X12_isAt.2.1 0 = .ok (.aload_n 0, 1) := by decide +kernel
theorem d_X12_isAt_1 : decode F_X12_isAt.2.1 1 = .ok (.getfield 96, 3) := by decide +kernel
theorem d_X12_isAt_4 : decode F_X12_isAt.2.1 4 = .ok (.aload_n 0, 1) := by decide +kernel
theorem d_X12_isAt_5 : decode F_X12_isAt.2.1 5 = .ok (.getfield 99, 3) := by decide +kernel
theorem d_X12_isAt_8 : decode F_X12_isAt.2.1 8 = .ok (.if_icmp .ge 33, 3) := by decide +kernel
theorem d_X12_isAt_11 : decode F_X12_isAt.2.1 11 = .ok (.aload_n 0, 1) := by decide +kernel
theorem d_X12_isAt_12 : decode F_X12_isAt.2.1 12 = .ok (.getfield 29, 3) := by decide +kernel
theorem d_X12_isAt_15 : decode F_X12_isAt.2.1 15 = .ok (.aload_n 0, 1) := by decide +kernel
theorem d_X12_isAt_16 : decode F_X12_isAt.2.1 16 = .ok (.getfield 96, 3) := by decide +kernel
theorem d_X12_isAt_19 : decode F_X12_isAt.2.1 19 = .ok (.baload, 1) := by decide +kernel
theorem d_X12_isAt_20 : decode F_X12_isAt.2.1 20 = .ok (.iload_n 1, 1) := by decide +kernel
theorem d_X12_isAt_21 : decode F_X12_isAt.2.1 21 = .ok (.if_icmp .lt 20, 3) := by decide +kernel
theorem d_X12_isAt_24 : decode F_X12_isAt.2.1 24 = .ok (.aload_n 0, 1) := by decide +kernel
theorem d_X12_isAt_25 : decode F_X12_isAt.2.1 25 = .ok (.getfield 29, 3) := by decide +kernel
theorem d_X12_isAt_28 : decode F_X12_isAt.2.1 28 = .ok (.aload_n 0, 1) := by decide +kernel
theorem d_X12_isAt_29 : decode F_X12_isAt.2.1 29 = .ok (.getfield 96, 3) := by decide +kernel
theorem d_X12_isAt_32 : decode F_X12_isAt.2.1 32 = .ok (.baload, 1) := by decide +kernel
theorem d_X12_isAt_33 : decode F_X12_isAt.2.1 33 = .ok (.iload_n 2, 1) := by decide +kernel
theorem d_X12_isAt_34 : decode F_X12_isAt.2.1 34 = .ok (.if_icmp .gt 7, 3) := by decide +kernel
theorem d_X12_isAt_37 : decode F_X12_isAt.2.1 37 = .ok (.iconst 1, 1) := by decide +kernel
theorem d_X12_isAt_38 : decode F_X12_isAt.2.1 38 = .ok (.goto 4, 3) := by decide +kernel
theorem d_X12_isAt_41 : decode F_X12_isAt.2.1 41 = .ok (.iconst 0, 1) := by decide +kernel
theorem d_X12_isAt_42 : decode F_X12_isAt.2.1 42 = .ok (.ireturn, 1) := by decide +kernel
def f_X12_isAt_j42 (μ : Mem) (k0 : Bool) : Option Bool :=
some k0
def f_X12_isAt_j41 (μ : Mem) : Option Bool :=
f_X12_isAt_j42 μ false
def f_X12_isAt (μ : Mem) (p1 : Int32) (p2 : Int32) : Option Bool :=
if (μ 264 11) ≤ (μ 264 10) then
f_X12_isAt_j41 μ
else
Option.bind (rd μ 270 400 (μ 264 10)) fun t1 =>
if t1 < p1 then
f_X12_isAt_j41 μ
else
Option.bind (rd μ 270 400 (μ 264 10)) fun t2 =>
some (if p2 < t2 then false else true)
theorem s_X12_isAt_j42 {G : Gl} (hG : G.1.stackTraces = false) {C : Cx} {n : Nat} {μ : Mem} {k0 : Bool} {r : Bool} (hf : f_X12_isAt_j42 μ k0 = some r) (hK : FinR G C F_X12_isAt (some .boolean) (some (.int (b2i r))) μ) : V G C F_X12_isAt 42 [none, none, none] [.int (b2i k0)] (pic G μ) n 0 0 := by
  unfold f_X12_isAt_j42 at hf
  cases hf
  exact R_z hK d_X12_isAt_42 (Nat.le_of_ble_eq_true rfl) (Nat.le_of_ble_eq_true rfl)
theorem s_X12_isAt_j41 {G : Gl} (hG : G.1.stackTraces = false) {C : Cx} {n : Nat} {μ : Mem}  {r : Bool} (hf : f_X12_isAt_j41 μ = some r) (hK : FinR G C F_X12_isAt (some .boolean) (some (.int (b2i r))) μ) : V G C F_X12_isAt 41 [none, none, none] [] (pic G μ) n 0 0 := by
  unfold f_X12_isAt_j41 at hf
  refine V_iconst (v := 0) d_X12_isAt_41 ic_0 ?_
  refine V_less (ls' := [none, none, none]) trivial ?_
  exact s_X12_isAt_j42 hG hf hK
theorem s_X12_isAt_e {G : Gl} (hG : G.1.stackTraces = false) {C : Cx} {n : Nat} {μ : Mem} {p1 : Int32} {p2 : Int32} {r : Bool} (hf : f_X12_isAt μ p1 p2 = some r) (hK : FinR G C F_X12_isAt (some .boolean) (some (.int (b2i r))) μ) : V G C F_X12_isAt 0 [some (.ref (G.2.1 + 264)), some (.int p1), some (.int p2)] [] (pic G μ) n 0 0 := by
  unfold f_X12_isAt at hf
  refine V_aload_n d_X12_isAt_0 rfl rfl ?_
  refine B_get k_264 fl_RX12_96 d_X12_isAt_1 g_12_10 ?_
  refine V_aload_n d_X12_isAt_4 rfl rfl ?_
  refine B_get k_264 fl_RX12_99 d_X12_isAt_5 g_12_11 ?_
  refine V_icmp_ge (tgt := 41) d_X12_isAt_8 (by decide) (fun c8 => ?_) (fun c8 => ?_)
  · replace hf := iteT c8 hf
    refine V_less (ls' := [none, none, none]) trivial ?_
    exact s_X12_isAt_j41 hG hf hK
  · replace hf := iteF c8 hf
    refine V_aload_n d_X12_isAt_11 rfl rfl ?_
    refine B_get k_264 fl_RX12_29 d_X12_isAt_12 g_12_8 ?_
    refine V_aload_n d_X12_isAt_15 rfl rfl ?_
    refine B_get k_264 fl_RX12_96 d_X12_isAt_16 g_12_10 ?_
    obtain ⟨t1, ht1, hf⟩ := ob hf
    refine B_bald k_270 ht1 d_X12_isAt_19 ?_
    refine V_iload_n d_X12_isAt_20 rfl rfl ?_
    refine V_icmp_lt (tgt := 41) d_X12_isAt_21 (by decide) (fun c21 => ?_) (fun c21 => ?_)
    · replace hf := iteT c21 hf
      refine V_less (ls' := [none, none, none]) trivial ?_
      exact s_X12_isAt_j41 hG hf hK
    · replace hf := iteF c21 hf
      refine V_aload_n d_X12_isAt_24 rfl rfl ?_
      refine B_get k_264 fl_RX12_29 d_X12_isAt_25 g_12_8 ?_
      refine V_aload_n d_X12_isAt_28 rfl rfl ?_
      refine B_get k_264 fl_RX12_96 d_X12_isAt_29 g_12_10 ?_
      obtain ⟨t2, ht2, hf⟩ := ob hf
      refine B_bald k_270 ht2 d_X12_isAt_32 ?_
      refine V_iload_n d_X12_isAt_33 rfl rfl ?_
      have hJj3 : ∀ j3 : Bool, j3 = (if p2 < t2 then false else true) → V G C F_X12_isAt 42 [none, none, none] [.int (b2i j3)] (pic G μ) n 0 0 := by
        intro j3 ej3
        subst ej3
        cases hf
        exact R_z hK d_X12_isAt_42 (Nat.le_of_ble_eq_true rfl) (Nat.le_of_ble_eq_true rfl)
      refine V_icmp_gt (tgt := 41) d_X12_isAt_34 (by decide) (fun c34 => ?_) (fun c34 => ?_)
      · refine V_iconst (v := 0) d_X12_isAt_41 ic_0 ?_
        refine V_less (ls' := [none, none, none]) trivial ?_
        exact hJj3 false (by rw [if_pos c34])
      · refine V_iconst (v := 1) d_X12_isAt_37 ic_1 ?_
        refine V_goto (tgt := 42) d_X12_isAt_38 (by decide) ?_
        refine V_less (ls' := [none, none, none]) trivial ?_
        exact hJj3 true (by rw [if_neg c34])
theorem s_X12_isAt {G : Gl} (hG : G.1.stackTraces = false) {μ : Mem} {p1 : Int32} {p2 : Int32} {r : Bool} (hf : f_X12_isAt μ p1 p2 = some r) : Rt G yX12_isAt F_X12_isAt (some .boolean) [.ref (G.2.1 + 264), .int p1, .int p2] μ (some (.int (b2i r))) μ := fun n => Sd.of hG ⟨by decide +kernel, rfl, rfl⟩ rfl (Nat.le_of_ble_eq_true rfl) rfl (fun C hK => s_X12_isAt_e hG hf hK)
theorem d_X12_blanks_0 : decode F_X12_blanks.2.1 0 = .ok (.aload_n 0, 1) := by decide +kernel
theorem d_X12_blanks_1 : decode F_X12_blanks.2.1 1 = .ok (.bipush 32, 2) := by decide +kernel
theorem d_X12_blanks_3 : decode F_X12_blanks.2.1 3 = .ok (.bipush 32, 2) := by decide +kernel
theorem d_X12_blanks_5 : decode F_X12_blanks.2.1 5 = .ok (.invokevirtual 102, 3) := by decide +kernel
theorem d_X12_blanks_8 : decode F_X12_blanks.2.1 8 = .ok (.ifCond .eq 16, 3) := by decide +kernel
theorem d_X12_blanks_11 : decode F_X12_blanks.2.1 11 = .ok (.aload_n 0, 1) := by decide +kernel
theorem d_X12_blanks_12 : decode F_X12_blanks.2.1 12 = .ok (.dup, 1) := by decide +kernel
theorem d_X12_blanks_13 : decode F_X12_blanks.2.1 13 = .ok (.getfield 96, 3) := by decide +kernel
theorem d_X12_blanks_16 : decode F_X12_blanks.2.1 16 = .ok (.iconst 1, 1) := by decide +kernel
theorem d_X12_blanks_17 : decode F_X12_blanks.2.1 17 = .ok (.iadd, 1) := by decide +kernel
theorem d_X12_blanks_18 : decode F_X12_blanks.2.1 18 = .ok (.putfield 96, 3) := by decide +kernel
theorem d_X12_blanks_21 : decode F_X12_blanks.2.1 21 = .ok (.goto (-21), 3) := by decide +kernel
theorem d_X12_blanks_24 : decode F_X12_blanks.2.1 24 = .ok (.aload_n 0, 1) := by decide +kernel
theorem d_X12_blanks_25 : decode F_X12_blanks.2.1 25 = .ok (.aload_n 0, 1) := by decide +kernel
theorem d_X12_blanks_26 : decode F_X12_blanks.2.1 26 = .ok (.getfield 96, 3) := by decide +kernel
theorem d_X12_blanks_29 : decode F_X12_blanks.2.1 29 = .ok (.putfield 106, 3) := by decide +kernel
theorem d_X12_blanks_32 : decode F_X12_blanks.2.1 32 = .ok (.return_, 1) := by decide +kernel
def f_X12_blanks_b0 (μ : Mem) : Option (Mem ⊕ Mem) :=
Option.bind (f_X12_isAt μ 32 32) fun t1 =>
if t1 = true then
some (.inl (mset μ 264 10 ((μ 264 10) + 1)))
else
some (.inr μ)
def f_X12_blanks_j24 (μ : Mem) : Option Mem :=
some (mset μ 264 12 (μ 264 10))
def f_X12_blanks_l0 (μ : Mem) : Option Mem := Option.bind (loopN 10000 (fun z : Mem => f_X12_blanks_b0 z) μ) fun t : Mem => f_X12_blanks_j24 t
def f_X12_blanks (μ : Mem) : Option Mem :=
Option.bind (f_X12_isAt μ 32 32) fun t1 =>
if t1 = true then
f_X12_blanks_l0 (mset μ 264 10 ((μ 264 10) + 1))
else
some (mset μ 264 12 (μ 264 10))
theorem s_X12_blanks_b0 {G : Gl} (hG : G.1.stackTraces = false) {C : Cx} {n : Nat} {μ : Mem}  {y : (Mem ⊕ Mem)} (hf : f_X12_blanks_b0 μ = some y) (hK : (∀ z', y = .inl z' → ∀ n, V G C F_X12_blanks 0 [some (.ref (G.2.1 + 264))] [] (pic G z') n 0 0) ∧ (∀ x', y = .inr x' → ∀ n, V G C F_X12_blanks 24 [some (.ref (G.2.1 + 264))] [] (pic G x') n 0 0)) : V G C F_X12_blanks 0 [some (.ref (G.2.1 + 264))] [] (pic G μ) n 0 0 := by
  unfold f_X12_blanks_b0 at hf
  refine V_aload_n d_X12_blanks_0 rfl rfl ?_
  refine V_bipush (v := 32) d_X12_blanks_1 bp_32 ?_
  refine V_bipush (v := 32) d_X12_blanks_3 bp_32 ?_
  obtain ⟨t1, ht1, hf⟩ := ob hf
  refine B_callV1 (s_X12_isAt hG ht1) k_264 clX12 m_X12_isAt kv_RX12_102 d_X12_blanks_5 rfl (Nat.le_of_ble_eq_true rfl) ⟨rfl, rfl, Nat.le_of_ble_eq_true rfl, Nat.le_of_ble_eq_true rfl, Nat.le_of_ble_eq_true rfl⟩ (fun n => ?_)
  refine V_if_eq (tgt := 24) d_X12_blanks_8 (by decide) (fun c8 => ?_) (fun c8 => ?_)
  · replace hf := iteF (b2i_nt (b2i_eq0 c8)) hf
    refine V_less (ls' := [some _]) ⟨rfl, trivial⟩ ?_
    cases hf
    exact hK.2 _ rfl _
  · replace hf := iteT (b2i_ne0 c8) hf
    refine V_aload_n d_X12_blanks_11 rfl rfl ?_
    refine V_dup d_X12_blanks_12 rfl ?_
    refine B_get k_264 fl_RX12_96 d_X12_blanks_13 g_12_10 ?_
    refine V_iconst (v := 1) d_X12_blanks_16 ic_1 ?_
    refine V_iadd d_X12_blanks_17 ?_
    refine B_putI k_264 fl_RX12_96 pt_12_10 (Nat.le_of_ble_eq_true rfl) p_12_10 d_X12_blanks_18 ?_
    refine V_goto (tgt := 0) d_X12_blanks_21 (by decide) ?_
    refine V_less (ls' := [some _]) ⟨rfl, trivial⟩ ?_
    cases hf
    exact hK.1 _ rfl _
theorem s_X12_blanks_j24 {G : Gl} (hG : G.1.stackTraces = false) {C : Cx} {n : Nat} {μ : Mem}  {r : Mem} (hf : f_X12_blanks_j24 μ = some r) (hK : FinR G C F_X12_blanks none none r) : V G C F_X12_blanks 24 [some (.ref (G.2.1 + 264))] [] (pic G μ) n 0 0 := by
  unfold f_X12_blanks_j24 at hf
  refine V_aload_n d_X12_blanks_24 rfl rfl ?_
  refine V_aload_n d_X12_blanks_25 rfl rfl ?_
  refine B_get k_264 fl_RX12_96 d_X12_blanks_26 g_12_10 ?_
  refine B_putI k_264 fl_RX12_106 pt_12_12 (Nat.le_of_ble_eq_true rfl) p_12_12 d_X12_blanks_29 ?_
  cases hf
  exact R_v hK d_X12_blanks_32 (Nat.le_of_ble_eq_true rfl) (Nat.le_of_ble_eq_true rfl)
theorem s_X12_blanks_l0 {G : Gl} (hG : G.1.stackTraces = false) {C : Cx} {n : Nat} {μ : Mem}  {r : Mem} (hf : f_X12_blanks_l0 μ = some r) (hK : FinR G C F_X12_blanks none none r) : V G C F_X12_blanks 0 [some (.ref (G.2.1 + 264))] [] (pic G μ) n 0 0 := by
  unfold f_X12_blanks_l0 at hf
  obtain ⟨t, hl, hf⟩ := ob hf
  refine loopV (P := fun z => ∀ n, V G C F_X12_blanks 0 [some (.ref (G.2.1 + 264))] [] (pic G z) n 0 0) (t := t) ?_ _ _ hl n
  intro z y' hy hI hT n
  refine s_X12_blanks_b0 hG hy ⟨hI, fun x9 ex => ?_⟩
  have ex2 := hT x9 ex
  subst ex2
  intro n
  exact s_X12_blanks_j24 hG hf hK
theorem s_X12_blanks_e {G : Gl} (hG : G.1.stackTraces = false) {C : Cx} {n : Nat} {μ : Mem}  {r : Mem} (hf : f_X12_blanks μ = some r) (hK : FinR G C F_X12_blanks none none r) : V G C F_X12_blanks 0 [some (.ref (G.2.1 + 264))] [] (pic G μ) n 0 0 := by
  unfold f_X12_blanks at hf
  refine V_aload_n d_X12_blanks_0 rfl rfl ?_
  refine V_bipush (v := 32) d_X12_blanks_1 bp_32 ?_
  refine V_bipush (v := 32) d_X12_blanks_3 bp_32 ?_
  obtain ⟨t1, ht1, hf⟩ := ob hf
  refine B_callV1 (s_X12_isAt hG ht1) k_264 clX12 m_X12_isAt kv_RX12_102 d_X12_blanks_5 rfl (Nat.le_of_ble_eq_true rfl) ⟨rfl, rfl, Nat.le_of_ble_eq_true rfl, Nat.le_of_ble_eq_true rfl, Nat.le_of_ble_eq_true rfl⟩ (fun n => ?_)
  refine V_if_eq (tgt := 24) d_X12_blanks_8 (by decide) (fun c8 => ?_) (fun c8 => ?_)
  · replace hf := iteF (b2i_nt (b2i_eq0 c8)) hf
    refine V_aload_n d_X12_blanks_24 rfl rfl ?_
    refine V_aload_n d_X12_blanks_25 rfl rfl ?_
    refine B_get k_264 fl_RX12_96 d_X12_blanks_26 g_12_10 ?_
    refine B_putI k_264 fl_RX12_106 pt_12_12 (Nat.le_of_ble_eq_true rfl) p_12_12 d_X12_blanks_29 ?_
    cases hf
    exact R_v hK d_X12_blanks_32 (Nat.le_of_ble_eq_true rfl) (Nat.le_of_ble_eq_true rfl)
  · replace hf := iteT (b2i_ne0 c8) hf
    refine V_aload_n d_X12_blanks_11 rfl rfl ?_
    refine V_dup d_X12_blanks_12 rfl ?_
    refine B_get k_264 fl_RX12_96 d_X12_blanks_13 g_12_10 ?_
    refine V_iconst (v := 1) d_X12_blanks_16 ic_1 ?_
    refine V_iadd d_X12_blanks_17 ?_
    refine B_putI k_264 fl_RX12_96 pt_12_10 (Nat.le_of_ble_eq_true rfl) p_12_10 d_X12_blanks_18 ?_
    refine V_goto (tgt := 0) d_X12_blanks_21 (by decide) ?_
    refine V_less (ls' := [some _]) ⟨rfl, trivial⟩ ?_
    exact s_X12_blanks_l0 hG hf hK
theorem s_X12_blanks {G : Gl} (hG : G.1.stackTraces = false) {μ : Mem} {r : Mem} (hf : f_X12_blanks μ = some r) : Rt G yX12_blanks F_X12_blanks none [.ref (G.2.1 + 264)] μ none r := fun n => Sd.of hG ⟨by decide +kernel, rfl, rfl⟩ rfl (Nat.le_of_ble_eq_true rfl) rfl (fun C hK => s_X12_blanks_e hG hf hK)
theorem d_X12_letters_0 : decode F_X12_letters.2.1 0 = .ok (.aload_n 0, 1) := by decide +kernel
theorem d_X12_letters_1 : decode F_X12_letters.2.1 1 = .ok (.invokevirtual 109, 3) := by decide +kernel
theorem d_X12_letters_4 : decode F_X12_letters.2.1 4 = .ok (.aload_n 0, 1) := by decide +kernel
theorem d_X12_letters_5 : decode F_X12_letters.2.1 5 = .ok (.bipush 97, 2) := by decide +kernel
theorem d_X12_letters_7 : decode F_X12_letters.2.1 7 = .ok (.bipush 122, 2) := by decide +kernel
theorem d_X12_letters_9 : decode F_X12_letters.2.1 9 = .ok (.invokevirtual 102, 3) := by decide +kernel
theorem d_X12_letters_12 : decode F_X12_letters.2.1 12 = .ok (.ifCond .eq 16, 3) := by decide +kernel
theorem d_X12_letters_15 : decode F_X12_letters.2.1 15 = .ok (.aload_n 0, 1) := by decide +kernel
theorem d_X12_letters_16 : decode F_X12_letters.2.1 16 = .ok (.dup, 1) := by decide +kernel
theorem d_X12_letters_17 : decode F_X12_letters.2.1 17 = .ok (.getfield 96, 3) := by decide +kernel
theorem d_X12_letters_20 : decode F_X12_letters.2.1 20 = .ok (.iconst 1, 1) := by decide +kernel
theorem d_X12_letters_21 : decode F_X12_letters.2.1 21 = .ok (.iadd, 1) := by decide +kernel
theorem d_X12_letters_22 : decode F_X12_letters.2.1 22 = .ok (.putfield 96, 3) := by decide +kernel
theorem d_X12_letters_25 : decode F_X12_letters.2.1 25 = .ok (.goto (-21), 3) := by decide +kernel
theorem d_X12_letters_28 : decode F_X12_letters.2.1 28 = .ok (.return_, 1) := by decide +kernel
def f_X12_letters_b4 (μ : Mem) : Option (Mem ⊕ Mem) :=
Option.bind (f_X12_isAt μ 97 122) fun t1 =>
if t1 = true then
some (.inl (mset μ 264 10 ((μ 264 10) + 1)))
else
some (.inr μ)
def f_X12_letters_j28 (μ : Mem) : Option Mem :=
some μ
def f_X12_letters_l4 (μ : Mem) : Option Mem := Option.bind (loopN 10000 (fun z : Mem => f_X12_letters_b4 z) μ) fun t : Mem => f_X12_letters_j28 t
def f_X12_letters (μ : Mem) : Option Mem :=
Option.bind (f_X12_blanks μ) fun q1 =>
f_X12_letters_l4 q1
theorem s_X12_letters_b4 {G : Gl} (hG : G.1.stackTraces = false) {C : Cx} {n : Nat} {μ : Mem}  {y : (Mem ⊕ Mem)} (hf : f_X12_letters_b4 μ = some y) (hK : (∀ z', y = .inl z' → ∀ n, V G C F_X12_letters 4 [some (.ref (G.2.1 + 264))] [] (pic G z') n 0 0) ∧ (∀ x', y = .inr x' → ∀ n, V G C F_X12_letters 28 [none] [] (pic G x') n 0 0)) : V G C F_X12_letters 4 [some (.ref (G.2.1 + 264))] [] (pic G μ) n 0 0 := by
  unfold f_X12_letters_b4 at hf
  refine V_aload_n d_X12_letters_4 rfl rfl ?_
  refine V_bipush (v := 97) d_X12_letters_5 bp_97 ?_
  refine V_bipush (v := 122) d_X12_letters_7 bp_122 ?_
  obtain ⟨t1, ht1, hf⟩ := ob hf
  refine B_callV1 (s_X12_isAt hG ht1) k_264 clX12 m_X12_isAt kv_RX12_102 d_X12_letters_9 rfl (Nat.le_of_ble_eq_true rfl) ⟨rfl, rfl, Nat.le_of_ble_eq_true rfl, Nat.le_of_ble_eq_true rfl, Nat.le_of_ble_eq_true rfl⟩ (fun n => ?_)
  refine V_if_eq (tgt := 28) d_X12_letters_12 (by decide) (fun c12 => ?_) (fun c12 => ?_)
  · replace hf := iteF (b2i_nt (b2i_eq0 c12)) hf
    refine V_less (ls' := [none]) trivial ?_
    cases hf
    exact hK.2 _ rfl _
  · replace hf := iteT (b2i_ne0 c12) hf
    refine V_aload_n d_X12_letters_15 rfl rfl ?_
    refine V_dup d_X12_letters_16 rfl ?_
    refine B_get k_264 fl_RX12_96 d_X12_letters_17 g_12_10 ?_
    refine V_iconst (v := 1) d_X12_letters_20 ic_1 ?_
    refine V_iadd d_X12_letters_21 ?_
    refine B_putI k_264 fl_RX12_96 pt_12_10 (Nat.le_of_ble_eq_true rfl) p_12_10 d_X12_letters_22 ?_
    refine V_goto (tgt := 4) d_X12_letters_25 (by decide) ?_
    refine V_less (ls' := [some _]) ⟨rfl, trivial⟩ ?_
    cases hf
    exact hK.1 _ rfl _
theorem s_X12_letters_j28 {G : Gl} (hG : G.1.stackTraces = false) {C : Cx} {n : Nat} {μ : Mem}  {r : Mem} (hf : f_X12_letters_j28 μ = some r) (hK : FinR G C F_X12_letters none none r) : V G C F_X12_letters 28 [none] [] (pic G μ) n 0 0 := by
  unfold f_X12_letters_j28 at hf
  cases hf
  exact R_v hK d_X12_letters_28 (Nat.le_of_ble_eq_true rfl) (Nat.le_of_ble_eq_true rfl)
theorem s_X12_letters_l4 {G : Gl} (hG : G.1.stackTraces = false) {C : Cx} {n : Nat} {μ : Mem}  {r : Mem} (hf : f_X12_letters_l4 μ = some r) (hK : FinR G C F_X12_letters none none r) : V G C F_X12_letters 4 [some (.ref (G.2.1 + 264))] [] (pic G μ) n 0 0 := by
  unfold f_X12_letters_l4 at hf
  obtain ⟨t, hl, hf⟩ := ob hf
  refine loopV (P := fun z => ∀ n, V G C F_X12_letters 4 [some (.ref (G.2.1 + 264))] [] (pic G z) n 0 0) (t := t) ?_ _ _ hl n
  intro z y' hy hI hT n
  refine s_X12_letters_b4 hG hy ⟨hI, fun x9 ex => ?_⟩
  have ex2 := hT x9 ex
  subst ex2
  intro n
  exact s_X12_letters_j28 hG hf hK
theorem s_X12_letters_e {G : Gl} (hG : G.1.stackTraces = false) {C : Cx} {n : Nat} {μ : Mem}  {r : Mem} (hf : f_X12_letters μ = some r) (hK : FinR G C F_X12_letters none none r) : V G C F_X12_letters 0 [some (.ref (G.2.1 + 264))] [] (pic G μ) n 0 0 := by
  unfold f_X12_letters at hf
  refine V_aload_n d_X12_letters_0 rfl rfl ?_
  obtain ⟨q1, hq1, hf⟩ := ob hf
  refine B_callV0 (s_X12_blanks hG hq1) k_264 clX12 m_X12_blanks kv_RX12_109 d_X12_letters_1 rfl (Nat.le_of_ble_eq_true rfl) ⟨rfl, rfl, Nat.le_of_ble_eq_true rfl, Nat.le_of_ble_eq_true rfl, Nat.le_of_ble_eq_true rfl⟩ (fun n => ?_)
  refine V_less (ls' := [some _]) ⟨rfl, trivial⟩ ?_
  exact s_X12_letters_l4 hG hf hK
theorem s_X12_letters {G : Gl} (hG : G.1.stackTraces = false) {μ : Mem} {r : Mem} (hf : f_X12_letters μ = some r) : Rt G yX12_letters F_X12_letters none [.ref (G.2.1 + 264)] μ none r := fun n => Sd.of hG ⟨by decide +kernel, rfl, rfl⟩ rfl (Nat.le_of_ble_eq_true rfl) rfl (fun C hK => s_X12_letters_e hG hf hK)
theorem d_X12_sign_0 : decode F_X12_sign.2.1 0 = .ok (.aload_n 0, 1) := by decide +kernel
theorem d_X12_sign_1 : decode F_X12_sign.2.1 1 = .ok (.invokevirtual 109, 3) := by decide +kernel
theorem d_X12_sign_4 : decode F_X12_sign.2.1 4 = .ok (.aload_n 0, 1) := by decide +kernel
theorem d_X12_sign_5 : decode F_X12_sign.2.1 5 = .ok (.iload_n 1, 1) := by decide +kernel
theorem d_X12_sign_6 : decode F_X12_sign.2.1 6 = .ok (.iload_n 1, 1) := by decide +kernel
theorem d_X12_sign_7 : decode F_X12_sign.2.1 7 = .ok (.invokevirtual 102, 3) := by decide +kernel
theorem d_X12_sign_10 : decode F_X12_sign.2.1 10 = .ok (.ifCond .ne 5, 3) := by decide +kernel
theorem d_X12_sign_13 : decode F_X12_sign.2.1 13 = .ok (.iconst 0, 1) := by decide +kernel
theorem d_X12_sign_14 : decode F_X12_sign.2.1 14 = .ok (.ireturn, 1) := by decide +kernel
theorem d_X12_sign_15 : decode F_X12_sign.2.1 15 = .ok (.aload_n 0, 1) := by decide +kernel
theorem d_X12_sign_16 : decode F_X12_sign.2.1 16 = .ok (.dup, 1) := by decide +kernel
theorem d_X12_sign_17 : decode F_X12_sign.2.1 17 = .ok (.getfield 96, 3) := by decide +kernel
theorem d_X12_sign_20 : decode F_X12_sign.2.1 20 = .ok (.iconst 1, 1) := by decide +kernel
theorem d_X12_sign_21 : decode F_X12_sign.2.1 21 = .ok (.iadd, 1) := by decide +kernel
theorem d_X12_sign_22 : decode F_X12_sign.2.1 22 = .ok (.putfield 96, 3) := by decide +kernel
theorem d_X12_sign_25 : decode F_X12_sign.2.1 25 = .ok (.iconst 1, 1) := by decide +kernel
theorem d_X12_sign_26 : decode F_X12_sign.2.1 26 = .ok (.ireturn, 1) := by decide +kernel
def f_X12_sign (μ : Mem) (p1 : Int32) : Option (Bool × Mem) :=
Option.bind (f_X12_blanks μ) fun q1 =>
Option.bind (f_X12_isAt q1 p1 p1) fun t2 =>
if t2 = true then
some (true, (mset q1 264 10 ((q1 264 10) + 1)))
else
some (false, q1)
theorem s_X12_sign_e {G : Gl} (hG : G.1.stackTraces = false) {C : Cx} {n : Nat} {μ : Mem} {p1 : Int32} {r : (Bool × Mem)} (hf : f_X12_sign μ p1 = some r) (hK : FinR G C F_X12_sign (some .boolean) (some (.int (b2i r.1))) r.2) : V G C F_X12_sign 0 [some (.ref (G.2.1 + 264)), some (.int p1)] [] (pic G μ) n 0 0 := by
  unfold f_X12_sign at hf
  refine V_aload_n d_X12_sign_0 rfl rfl ?_
  obtain ⟨q1, hq1, hf⟩ := ob hf
  refine B_callV0 (s_X12_blanks hG hq1) k_264 clX12 m_X12_blanks kv_RX12_109 d_X12_sign_1 rfl (Nat.le_of_ble_eq_true rfl) ⟨rfl, rfl, Nat.le_of_ble_eq_true rfl, Nat.le_of_ble_eq_true rfl, Nat.le_of_ble_eq_true rfl⟩ (fun n => ?_)
  refine V_aload_n d_X12_sign_4 rfl rfl ?_
  refine V_iload_n d_X12_sign_5 rfl rfl ?_
  refine V_iload_n d_X12_sign_6 rfl rfl ?_
  obtain ⟨t2, ht2, hf⟩ := ob hf
  refine B_callV1 (s_X12_isAt hG ht2) k_264 clX12 m_X12_isAt kv_RX12_102 d_X12_sign_7 rfl (Nat.le_of_ble_eq_true rfl) ⟨rfl, rfl, Nat.le_of_ble_eq_true rfl, Nat.le_of_ble_eq_true rfl, Nat.le_of_ble_eq_true rfl⟩ (fun n => ?_)
  refine V_if_ne (tgt := 15) d_X12_sign_10 (by decide) (fun c10 => ?_) (fun c10 => ?_)
  · replace hf := iteT (b2i_ne0 c10) hf
    refine V_aload_n d_X12_sign_15 rfl rfl ?_
    refine V_dup d_X12_sign_16 rfl ?_
    refine B_get k_264 fl_RX12_96 d_X12_sign_17 g_12_10 ?_
    refine V_iconst (v := 1) d_X12_sign_20 ic_1 ?_
    refine V_iadd d_X12_sign_21 ?_
    refine B_putI k_264 fl_RX12_96 pt_12_10 (Nat.le_of_ble_eq_true rfl) p_12_10 d_X12_sign_22 ?_
    refine V_iconst (v := 1) d_X12_sign_25 ic_1 ?_
    cases hf
    exact R_z hK d_X12_sign_26 (Nat.le_of_ble_eq_true rfl) (Nat.le_of_ble_eq_true rfl)
  · replace hf := iteF (b2i_nt (b2i_eq0 c10)) hf
    refine V_iconst (v := 0) d_X12_sign_13 ic_0 ?_
    cases hf
    exact R_z hK d_X12_sign_14 (Nat.le_of_ble_eq_true rfl) (Nat.le_of_ble_eq_true rfl)
theorem s_X12_sign {G : Gl} (hG : G.1.stackTraces = false) {μ : Mem} {p1 : Int32} {r : (Bool × Mem)} (hf : f_X12_sign μ p1 = some r) : Rt G yX12_sign F_X12_sign (some .boolean) [.ref (G.2.1 + 264), .int p1] μ (some (.int (b2i r.1))) r.2 := fun n => Sd.of hG ⟨by decide +kernel, rfl, rfl⟩ rfl (Nat.le_of_ble_eq_true rfl) rfl (fun C hK => s_X12_sign_e hG hf hK)
