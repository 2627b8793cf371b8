theorem d_X12_pursesOfAll_0 : decode F_X12_pursesOfAll.2.1 0 = .ok (.iconst 0, 1) := by decide +kernel
theorem d_X12_pursesOfAll_1 : decode F_X12_pursesOfAll.2.1 1 = .ok (.istore_n 1, 1) := by decide +kernel
theorem d_X12_pursesOfAll_2 : decode F_X12_pursesOfAll.2.1 2 = .ok (.iconst 0, 1) := by decide +kernel
theorem d_X12_pursesOfAll_3 : decode F_X12_pursesOfAll.2.1 3 = .ok (.istore_n 2, 1) := by decide +kernel
theorem d_X12_pursesOfAll_4 : decode F_X12_pursesOfAll.2.1 4 = .ok (.iload_n 2, 1) := by decide +kernel
theorem d_X12_pursesOfAll_5 : decode F_X12_pursesOfAll.2.1 5 = .ok (.aload_n 0, 1) := by decide +kernel
theorem d_X12_pursesOfAll_6 : decode F_X12_pursesOfAll.2.1 6 = .ok (.invokevirtual 59, 3) := by decide +kernel
theorem d_X12_pursesOfAll_9 : decode F_X12_pursesOfAll.2.1 9 = .ok (.if_icmp .ge 18, 3) := by decide +kernel
theorem d_X12_pursesOfAll_12 : decode F_X12_pursesOfAll.2.1 12 = .ok (.iload_n 1, 1) := by decide +kernel
theorem d_X12_pursesOfAll_13 : decode F_X12_pursesOfAll.2.1 13 = .ok (.aload_n 0, 1) := by decide +kernel
theorem d_X12_pursesOfAll_14 : decode F_X12_pursesOfAll.2.1 14 = .ok (.iload_n 2, 1) := by decide +kernel
theorem d_X12_pursesOfAll_15 : decode F_X12_pursesOfAll.2.1 15 = .ok (.iconst 0, 1) := by decide +kernel
theorem d_X12_pursesOfAll_16 : decode F_X12_pursesOfAll.2.1 16 = .ok (.invokevirtual 84, 3) := by decide +kernel
theorem d_X12_pursesOfAll_19 : decode F_X12_pursesOfAll.2.1 19 = .ok (.iadd, 1) := by decide +kernel
theorem d_X12_pursesOfAll_20 : decode F_X12_pursesOfAll.2.1 20 = .ok (.istore_n 1, 1) := by decide +kernel
theorem d_X12_pursesOfAll_21 : decode F_X12_pursesOfAll.2.1 21 = .ok (.iinc 2 1, 3) := by decide +kernel
theorem d_X12_pursesOfAll_24 : decode F_X12_pursesOfAll.2.1 24 = .ok (.goto (-20), 3) := by decide +kernel
theorem d_X12_pursesOfAll_27 : decode F_X12_pursesOfAll.2.1 27 = .ok (.iload_n 1, 1) := by decide +kernel
theorem d_X12_pursesOfAll_28 : decode F_X12_pursesOfAll.2.1 28 = .ok (.ireturn, 1) := by decide +kernel
def f_X12_pursesOfAll_b4 (μ : Mem) (l1 : Int32) (l2 : Int32) : Option ((Int32 × Int32) ⊕ Int32) :=
Option.bind (f_X12_people μ) fun t1 =>
if t1 ≤ l2 then
some (.inr l1)
else
Option.bind (f_X12_of μ l2 0) fun t2 =>
some (.inl ((l1 + t2), (l2 + 1)))
def f_X12_pursesOfAll_j27 (μ : Mem) (l1 : Int32) : Option Int32 :=
some l1
def f_X12_pursesOfAll_l4 (μ : Mem) (l1 : Int32) (l2 : Int32) : Option Int32 := Option.bind (loopN 10000 (fun z : (Int32 × Int32) => f_X12_pursesOfAll_b4 μ z.1 z.2) (l1, l2)) fun t : Int32 => f_X12_pursesOfAll_j27 μ t
def f_X12_pursesOfAll (μ : Mem) : Option Int32 :=
f_X12_pursesOfAll_l4 μ 0 0
theorem s_X12_pursesOfAll_b4 {G : Gl} (hG : G.1.stackTraces = false) {C : Cx} {n : Nat} {μ : Mem} {l1 : Int32} {l2 : Int32} {y : ((Int32 × Int32) ⊕ Int32)} (hf : f_X12_pursesOfAll_b4 μ l1 l2 = some y) (hK : (∀ z', y = .inl z' → ∀ n, V G C F_X12_pursesOfAll 4 [some (.ref (G.2.1 + 264)), some (.int z'.1), some (.int z'.2)] [] (pic G μ) n 0 0) ∧ (∀ x', y = .inr x' → ∀ n, V G C F_X12_pursesOfAll 27 [none, some (.int x'), none] [] (pic G μ) n 0 0)) : V G C F_X12_pursesOfAll 4 [some (.ref (G.2.1 + 264)), some (.int l1), some (.int l2)] [] (pic G μ) n 0 0 := by
  unfold f_X12_pursesOfAll_b4 at hf
  refine V_iload_n d_X12_pursesOfAll_4 rfl rfl ?_
  refine V_aload_n d_X12_pursesOfAll_5 rfl rfl ?_
  obtain ⟨t1, ht1, hf⟩ := ob hf
  refine B_callV1 (s_X12_people hG ht1) k_264 clX12 m_X12_people kv_RX12_59 d_X12_pursesOfAll_6 rfl (Nat.le_of_ble_eq_true rfl) ⟨rfl, rfl, Nat.le_of_ble_eq_true rfl, Nat.le_of_ble_eq_true rfl, Nat.le_of_ble_eq_true rfl⟩ (fun n => ?_)
  refine V_icmp_ge (tgt := 27) d_X12_pursesOfAll_9 (by decide) (fun c9 => ?_) (fun c9 => ?_)
  · replace hf := iteT c9 hf
    refine V_less (ls' := [none, some _, none]) ⟨rfl, trivial⟩ ?_
    cases hf
    exact hK.2 _ rfl _
  · replace hf := iteF c9 hf
    refine V_iload_n d_X12_pursesOfAll_12 rfl rfl ?_
    refine V_aload_n d_X12_pursesOfAll_13 rfl rfl ?_
    refine V_iload_n d_X12_pursesOfAll_14 rfl rfl ?_
    refine V_iconst (v := 0) d_X12_pursesOfAll_15 ic_0 ?_
    obtain ⟨t2, ht2, hf⟩ := ob hf
    refine B_callV1 (s_X12_of hG ht2) k_264 clX12 m_X12_of kv_RX12_84 d_X12_pursesOfAll_16 rfl (Nat.le_of_ble_eq_true rfl) ⟨rfl, rfl, Nat.le_of_ble_eq_true rfl, Nat.le_of_ble_eq_true rfl, Nat.le_of_ble_eq_true rfl⟩ (fun n => ?_)
    refine V_iadd d_X12_pursesOfAll_19 ?_
    refine V_istore_n (ls' := [_, _, _]) d_X12_pursesOfAll_20 rfl rfl rfl ?_
    refine V_iinc (v := (l2 + 1)) (ls' := [_, _, _]) d_X12_pursesOfAll_21 rfl (by rw [ic_1]) rfl ?_
    refine V_goto (tgt := 4) d_X12_pursesOfAll_24 (by decide) ?_
    refine V_less (ls' := [some _, some _, some _]) ⟨rfl, rfl, rfl, trivial⟩ ?_
    cases hf
    exact hK.1 _ rfl _
theorem s_X12_pursesOfAll_j27 {G : Gl} (hG : G.1.stackTraces = false) {C : Cx} {n : Nat} {μ : Mem} {l1 : Int32} {r : Int32} (hf : f_X12_pursesOfAll_j27 μ l1 = some r) (hK : FinR G C F_X12_pursesOfAll (some .int) (some (.int r)) μ) : V G C F_X12_pursesOfAll 27 [none, some (.int l1), none] [] (pic G μ) n 0 0 := by
  unfold f_X12_pursesOfAll_j27 at hf
  refine V_iload_n d_X12_pursesOfAll_27 rfl rfl ?_
  cases hf
  exact R_i hK d_X12_pursesOfAll_28 (Nat.le_of_ble_eq_true rfl) (Nat.le_of_ble_eq_true rfl)
theorem s_X12_pursesOfAll_l4 {G : Gl} (hG : G.1.stackTraces = false) {C : Cx} {n : Nat} {μ : Mem} {l1 : Int32} {l2 : Int32} {r : Int32} (hf : f_X12_pursesOfAll_l4 μ l1 l2 = some r) (hK : FinR G C F_X12_pursesOfAll (some .int) (some (.int r)) μ) : V G C F_X12_pursesOfAll 4 [some (.ref (G.2.1 + 264)), some (.int l1), some (.int l2)] [] (pic G μ) n 0 0 := by
  unfold f_X12_pursesOfAll_l4 at hf
  obtain ⟨t, hl, hf⟩ := ob hf
  refine loopV (P := fun z => ∀ n, V G C F_X12_pursesOfAll 4 [some (.ref (G.2.1 + 264)), some (.int z.1), some (.int z.2)] [] (pic G μ) n 0 0) (t := t) ?_ _ _ hl n
  intro z y' hy hI hT n
  refine s_X12_pursesOfAll_b4 hG hy ⟨hI, fun x9 ex => ?_⟩
  have ex2 := hT x9 ex
  subst ex2
  intro n
  exact s_X12_pursesOfAll_j27 hG hf hK
theorem s_X12_pursesOfAll_e {G : Gl} (hG : G.1.stackTraces = false) {C : Cx} {n : Nat} {μ : Mem}  {r : Int32} (hf : f_X12_pursesOfAll μ = some r) (hK : FinR G C F_X12_pursesOfAll (some .int) (some (.int r)) μ) : V G C F_X12_pursesOfAll 0 [some (.ref (G.2.1 + 264)), none, none] [] (pic G μ) n 0 0 := by
  unfold f_X12_pursesOfAll at hf
  refine V_iconst (v := 0) d_X12_pursesOfAll_0 ic_0 ?_
  refine V_istore_n (ls' := [_, _, _]) d_X12_pursesOfAll_1 rfl rfl rfl ?_
  refine V_iconst (v := 0) d_X12_pursesOfAll_2 ic_0 ?_
  refine V_istore_n (ls' := [_, _, _]) d_X12_pursesOfAll_3 rfl rfl rfl ?_
  refine V_less (ls' := [some _, some _, some _]) ⟨rfl, rfl, rfl, trivial⟩ ?_
  exact s_X12_pursesOfAll_l4 hG hf hK
theorem s_X12_pursesOfAll {G : Gl} (hG : G.1.stackTraces = false) {μ : Mem} {r : Int32} (hf : f_X12_pursesOfAll μ = some r) : Rt G yX12_pursesOfAll F_X12_pursesOfAll (some .int) [.ref (G.2.1 + 264)] μ (some (.int r)) μ := fun n => Sd.of hG ⟨by decide +kernel, rfl, rfl⟩ rfl (Nat.le_of_ble_eq_true rfl) rfl (fun C hK => s_X12_pursesOfAll_e hG hf hK)
