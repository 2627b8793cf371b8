/-! ROWS OVER A MEMORY -/
def rd (μ : Mem) (a len : Nat) (i : Int32) : Option Int32 := if i < 0 ∨ len ≤ i.toNatClampNeg then none else some (μ a i.toNatClampNeg)
def wr (μ : Mem) (a len : Nat) (i v : Int32) : Option Mem := if i < 0 ∨ len ≤ i.toNatClampNeg then none else some (mset μ a i.toNatClampNeg v)
theorem rd_some {μ : Mem} {a len : Nat} {i v : Int32} (h : rd μ a len i = some v) : vp_in i len ∧ μ a i.toNatClampNeg = v := by
  unfold rd at h
  by_cases hc : i < 0 ∨ len ≤ i.toNatClampNeg
  · rw [if_pos hc] at h; cases h
  · rw [if_neg hc] at h; exact ⟨hc, Option.some.inj h⟩
theorem wr_some {μ μ' : Mem} {a len : Nat} {i v : Int32} (h : wr μ a len i v = some μ') : vp_in i len ∧ mset μ a i.toNatClampNeg v = μ' := by
  unfold wr at h
  by_cases hc : i < 0 ∨ len ≤ i.toNatClampNeg
  · rw [if_pos hc] at h; cases h
  · rw [if_neg hc] at h; exact ⟨hc, Option.some.inj h⟩
def dv (x y : Int32) : Option Int32 := if y = 0 then none else some (x / y)
def rm9 (x y : Int32) : Option Int32 := if y = 0 then none else some (x - x / y * y)
theorem dv_some {x y v : Int32} (h : dv x y = some v) : ¬ y = 0 ∧ x / y = v := by
  unfold dv at h
  by_cases hc : y = 0
  · rw [if_pos hc] at h; cases h
  · rw [if_neg hc] at h; exact ⟨hc, Option.some.inj h⟩
theorem rm_some {x y v : Int32} (h : rm9 x y = some v) : ¬ y = 0 ∧ x - x / y * y = v := by
  unfold rm9 at h
  by_cases hc : y = 0
  · rw [if_pos hc] at h; cases h
  · rw [if_neg hc] at h; exact ⟨hc, Option.some.inj h⟩
def loopN {σ τ : Type} : Nat → (σ → Option (σ ⊕ τ)) → σ → Option τ
  | 0, _, _ => none
  | k + 1, g, s => (g s).bind (fun y => Sum.elim (fun s' => loopN k g s') (fun t => some t) y)
theorem loopV {σ τ : Type} {g : σ → Option (σ ⊕ τ)} {P : σ → Prop} {t : τ} (hs : ∀ s y, g s = some y → (∀ s', y = .inl s' → P s') → (∀ t', y = .inr t' → t' = t) → P s) : ∀ k s, loopN k g s = some t → P s := by
  intro k
  induction k with
  | zero => intro s h; cases h
  | succ k ih =>
    intro s h
    unfold loopN at h
    cases hg : g s with
    | none => rw [hg] at h; cases h
    | some y =>
      rw [hg] at h
      cases y with
      | inl s' => exact hs s _ hg (fun s2 e => by cases e; exact ih s' h) (fun t' e => by cases e)
      | inr t' => exact hs s _ hg (fun s2 e => by cases e) (fun t2 e => by cases e; exact Option.some.inj h)
theorem ob {α β : Type} {o : Option α} {f : α → Option β} {r : β} (h : o.bind f = some r) : ∃ a, o = some a ∧ f a = some r := by
  cases o with
  | none => cases h
  | some a => exact ⟨a, rfl, h⟩
theorem iteT {α : Type} {c : Prop} {d : Decidable c} {a b r : α} (hc : c) (h : (@ite α c d a b) = r) : a = r := by rw [if_pos hc] at h; exact h
theorem iteF {α : Type} {c : Prop} {d : Decidable c} {a b r : α} (hc : ¬ c) (h : (@ite α c d a b) = r) : b = r := by rw [if_neg hc] at h; exact h
theorem b2i_eq0 {b : Bool} (h : b2i b = 0) : b = false := by cases b; rfl; exact absurd h (by decide)
theorem b2i_ne0 {b : Bool} (h : ¬ b2i b = 0) : b = true := by cases b; exact absurd rfl h; rfl
theorem b2i_nt {b : Bool} (h : b = false) : ¬ b = true := by rw [h]; decide
def exN (k : Nat) : String := match k with
  | 1 => "java/lang/IllegalArgumentException"
  | 2 => "java/lang/IndexOutOfBoundsException"
  | 3 => "java/lang/IllegalStateException"
  | 4 => "java/util/NoSuchElementException"
  | _ => "java/lang/UnsupportedOperationException"
/-- the contract of a method that does not throw -/
def Rt (G : Gl) (y : MethodName) (F : Fi) (ret : Option FieldType) (args : List Value) (μ : Mem) (r : Option Value) (μ' : Mem) : Prop := ∀ n, Sd G y F (.code y F.2.1 F.2.2.1 ret) args (pic G μ) n (fun r' h' _ => r' = r ∧ h' = pic G μ') (fun _ _ _ => False)
/-- .. of one that may throw; x: what it comes to -/
def Rx (G : Gl) (y : MethodName) (F : Fi) (cd : Cond) (args : List Value) (μ : Mem) (x : (Nat × Mem) ⊕ (Option Value × Mem)) : Prop := ∀ n, Sd G y F cd args (pic G μ) n (fun r' h' _ => ∃ μ', x = .inr (r', μ') ∧ h' = pic G μ') (fun E h' _ => ∃ k μ', x = .inl (k, μ') ∧ E = exN k ∧ h' = pic G μ')
section Rows4
variable {G : Gl} {C : Cx} {F F' : Fi} {pc : Nat} {ls ls' : List (Option Value)} {st st0 : List Value} {μ μ' : Mem} {n kc ks : Nat}
theorem B_get {idx ci i a : Nat} {v : Value} (hk : kdL[a]? = some (0, ci)) (hf : Fl F.1 idx ci i) (hd : decode F.2.1 pc = .ok (.getfield idx, 3)) (hv : (flds G ci a (μ a))[i]? = some v) (k : V G C F (pc + 3) ls (v :: st) (pic G μ) n kc ks) : V G C F pc ls (.ref (G.2.1 + a) :: st) (pic G μ) n kc ks := V_get hf hd (pic_at hk) hv k
theorem B_getN {idx ci i a : Nat} {v : Value} (hk : kdL[a]? = some (0, ci)) (hf : FlN F.1 idx ci i) (hd : decode F.2.1 pc = .ok (.getfield idx, 3)) (hv : (flds G ci a (μ a))[i]? = some v) (k : V G C F (pc + 3) ls (v :: st) (pic G μ) n kc ks) : V G C F pc ls (.ref (G.2.1 + a) :: st) (pic G μ) n kc ks := V_getN hf hd (pic_at hk) hv k
theorem B_putI {idx ci i a : Nat} {v : Int32} (hk : kdL[a]? = some (0, ci)) (hf : Fl F.1 idx ci i) (hp : Pt9 ci i .int) (hl : i < (flds G ci a (μ a)).length) (he : (flds G ci a (μ a)).set i (.int v) = flds G ci a (upd (μ a) i v)) (hd : decode F.2.1 pc = .ok (.putfield idx, 3)) (k : V G C F (pc + 3) ls st (pic G (mset μ a i v)) n kc ks) : V G C F pc ls (.int v :: .ref (G.2.1 + a) :: st) (pic G μ) n kc ks := by
  refine V_put hf hp hd rfl rfl (pic_at hk) hl ?_
  rw [he]
  rw [← pic_put hk rfl] at k
  exact k
theorem B_putZ {idx ci i a : Nat} {v : Bool} (hk : kdL[a]? = some (0, ci)) (hf : Fl F.1 idx ci i) (hp : Pt9 ci i .boolean) (hl : i < (flds G ci a (μ a)).length) (he : (flds G ci a (μ a)).set i (.int (b2i v)) = flds G ci a (upd (μ a) i (b2i v))) (hd : decode F.2.1 pc = .ok (.putfield idx, 3)) (k : V G C F (pc + 3) ls st (pic G (mset μ a i (b2i v))) n kc ks) : V G C F pc ls (.int (b2i v) :: .ref (G.2.1 + a) :: st) (pic G μ) n kc ks := by
  refine V_put hf hp hd (narrow_b2i v) (by cases v <;> rfl) (pic_at hk) hl ?_
  rw [he]
  rw [← pic_put hk rfl] at k
  exact k
theorem B_iald {a len : Nat} {i v : Int32} (hk : kdL[a]? = some (1, len)) (hv : rd μ a len i = some v) (hd : decode F.2.1 pc = .ok (.iaload, 1)) (k : V G C F (pc + 1) ls (.int v :: st) (pic G μ) n kc ks) : V G C F pc ls (.int i :: .ref (G.2.1 + a) :: st) (pic G μ) n kc ks := by
  obtain ⟨h1, h2⟩ := rd_some hv
  subst h2
  exact V_iald hd (pic_at hk) h1 k
theorem B_bald {a len : Nat} {i v : Int32} (hk : kdL[a]? = some (2, len)) (hv : rd μ a len i = some v) (hd : decode F.2.1 pc = .ok (.baload, 1)) (k : V G C F (pc + 1) ls (.int v :: st) (pic G μ) n kc ks) : V G C F pc ls (.int i :: .ref (G.2.1 + a) :: st) (pic G μ) n kc ks := by
  obtain ⟨h1, h2⟩ := rd_some hv
  subst h2
  exact V_bald hd (pic_at hk) h1 k
theorem B_lald {a len : Nat} {i v : Int32} (hk : kdL[a]? = some (3, len)) (hv : rd μ a len i = some v) (hd : decode F.2.1 pc = .ok (.laload, 1)) (k : V G C F (pc + 1) ls (.long v.toInt64 :: st) (pic G μ) n kc ks) : V G C F pc ls (.int i :: .ref (G.2.1 + a) :: st) (pic G μ) n kc ks := by
  obtain ⟨h1, h2⟩ := rd_some hv
  subst h2
  exact V_lald hd (pic_at hk) h1 k
theorem B_iast {a len : Nat} {i v : Int32} (hk : kdL[a]? = some (1, len)) (hv : wr μ a len i v = some μ') (hd : decode F.2.1 pc = .ok (.iastore, 1)) (k : V G C F (pc + 1) ls st (pic G μ') n kc ks) : V G C F pc ls (.int v :: .int i :: .ref (G.2.1 + a) :: st) (pic G μ) n kc ks := by
  obtain ⟨h1, h2⟩ := wr_some hv
  subst h2
  refine V_iast hd (pic_at hk) h1 ?_
  rw [← pic_put hk rfl] at k
  exact k
theorem B_bast {a len : Nat} {i v : Int32} (hk : kdL[a]? = some (2, len)) (hv : wr μ a len i v.toInt8.toInt32 = some μ') (hd : decode F.2.1 pc = .ok (.bastore, 1)) (k : V G C F (pc + 1) ls st (pic G μ') n kc ks) : V G C F pc ls (.int v :: .int i :: .ref (G.2.1 + a) :: st) (pic G μ) n kc ks := by
  obtain ⟨h1, h2⟩ := wr_some hv
  subst h2
  refine V_bast hd (pic_at hk) h1 ?_
  rw [← pic_put hk rfl] at k
  exact k
theorem B_last {a len : Nat} {i v : Int32} (hk : kdL[a]? = some (3, len)) (hv : wr μ a len i v = some μ') (hd : decode F.2.1 pc = .ok (.lastore, 1)) (k : V G C F (pc + 1) ls st (pic G μ') n kc ks) : V G C F pc ls (.long v.toInt64 :: .int i :: .ref (G.2.1 + a) :: st) (pic G μ) n kc ks := by
  obtain ⟨h1, h2⟩ := wr_some hv
  subst h2
  refine V_last hd (pic_at hk) h1 ?_
  have e9 : cellOf G a (3, len) (upd (μ a) i.toNatClampNeg v) = Sum.inl (G.2.2.2.1 2, len, Sum.inr (Sum.inl (vp_updL (fun j => (μ a j).toInt64) i.toNatClampNeg v.toInt64))) := by
    have e8 : (fun j => (upd (μ a) i.toNatClampNeg v j).toInt64) = vp_updL (fun j => (μ a j).toInt64) i.toNatClampNeg v.toInt64 := by
      funext q
      unfold upd vp_updL
      by_cases hq : q = i.toNatClampNeg
      · rw [if_pos hq, if_pos hq]
      · rw [if_neg hq, if_neg hq]
    show Sum.inl (G.2.2.2.1 2, len, Sum.inr (Sum.inl (fun j => (upd (μ a) i.toNatClampNeg v j).toInt64))) = _
    rw [e8]
  rw [← pic_put hk e9] at k
  exact k
theorem B_alen {a len : Nat} {v : Int32} (hk : kdL[a]? = some (1, len)) (hd : decode F.2.1 pc = .ok (.arraylength, 1)) (hv : Int32.ofNat len = v) (k : V G C F (pc + 1) ls (.int v :: st) (pic G μ) n kc ks) : V G C F pc ls (.ref (G.2.1 + a) :: st) (pic G μ) n kc ks := V_alen hd (pic_at hk) hv k
def ldA (i : Int32) : Option Nat := if i < 0 ∨ 12 ≤ i.toNatClampNeg then none else some (76 + 15 * i.toNatClampNeg)
theorem ldA_some {i : Int32} {a : Nat} (h : ldA i = some a) : vp_in i 12 ∧ 76 + 15 * i.toNatClampNeg = a := by
  unfold ldA at h
  by_cases hc : i < 0 ∨ 12 ≤ i.toNatClampNeg
  · rw [if_pos hc] at h; cases h
  · rw [if_neg hc] at h; exact ⟨hc, Option.some.inj h⟩
theorem ldA_land {i : Int32} {a : Nat} (h : ldA i = some a) : a ∈ landL := by
  obtain ⟨h1, h2⟩ := ldA_some h
  subst h2
  exact actsL _ (Nat.not_le.mp fun q => h1 (Or.inr q))
theorem B_aald {i : Int32} {a : Nat} (hv : ldA i = some a) (hd : decode F.2.1 pc = .ok (.aaload, 1)) (k : V G C F (pc + 1) ls (.ref (G.2.1 + a) :: st) (pic G μ) n kc ks) : V G C F pc ls (.int i :: .ref (G.2.1 + 75) :: st) (pic G μ) n kc ks := by
  obtain ⟨h1, h2⟩ := ldA_some hv
  subst h2
  exact V_aald hd (pic_at k_75) h1 rfl k
theorem B_callV {y : MethodName} {ret : Option FieldType} {As : List Value} {idx a ci N : Nat} {T : u_T} {r : Option Value} (hM : Rt G y F' ret (.ref (G.2.1 + a) :: As) μ r μ') (hk : kdL[a]? = some (0, ci)) (hc : classes[ci]? = some (y.cls, T, N)) (hm : LkM y F' (.code y F'.2.1 F'.2.2.1 ret) As.length) (hl : LkV F.1 idx y) (hd : decode F.2.1 pc = .ok (.invokevirtual idx, 3)) (hst : As.reverse ++ .ref (G.2.1 + a) :: st = st0) (hw : (st.map fun v => v.category).sum ≤ 8) (hz : F'.2.2.2.2.1 = 0 ∧ F'.2.2.2.2.2.1 = 0 ∧ kc ≤ F.2.2.2.2.1 ∧ ks ≤ F.2.2.2.2.2.1 ∧ F'.2.2.2.1 < F.2.2.2.1) (k : ∀ n', V G C F (pc + 3) ls (r.toList ++ st) (pic G μ') n' kc ks) : V G C F pc ls st0 (pic G μ) n kc ks := by
  obtain ⟨z1, z2, z3, z4, z5⟩ := hz
  refine V_callV (hM n) hm hl hc (pic_at hk) hd hst hw ⟨z5, by rw [z1]; exact z3, by rw [z2]; exact z4⟩ (fun _ _ _ h => h.elim) (fun r' h' n' h9 => ?_)
  obtain ⟨rfl, rfl⟩ := h9
  rw [z1, z2]
  exact k n'
theorem B_callS {y : MethodName} {ret : Option FieldType} {As : List Value} {idx : Nat} {r : Option Value} (hM : Rt G y F' ret As μ r μ') (hm : LkM y F' (.code y F'.2.1 F'.2.2.1 ret) As.length) (hl : LkS F.1 idx y) (hd : decode F.2.1 pc = .ok (.invokestatic idx, 3)) (hst : As.reverse ++ st = st0) (hw : (st.map fun v => v.category).sum ≤ 8) (hz : F'.2.2.2.2.1 = 0 ∧ F'.2.2.2.2.2.1 = 0 ∧ kc ≤ F.2.2.2.2.1 ∧ ks ≤ F.2.2.2.2.2.1 ∧ F'.2.2.2.1 < F.2.2.2.1) (k : ∀ n', V G C F (pc + 3) ls (r.toList ++ st) (pic G μ') n' kc ks) : V G C F pc ls st0 (pic G μ) n kc ks := by
  obtain ⟨z1, z2, z3, z4, z5⟩ := hz
  refine V_callS (hM n) hm hl hd hst hw ⟨z5, by rw [z1]; exact z3, by rw [z2]; exact z4⟩ (fun _ _ _ h => h.elim) (fun r' h' n' h9 => ?_)
  obtain ⟨rfl, rfl⟩ := h9
  rw [z1, z2]
  exact k n'
theorem B_callSN {y : MethodName} {ret : Option FieldType} {As : List Value} {idx : Nat} {r : Option Value} (hM : Rt G y F' ret As μ r μ') (hm : LkM y F' (.code y F'.2.1 F'.2.2.1 ret) As.length) (hl : LkSN F.1 idx y) (hd : decode F.2.1 pc = .ok (.invokestatic idx, 3)) (hst : As.reverse ++ st = st0) (hw : (st.map fun v => v.category).sum ≤ 8) (hz : F'.2.2.2.2.1 = 0 ∧ F'.2.2.2.2.2.1 = 0 ∧ kc ≤ F.2.2.2.2.1 ∧ ks ≤ F.2.2.2.2.2.1 ∧ F'.2.2.2.1 < F.2.2.2.1) (k : ∀ n', V G C F (pc + 3) ls (r.toList ++ st) (pic G μ') n' kc ks) : V G C F pc ls st0 (pic G μ) n kc ks := by
  obtain ⟨z1, z2, z3, z4, z5⟩ := hz
  refine V_callSN (hM n) hm hl hd hst hw ⟨z5, by rw [z1]; exact z3, by rw [z2]; exact z4⟩ (fun r' h' n' h9 => ?_)
  obtain ⟨rfl, rfl⟩ := h9
  rw [z1, z2]
  exact k n'
theorem V_ldcw {i : Nat} {v : Int32} {h : Hm} (hd : decode F.2.1 pc = .ok (.ldc_w i, 3)) (hw : Cond.constant F.1 i v ∈ gw) (k : V G C F (pc + 3) ls (.int v :: st) h n kc ks) : V G C F pc ls st h n kc ks := by
  obtain ⟨R, p, e, s, m, args, below, meth, c, Q⟩ := C
  intro hO H locs lsA hH hS hL
  exact lv_ldcw hO.1 hO.2.1 hO.2.2.2.1 (hO.2.2.2.2.1 _ hw) hd (k hO H locs lsA hH hS hL)
end Rows4
