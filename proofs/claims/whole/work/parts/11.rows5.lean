def lle : List (Option Value) → List (Option Value) → Prop
  | [], [] => True
  | none :: a, _ :: b => lle a b
  | some v :: a, o :: b => o = some v ∧ lle a b
  | _, _ => False
theorem lle_len : ∀ {a b : List (Option Value)}, lle a b → a.length = b.length
  | [], [], _ => rfl
  | none :: a, _ :: b, h => by simp [lle_len (a := a) (b := b) h]
  | some v :: a, o :: b, h => by simp [lle_len (a := a) (b := b) h.2]
theorem lle_at : ∀ {a b : List (Option Value)}, lle a b → ∀ (i : Nat) (v : Value), a[i]? = some (some v) → b[i]? = some (some v)
  | [], [], _, i, v, h => by simp at h
  | none :: a, o :: b, h, 0, v, h9 => by simp at h9
  | none :: a, o :: b, h, i + 1, v, h9 => by
    rw [List.getElem?_cons_succ] at h9 ⊢
    exact lle_at (a := a) (b := b) h i v h9
  | some w :: a, o :: b, h, 0, v, h9 => by
    rw [List.getElem?_cons_zero] at h9 ⊢
    cases h9
    rw [h.1]
  | some w :: a, o :: b, h, i + 1, v, h9 => by
    rw [List.getElem?_cons_succ] at h9 ⊢
    exact lle_at (a := a) (b := b) h.2 i v h9
def FinR (G : Gl) (C : Cx) (F : Fi) (ret : Option FieldType) (r : Option Value) (μ : Mem) : Prop := Fin9 G C F ret (fun r' h' _ => r' = r ∧ h' = pic G μ) (fun _ _ _ => False)
def FinX (G : Gl) (C : Cx) (F : Fi) (ret : Option FieldType) (x : (Nat × Mem) ⊕ (Option Value × Mem)) : Prop := Fin9 G C F ret (fun r' h' _ => ∃ μ', x = .inr (r', μ') ∧ h' = pic G μ') (fun E h' _ => ∃ k μ', x = .inl (k, μ') ∧ E = exN k ∧ h' = pic G μ')
section Rows5
variable {G : Gl} {C : Cx} {F F' : Fi} {pc : Nat} {ls ls' : List (Option Value)} {st st0 : List Value} {μ μ' : Mem} {n kc ks : Nat}
theorem V_less {h : Hm} (hl : lle ls' ls) (k : V G C F pc ls' st h n kc ks) : V G C F pc ls st h n kc ks := by
  obtain ⟨R, p, e, s, m, args, below, meth, c, Q⟩ := C
  intro hO H locs lsA hH hS hL
  exact k hO H locs lsA hH hS ⟨hL.1, (lle_len hl).trans hL.2.1, hL.2.2.1, fun i v hv => hL.2.2.2 i v (lle_at hl i v hv)⟩
theorem R_i {v : Int32} (hK : FinR G C F (some .int) (some (.int v)) μ) (hd : decode F.2.1 pc = .ok (.ireturn, 1)) (h1 : kc ≤ F.2.2.2.2.1) (h2 : ks ≤ F.2.2.2.2.2.1) : V G C F pc ls [.int v] (pic G μ) n kc ks := V_iret hK hd h1 h2 ⟨rfl, rfl⟩
theorem R_z {v : Bool} (hK : FinR G C F (some .boolean) (some (.int (b2i v))) μ) (hd : decode F.2.1 pc = .ok (.ireturn, 1)) (h1 : kc ≤ F.2.2.2.2.1) (h2 : ks ≤ F.2.2.2.2.2.1) : V G C F pc ls [.int (b2i v)] (pic G μ) n kc ks := V_zret hK hd h1 h2 ⟨rfl, rfl⟩
theorem R_v (hK : FinR G C F none none μ) (hd : decode F.2.1 pc = .ok (.return_, 1)) (h1 : kc ≤ F.2.2.2.2.1) (h2 : ks ≤ F.2.2.2.2.2.1) : V G C F pc ls [] (pic G μ) n kc ks := V_vret hK hd h1 h2 ⟨rfl, rfl⟩
theorem R_iX {v : Int32} (hK : FinX G C F (some .int) (.inr (some (.int v), μ))) (hd : decode F.2.1 pc = .ok (.ireturn, 1)) (h1 : kc ≤ F.2.2.2.2.1) (h2 : ks ≤ F.2.2.2.2.2.1) : V G C F pc ls [.int v] (pic G μ) n kc ks := V_iret hK hd h1 h2 ⟨_, rfl, rfl⟩
theorem R_zX {v : Bool} (hK : FinX G C F (some .boolean) (.inr (some (.int (b2i v)), μ))) (hd : decode F.2.1 pc = .ok (.ireturn, 1)) (h1 : kc ≤ F.2.2.2.2.1) (h2 : ks ≤ F.2.2.2.2.2.1) : V G C F pc ls [.int (b2i v)] (pic G μ) n kc ks := V_zret hK hd h1 h2 ⟨_, rfl, rfl⟩
theorem R_vX (hK : FinX G C F none (.inr (none, μ))) (hd : decode F.2.1 pc = .ok (.return_, 1)) (h1 : kc ≤ F.2.2.2.2.1) (h2 : ks ≤ F.2.2.2.2.2.1) : V G C F pc ls [] (pic G μ) n kc ks := V_vret hK hd h1 h2 ⟨_, rfl, rfl⟩
theorem B_callV1 {y : MethodName} {ret : Option FieldType} {As : List Value} {idx a ci N : Nat} {T : u_T} {r : Value} (hM : Rt G y F' ret (.ref (G.2.1 + a) :: As) μ (some r) μ') (hk : kdL[a]? = some (0, ci)) (hc : classes[ci]? = some (y.cls, T, N)) (hm : LkM y F' (.code y F'.2.1 F'.2.2.1 ret) As.length) (hl : LkV F.1 idx y) (hd : decode F.2.1 pc = .ok (.invokevirtual idx, 3)) (hst : As.reverse ++ .ref (G.2.1 + a) :: st = st0) (hw : (st.map fun v => v.category).sum ≤ 8) (hz : F'.2.2.2.2.1 = 0 ∧ F'.2.2.2.2.2.1 = 0 ∧ kc ≤ F.2.2.2.2.1 ∧ ks ≤ F.2.2.2.2.2.1 ∧ F'.2.2.2.1 < F.2.2.2.1) (k : ∀ n', V G C F (pc + 3) ls (r :: st) (pic G μ') n' kc ks) : V G C F pc ls st0 (pic G μ) n kc ks := B_callV hM hk hc hm hl hd hst hw hz k
theorem B_callV0 {y : MethodName} {ret : Option FieldType} {As : List Value} {idx a ci N : Nat} {T : u_T} (hM : Rt G y F' ret (.ref (G.2.1 + a) :: As) μ none μ') (hk : kdL[a]? = some (0, ci)) (hc : classes[ci]? = some (y.cls, T, N)) (hm : LkM y F' (.code y F'.2.1 F'.2.2.1 ret) As.length) (hl : LkV F.1 idx y) (hd : decode F.2.1 pc = .ok (.invokevirtual idx, 3)) (hst : As.reverse ++ .ref (G.2.1 + a) :: st = st0) (hw : (st.map fun v => v.category).sum ≤ 8) (hz : F'.2.2.2.2.1 = 0 ∧ F'.2.2.2.2.2.1 = 0 ∧ kc ≤ F.2.2.2.2.1 ∧ ks ≤ F.2.2.2.2.2.1 ∧ F'.2.2.2.1 < F.2.2.2.1) (k : ∀ n', V G C F (pc + 3) ls st (pic G μ') n' kc ks) : V G C F pc ls st0 (pic G μ) n kc ks := B_callV hM hk hc hm hl hd hst hw hz k
theorem B_callS1 {y : MethodName} {ret : Option FieldType} {As : List Value} {idx : Nat} {r : Value} (hM : Rt G y F' ret As μ (some r) μ') (hm : LkM y F' (.code y F'.2.1 F'.2.2.1 ret) As.length) (hl : LkS F.1 idx y) (hd : decode F.2.1 pc = .ok (.invokestatic idx, 3)) (hst : As.reverse ++ st = st0) (hw : (st.map fun v => v.category).sum ≤ 8) (hz : F'.2.2.2.2.1 = 0 ∧ F'.2.2.2.2.2.1 = 0 ∧ kc ≤ F.2.2.2.2.1 ∧ ks ≤ F.2.2.2.2.2.1 ∧ F'.2.2.2.1 < F.2.2.2.1) (k : ∀ n', V G C F (pc + 3) ls (r :: st) (pic G μ') n' kc ks) : V G C F pc ls st0 (pic G μ) n kc ks := B_callS hM hm hl hd hst hw hz k
theorem B_callS0 {y : MethodName} {ret : Option FieldType} {As : List Value} {idx : Nat} (hM : Rt G y F' ret As μ none μ') (hm : LkM y F' (.code y F'.2.1 F'.2.2.1 ret) As.length) (hl : LkS F.1 idx y) (hd : decode F.2.1 pc = .ok (.invokestatic idx, 3)) (hst : As.reverse ++ st = st0) (hw : (st.map fun v => v.category).sum ≤ 8) (hz : F'.2.2.2.2.1 = 0 ∧ F'.2.2.2.2.2.1 = 0 ∧ kc ≤ F.2.2.2.2.1 ∧ ks ≤ F.2.2.2.2.2.1 ∧ F'.2.2.2.1 < F.2.2.2.1) (k : ∀ n', V G C F (pc + 3) ls st (pic G μ') n' kc ks) : V G C F pc ls st0 (pic G μ) n kc ks := B_callS hM hm hl hd hst hw hz k
theorem B_callSN1 {y : MethodName} {ret : Option FieldType} {As : List Value} {idx : Nat} {r : Value} (hM : Rt G y F' ret As μ (some r) μ') (hm : LkM y F' (.code y F'.2.1 F'.2.2.1 ret) As.length) (hl : LkSN F.1 idx y) (hd : decode F.2.1 pc = .ok (.invokestatic idx, 3)) (hst : As.reverse ++ st = st0) (hw : (st.map fun v => v.category).sum ≤ 8) (hz : F'.2.2.2.2.1 = 0 ∧ F'.2.2.2.2.2.1 = 0 ∧ kc ≤ F.2.2.2.2.1 ∧ ks ≤ F.2.2.2.2.2.1 ∧ F'.2.2.2.1 < F.2.2.2.1) (k : ∀ n', V G C F (pc + 3) ls (r :: st) (pic G μ') n' kc ks) : V G C F pc ls st0 (pic G μ) n kc ks := B_callSN hM hm hl hd hst hw hz k
theorem B_callSN0 {y : MethodName} {ret : Option FieldType} {As : List Value} {idx : Nat} (hM : Rt G y F' ret As μ none μ') (hm : LkM y F' (.code y F'.2.1 F'.2.2.1 ret) As.length) (hl : LkSN F.1 idx y) (hd : decode F.2.1 pc = .ok (.invokestatic idx, 3)) (hst : As.reverse ++ st = st0) (hw : (st.map fun v => v.category).sum ≤ 8) (hz : F'.2.2.2.2.1 = 0 ∧ F'.2.2.2.2.2.1 = 0 ∧ kc ≤ F.2.2.2.2.1 ∧ ks ≤ F.2.2.2.2.2.1 ∧ F'.2.2.2.1 < F.2.2.2.1) (k : ∀ n', V G C F (pc + 3) ls st (pic G μ') n' kc ks) : V G C F pc ls st0 (pic G μ) n kc ks := B_callSN hM hm hl hd hst hw hz k
end Rows5
