def rmD (F : Fi) : Room := { frames := 10 + F.2.2.2.1, cells := F.2.2.2.2.1, slots := F.2.2.2.2.2.1, locals := 200 + 64 * F.2.2.2.1 }
def QcD (G : Gl) (Qr : Option Value → Hm → Nat → Prop) : Array Value → State → Outcome → State → Prop := fun _ st o t => ∃ (r : Option Value) (h : Hm) (n : Nat), o = .returned r ∧ Qr r h n ∧ Hp G h n t.heap ∧ va_F (gA G) st t
def XcD (G : Gl) (Qx : String → Hm → Nat → Prop) : String → State → State → Prop := fun E st t => ∃ (h : Hm) (n : Nat), Qx E h n ∧ Hp G h n t.heap ∧ va_F (gA G) st t
/-- a method's contract: from the picture (h, n) with these arguments it returns with Qr, or throws with Qx -/
def Sd (G : Gl) (y : MethodName) (F : Fi) (cd : Cond) (args : List Value) (h : Hm) (n : Nat) (Qr : Option Value → Hm → Nat → Prop) (Qx : String → Hm → Nat → Prop) : Prop :=
  vx_Met G.1 y (cd :: gw) (rmD F) (va_Pc args (fun U => Hp G h n U.heap ∧ Kk G U)) (QcD G Qr) (XcD G Qx) F.2.2.2.2.1 F.2.2.2.2.2.1 (gA G)
def Fin9 (G : Gl) (C : Cx) (F : Fi) (ret : Option FieldType) (Qr : Option Value → Hm → Nat → Prop) (Qx : String → Hm → Nat → Prop) : Prop := match C with
  | (R, p, e, s, m, args, below, meth, c, Q) => Q = vx_MQ below (QcD G Qr) (XcD G Qx) args s F.2.2.2.2.1 F.2.2.2.2.2.1 (gA G) ∧ meth.sig.returnType = ret
theorem lvargs_mem {vs : List Value} (hc : vs.all (fun v => v.category == 1) = true) : ∀ (k i : Nat) (v : Value), vs[i]? = some v → (k + i, v) ∈ lv_args k vs := by
  induction vs with
  | nil => intro k i v h; simp at h
  | cons w ws ih =>
    intro k i v h
    rw [List.all_cons, Bool.and_eq_true] at hc
    have hw : w.category = 1 := by simpa using hc.1
    show (k + i, v) ∈ (k, w) :: lv_args (if w.category = 2 then k + 2 else k + 1) ws
    rw [hw, if_neg (by decide)]
    cases i with
    | zero => rw [List.getElem?_cons_zero] at h; cases h; exact List.mem_cons_self
    | succ i =>
      rw [List.getElem?_cons_succ] at h
      refine List.mem_cons_of_mem _ ?_
      have := ih hc.2 (k + 1) i v h
      rwa [show k + (i + 1) = k + 1 + i by omega]
theorem lgsl_len {vs : List Value} (hc : vs.all (fun v => v.category == 1) = true) : (lg_sl vs).length = vs.length := by
  induction vs with
  | nil => rfl
  | cons w ws ih =>
    rw [List.all_cons, Bool.and_eq_true] at hc
    have hw : w.category = 1 := by simpa using hc.1
    have := ih hc.2
    simp [lg_sl, hw] at this ⊢
    exact this
theorem Lh.entry {vs : List Value} {nL : Nat} {ls : List (Option Value)} (hc : vs.all (fun v => v.category == 1) = true) (hl : vs.length ≤ nL) (hls : vs.map some ++ List.replicate (nL - vs.length) none = ls) : Lh ((lg_sl vs ++ List.replicate (nL - (lg_sl vs).length) Slot.unset).toArray) nL ls := by
  have h1 := lv_entry vs (n := nL) (by rw [lgsl_len hc]; exact hl)
  subst hls
  refine ⟨h1.1, by simp; omega, h1.2.1, fun i v hv => ?_⟩
  by_cases hi : i < vs.length
  · rw [List.getElem?_append_left (by simpa using hi), List.getElem?_map] at hv
    cases hx : vs[i]? with
    | none => rw [hx] at hv; cases hv
    | some w =>
      rw [hx] at hv
      cases hv
      have h2 := h1.2.2 (0 + i, v) (lvargs_mem hc 0 i v hx)
      rw [Nat.zero_add] at h2
      refine ⟨h2, ?_⟩
      have := List.all_eq_true.mp hc v (List.mem_of_getElem? hx)
      simpa using this
  · rw [List.getElem?_append_right (by simpa using hi)] at hv
    have := List.mem_of_getElem? hv
    simp at this
theorem Sd.of {G : Gl} {y : MethodName} {F : Fi} {ret : Option FieldType} {args : List Value} {h : Hm} {n : Nat} {Qr : Option Value → Hm → Nat → Prop} {Qx : String → Hm → Nat → Prop} {ls : List (Option Value)} (hl : G.1.stackTraces = false) (hy : plainName y.cls = true ∧ y.cls = F.1 ∧ F.2.2.2.2.2.2 = []) (hc : args.all (fun v => v.category == 1) = true) (hn : args.length ≤ F.2.2.1) (hls : args.map some ++ List.replicate (F.2.2.1 - args.length) none = ls)
    (body : ∀ C : Cx, Fin9 G C F ret Qr Qx → V G C F 0 ls [] h n 0 0) : Sd G y F (.code y F.2.1 F.2.2.1 ret) args h n Qr Qx := by
  refine vx_ofW (cc := F.2.1) (maxL := F.2.2.1) (ret := ret) hy.1 rfl ?_
  intro p e s m args' below meth c s₁ B hml ht hv
  obtain ⟨rfl, hH, hK⟩ := hv
  have hts := atoms_spec (ws := .code y F.2.1 F.2.2.1 ret :: gw) B.pre
  have hown : s.vm.findClass F.1 = some m.cls := by rw [← hy.2.1]; exact findClass_of_methodNamed B.named
  have hr := B.returns
  rw [lg_entry_eq]
  refine body ((headSpec (.code y F.2.1 F.2.2.1 ret :: gw) (rmD F)).room, p, e, s, m, args.toArray, below, meth, c, vx_MQ below (QcD G Qr) (XcD G Qx) args.toArray s F.2.2.2.2.1 F.2.2.2.2.2.1 (gA G)) ⟨rfl, hr⟩ ⟨B.exec, B.bytes, hml, hown, fun w hw => hts w (List.mem_cons_of_mem _ hw), hK, ⟨Nat.le_refl _, Nat.le_refl _, Nat.le_refl _, Nat.le_refl _⟩, B.notSynchronized, hl, ?_⟩ s.heap [] _ hH ⟨Nat.le_refl _, fun _ _ _ => rfl, fun _ h => nomatch h⟩ (Lh.entry hc hn hls)
  rw [hy.2.2]
  cases hx : c.exceptionTable.toList with
  | nil => rfl
  | cons x xs => exact absurd (ht x (by rw [hx]; exact List.mem_cons_self)) id
theorem vx_ofWF {l : Launch} {y : MethodName} {ws ws' : List Cond} {rm : Room} {Pc : Array Value → State → Prop} {Qc : Array Value → State → Outcome → State → Prop} {XC : String → State → State → Prop} {mc ms : Nat} {free : Addr → Prop} {cc : ByteArray} {maxL : Nat} {ret : Option FieldType}
    (hy : plainFor y = true) (hw : ws = Cond.code y cc maxL ret :: ws')
    (body : ∀ p e s m args below meth c s₁, BodyLoose p l y (headSpec ws rm) cc maxL ret e s m args below meth c s₁ → c.maxLocals = maxL → (∀ x ∈ c.exceptionTable.toList, False) → Pc args s →
      W p l e (headSpec ws rm).room s m args below meth c s.heap [] 0 0 (vx_MQ below Qc XC args s mc ms free) (entryFrame m args maxL)) : vx_Met l y ws rm Pc Qc XC mc ms free := by
  refine MetFree.of_bodySF (code := cc) (maxLocals := maxL) (ret := ret) hy ?_ ?_
  · intro args s m h hn
    obtain ⟨meth, c, h1, h2, h3, h4, h5, h6, -, -⟩ := Cond.code_spec hn (atoms_spec (ws := ws) h _ (by rw [hw]; exact List.mem_cons_self))
    exact ⟨meth, c, h1, h2, h3, h4, h5, h6⟩
  · intro p e s m args below meth c s₁ B hml hP _
    have hh0 : s₁.heap = s.heap := by rw [B.state]; rfl
    have ht : ∀ x ∈ c.exceptionTable.toList, False := by
      obtain ⟨meth9, c9, h1, h2, -, -, -, -, h7, -⟩ := Cond.code_spec B.named (atoms_spec (ws := ws) B.pre _ (by rw [hw]; exact List.mem_cons_self))
      cases Option.some.inj (h1.symm.trans B.method)
      cases Option.some.inj (h2.symm.trans (Stand.of_body B).code)
      intro x hx
      rw [Array.isEmpty_iff.mp h7] at hx
      cases hx
    obtain ⟨t, a1, o, b1, b2, b3⟩ := body p e s m args below meth c s₁ B hml ht hP s₁ hh0 (Stand.of_body B)
    exact ⟨t, o, a1, b1, b2, b3⟩
theorem Sd.ofJ {G : Gl} {y : MethodName} {F : Fi} {ret : Option FieldType} {args : List Value} {h : Hm} {n : Nat} {Qr : Option Value → Hm → Nat → Prop} {Qx : String → Hm → Nat → Prop} {ls : List (Option Value)} (hl : G.1.stackTraces = false) (hy : plainFor y = true ∧ y.cls = F.1 ∧ F.2.2.2.2.2.2 = []) (hc : args.all (fun v => v.category == 1) = true) (hn : args.length ≤ F.2.2.1) (hls : args.map some ++ List.replicate (F.2.2.1 - args.length) none = ls)
    (body : ∀ C : Cx, Fin9 G C F ret Qr Qx → V G C F 0 ls [] h n 0 0) : Sd G y F (.code y F.2.1 F.2.2.1 ret) args h n Qr Qx := by
  refine vx_ofWF (cc := F.2.1) (maxL := F.2.2.1) (ret := ret) hy.1 rfl ?_
  intro p e s m args' below meth c s₁ B hml ht hv
  obtain ⟨rfl, hH, hK⟩ := hv
  have hts := atoms_spec (ws := .code y F.2.1 F.2.2.1 ret :: gw) B.pre
  have hown : s.vm.findClass F.1 = some m.cls := by rw [← hy.2.1]; exact findClass_of_methodNamed B.named
  have hr := B.returns
  rw [lg_entry_eq]
  refine body ((headSpec (.code y F.2.1 F.2.2.1 ret :: gw) (rmD F)).room, p, e, s, m, args.toArray, below, meth, c, vx_MQ below (QcD G Qr) (XcD G Qx) args.toArray s F.2.2.2.2.1 F.2.2.2.2.2.1 (gA G)) ⟨rfl, hr⟩ ⟨B.exec, B.bytes, hml, hown, fun w hw => hts w (List.mem_cons_of_mem _ hw), hK, ⟨Nat.le_refl _, Nat.le_refl _, Nat.le_refl _, Nat.le_refl _⟩, B.notSynchronized, hl, ?_⟩ s.heap [] _ hH ⟨Nat.le_refl _, fun _ _ _ => rfl, fun _ h => nomatch h⟩ (Lh.entry hc hn hls)
  rw [hy.2.2]
  cases hx : c.exceptionTable.toList with
  | nil => rfl
  | cons x xs => exact absurd (ht x (by rw [hx]; exact List.mem_cons_self)) id
theorem Sd.ofH {G : Gl} {y : MethodName} {F : Fi} {ret : Option FieldType} {args : List Value} {h : Hm} {n : Nat} {Qr : Option Value → Hm → Nat → Prop} {Qx : String → Hm → Nat → Prop} {ls : List (Option Value)} (hl : G.1.stackTraces = false) (hy : plainName y.cls = true ∧ y.cls = F.1) (hc : args.all (fun v => v.category == 1) = true) (hn : args.length ≤ F.2.2.1) (hls : args.map some ++ List.replicate (F.2.2.1 - args.length) none = ls)
    (body : ∀ C : Cx, Fin9 G C F ret Qr Qx → V G C F 0 ls [] h n 0 0) : Sd G y F (.codeWith y F.2.1 F.2.2.1 ret F.2.2.2.2.2.2) args h n Qr Qx := by
  refine vx_ofWH (cc := F.2.1) (maxL := F.2.2.1) (ret := ret) (hh := F.2.2.2.2.2.2) hy.1 rfl ?_
  intro p e s m args' below meth c s₁ B hml hv
  obtain ⟨rfl, hH, hK⟩ := hv
  have hts := atoms_spec (ws := .codeWith y F.2.1 F.2.2.1 ret F.2.2.2.2.2.2 :: gw) B.pre
  have hown : s.vm.findClass F.1 = some m.cls := by rw [← hy.2]; exact findClass_of_methodNamed B.named
  have hr := B.returns
  rw [lg_entry_eq]
  exact body ((headSpec (.codeWith y F.2.1 F.2.2.1 ret F.2.2.2.2.2.2 :: gw) (rmD F)).room, p, e, s, m, args.toArray, below, meth, c, vx_MQ below (QcD G Qr) (XcD G Qx) args.toArray s F.2.2.2.2.1 F.2.2.2.2.2.1 (gA G)) ⟨rfl, hr⟩ ⟨B.exec, B.bytes, hml, hown, fun w hw => hts w (List.mem_cons_of_mem _ hw), hK, ⟨Nat.le_refl _, Nat.le_refl _, Nat.le_refl _, Nat.le_refl _⟩, B.notSynchronized, hl, vx_table (x := y) B (hts _ List.mem_cons_self)⟩ s.heap [] _ hH ⟨Nat.le_refl _, fun _ _ _ => rfl, fun _ h => nomatch h⟩ (Lh.entry hc hn hls)
/-- a callee: its code and class stand in the tables -/
def LkM (y : MethodName) (F' : Fi) (cd : Cond) (n : Nat) : Prop := cd ∈ gw ∧ Cond.initialized y.cls ∈ gw ∧ (y.cls ≠ "java/lang/invoke/MethodHandle" ∧ y.cls ≠ "java/lang/invoke/VarHandle") ∧ (parseMethodDescriptor y.desc).map (fun d => d.parameters.length) = some n ∧ F'.2.2.1 ≤ 40
def LkV (own : String) (idx : Nat) (y : MethodName) : Prop := Cond.methodLink own idx y ∈ gw ∧ Cond.instanceMethod y ∈ gw ∧ Cond.selects y.cls y y ∈ gw
def LkS (own : String) (idx : Nat) (y : MethodName) : Prop := Cond.methodLink own idx y ∈ gw ∧ Cond.static y ∈ gw
def LkSN (own : String) (idx : Nat) (y : MethodName) : Prop := (∃ host : String, (own, idx, y, host) ∈ nM_l) ∧ Cond.static y ∈ gw
section Rows3
variable {G : Gl} {C : Cx} {F F' : Fi} {pc : Nat} {ls ls' : List (Option Value)} {st st0 : List Value} {h : Hm} {n kc ks : Nat} {Qr : Option Value → Hm → Nat → Prop} {Qx : String → Hm → Nat → Prop}
theorem V_iret {v : Int32} (hQ : Fin9 G C F (some .int) Qr Qx) (hd : decode F.2.1 pc = .ok (.ireturn, 1)) (h1 : kc ≤ F.2.2.2.2.1) (h2 : ks ≤ F.2.2.2.2.2.1) (hq : Qr (some (.int v)) h n) : V G C F pc ls [.int v] h n kc ks := by
  obtain ⟨R, p, e, s, m, args, below, meth, c, Q⟩ := C
  intro hO H locs lsA hH hS hL
  obtain ⟨rfl, hr⟩ := hQ
  refine W.widen h1 h2 (vx_ret ?_)
  exact W.iret hO.1 hO.2.1 hr (fun t ht hW => ⟨_, h, n, rfl, hq, by rw [ht]; exact hH, hS.F ht⟩) hS.2.2 hd (hlocks := hO.2.2.2.2.2.2.2.1)
theorem narrow_b2i (b : Bool) : narrow .boolean (.int (b2i b)) = .int (b2i b) := by cases b <;> rfl
theorem V_zret {v : Bool} (hQ : Fin9 G C F (some .boolean) Qr Qx) (hd : decode F.2.1 pc = .ok (.ireturn, 1)) (h1 : kc ≤ F.2.2.2.2.1) (h2 : ks ≤ F.2.2.2.2.2.1) (hq : Qr (some (.int (b2i v))) h n) : V G C F pc ls [.int (b2i v)] h n kc ks := by
  obtain ⟨R, p, e, s, m, args, below, meth, c, Q⟩ := C
  intro hO H locs lsA hH hS hL
  obtain ⟨rfl, hr⟩ := hQ
  refine W.widen h1 h2 (vx_ret ?_)
  exact W.zret hO.1 hO.2.1 hr (narrow_b2i v) (fun t ht hW => ⟨_, h, n, rfl, hq, by rw [ht]; exact hH, hS.F ht⟩) hS.2.2 hd (hlocks := hO.2.2.2.2.2.2.2.1)
theorem V_nret {v : Int32} {ty : FieldType} (hn : narrow ty (.int v) = .int v) (hQ : Fin9 G C F (some ty) Qr Qx) (hd : decode F.2.1 pc = .ok (.ireturn, 1)) (h1 : kc ≤ F.2.2.2.2.1) (h2 : ks ≤ F.2.2.2.2.2.1) (hq : Qr (some (.int v)) h n) : V G C F pc ls [.int v] h n kc ks := by
  obtain ⟨R, p, e, s, m, args, below, meth, c, Q⟩ := C
  intro hO H locs lsA hH hS hL
  obtain ⟨rfl, hr⟩ := hQ
  refine W.widen h1 h2 (vx_ret ?_)
  exact W.zret hO.1 hO.2.1 hr hn (fun t ht hW => ⟨_, h, n, rfl, hq, by rw [ht]; exact hH, hS.F ht⟩) hS.2.2 hd (hlocks := hO.2.2.2.2.2.2.2.1)
theorem V_vret (hQ : Fin9 G C F none Qr Qx) (hd : decode F.2.1 pc = .ok (.return_, 1)) (h1 : kc ≤ F.2.2.2.2.1) (h2 : ks ≤ F.2.2.2.2.2.1) (hq : Qr none h n) : V G C F pc ls [] h n kc ks := by
  obtain ⟨R, p, e, s, m, args, below, meth, c, Q⟩ := C
  intro hO H locs lsA hH hS hL
  obtain ⟨rfl, hr⟩ := hQ
  refine W.widen h1 h2 (vx_ret ?_)
  exact W.vret hO.1 hO.2.1 hr (fun t ht hW => ⟨_, h, n, rfl, hq, by rw [ht]; exact hH, hS.F ht⟩) hS.2.2 hd (hlocks := hO.2.2.2.2.2.2.2.1)
theorem V_widen {k2 s2 : Nat} (h1 : kc ≤ k2) (h2 : ks ≤ s2) (k : V G C F pc ls st h n k2 s2) : V G C F pc ls st h n kc ks := by
  obtain ⟨R, p, e, s, m, args, below, meth, c, Q⟩ := C
  intro hO H locs lsA hH hS hL
  exact W.widen h1 h2 (k hO H locs lsA hH hS hL)
/-- behind a call -/
theorem call9 {R : Room} {p : Program} {e : Env} {s : State} {m : MethodId} {args : Array Value} {below : List Frame} {meth : Method} {c : Code} {Q : State → Prop} {H : Heap} {locs : List Loc} {lsA : Array Slot} {a : Array Value} {mc ms : Nat} (hO : Okx G (R, p, e, s, m, args, below, meth, c, Q) F) (hS : va_S (gA G) s.heap H locs) (hL : Lh lsA F.2.2.1 ls)
    (hr : vx_Run p G.1 e R s m args below meth c H locs kc ks mc ms (F0 m pc lsA st0) st (QcD G Qr a) (XcD G Qx) (gA G))
    (kx : ∀ (E : String) (h' : Hm) (n' : Nat), Qx E h' n' → VX G (R, p, e, s, m, args, below, meth, c, Q) F pc ls h' n' (kc + mc) (ks + ms) E)
    (k : ∀ (r : Option Value) (h' : Hm) (n' : Nat), Qr r h' n' → V G (R, p, e, s, m, args, below, meth, c, Q) F (pc + 3) ls (r.toList ++ st) h' n' (kc + mc) (ks + ms)) :
    W p G.1 e R s m args below meth c H locs kc ks Q (F0 m pc lsA st0) := by
  intro T hT X
  rcases hr T hT X with ⟨v, st₀, t, T', L, h0, X', hL9, e1, e2, ⟨r, h', n', hv, hq, hH', hF⟩, stp⟩ | ⟨q, st₀, t, T', L, E, ce, h0, X', hL9, e1, e2, ⟨h', n', hq, hH', hF⟩, hce, hcv, hcl, stp⟩
  · cases hv
    obtain ⟨k1, k2, k3⟩ := vx_keep h0 e1 hS (A1 := gA G) (fun _ _ h => h) (free := gA G) (fun _ h => h) hL9 hF
    obtain ⟨t2, a1, b1⟩ := k v h' n' hq hO T'.heap (locs ++ L) lsA (by rw [e1]; exact hH') k3 hL T' rfl X'
    exact ⟨t2, stp t2 a1, b1⟩
  · obtain ⟨k1, k2, k3⟩ := vx_keep h0 e1 hS (A1 := gA G) (fun _ _ h => h) (free := gA G) (fun _ h => h) hL9 hF
    obtain ⟨t2, a1, b1⟩ := kx E h' n' hq hO T'.heap (locs ++ L) lsA st q ce (by rw [e1]; exact hH') k3 hL (by rw [e1]; exact hce) hcv hcl T' rfl X'
    exact ⟨t2, stp.trans a1, b1⟩
theorem call9_pre {R : Room} {p : Program} {e : Env} {s : State} {m : MethodId} {args : Array Value} {below : List Frame} {meth : Method} {c : Code} {Q : State → Prop} {H : Heap} {locs : List Loc} {As : List Value} (hO : Okx G (R, p, e, s, m, args, below, meth, c, Q) F) (hH : Hp G h n H) (hS : va_S (gA G) s.heap H locs) :
    FrameBlind (va_Pc As (fun U => Hp G h n U.heap ∧ Kk G U)) ∧ ∀ U : State, U.heap = H → s.WarmedH U.vm → va_Pc As (fun U => Hp G h n U.heap ∧ Kk G U) As.toArray U := by
  have hz : G.2.1 ≤ H.size := by have := hH.1; omega
  refine ⟨fun a U g mk q => ?_, fun U hU hW => ⟨rfl, by rw [hU]; exact hH, hO.2.2.2.2.2.1.warm hW (by rw [hU]; exact hz) (fun a h1 h2 => by rw [hU]; exact hS.2.1 a h1 h2)⟩⟩
  obtain ⟨q0, q1, q2⟩ := q
  exact ⟨q0, q1, ⟨va_K.moved (u := U) (U := U.calling g mk a) (Vm.Alike.refl U.vm) q2.1, q2.2.1, q2.2.2⟩⟩
theorem V_callV {y : MethodName} {ret : Option FieldType} {As : List Value} {idx a ci N : Nat} {T : u_T} {fs : List Value} (hM : Sd G y F' (.code y F'.2.1 F'.2.2.1 ret) (.ref (G.2.1 + a) :: As) h n Qr Qx) (hm : LkM y F' (.code y F'.2.1 F'.2.2.1 ret) As.length) (hl : LkV F.1 idx y) (hc : classes[ci]? = some (y.cls, T, N)) (he : h a = some (.inr (ci, fs))) (hd : decode F.2.1 pc = .ok (.invokevirtual idx, 3)) (hst : As.reverse ++ .ref (G.2.1 + a) :: st = st0) (hw : (st.map fun v => v.category).sum ≤ 8)
    (hr : F'.2.2.2.1 < F.2.2.2.1 ∧ kc + F'.2.2.2.2.1 ≤ F.2.2.2.2.1 ∧ ks + F'.2.2.2.2.2.1 ≤ F.2.2.2.2.2.1)
    (kx : ∀ (E : String) (h' : Hm) (n' : Nat), Qx E h' n' → VX G C F pc ls h' n' (kc + F'.2.2.2.2.1) (ks + F'.2.2.2.2.2.1) E)
    (k : ∀ (r : Option Value) (h' : Hm) (n' : Nat), Qr r h' n' → V G C F (pc + 3) ls (r.toList ++ st) h' n' (kc + F'.2.2.2.2.1) (ks + F'.2.2.2.2.2.1)) : V G C F pc ls st0 h n kc ks := by
  obtain ⟨R, p, e, s, m, args, below, meth, c, Q⟩ := C
  intro hO H locs lsA hH hS hL
  subst hst
  obtain ⟨p1, p2⟩ := call9_pre (As := .ref (G.2.1 + a) :: As) hO hH hS
  have hts := hO.2.2.2.2.1
  obtain ⟨r1, r2, r3, r4⟩ := hO.2.2.2.2.2.2.1
  have hm4 := hm.2.2.2.2
  refine call9 hO hS hL (vx_runV (Ts := gw) (nL := F.2.2.1) (As := As) (ret := ret) ⟨hO.1, hO.2.1, hO.2.2.1, hO.2.2.2.1, hts⟩ hM (cwV As.length hts (fun w hw9 => ?_) rfl rfl rfl ⟨rfl, hm.2.2.1.1, hm.2.2.1.2, hm.2.2.2.1⟩ ⟨?_, ?_⟩) ⟨p1, va_recv (cl := classes) (D := gD G) (tys := gT G) hO.2.2.2.2.2.1.1 (hH.one he) (q0 := 0) hc rfl, p2⟩ rfl rfl hL.1 rfl (lv_room hw) hd ⟨by omega, by omega⟩) kx k
  · rcases List.mem_append.mp hw9 with h9 | h9
    · simp only [List.mem_cons, List.not_mem_nil, or_false] at h9
      rcases h9 with h9 | h9 | h9 | h9
      · rw [h9]; exact gw_good _ hl.1
      · rw [h9]; exact gw_good _ hl.2.1
      · rw [h9]; exact gw_good _ hl.2.2
      · rw [h9]; exact gw_good _ hm.2.1
    · rcases List.mem_cons.mp h9 with h9 | h9
      · rw [h9]; exact gw_good _ hm.1
      · exact gw_good _ h9
  · show 10 + F'.2.2.2.1 + 1 ≤ R.frames
    omega
  · show 8 + (F'.2.2.1 + 11) + (200 + 64 * F'.2.2.2.1) ≤ R.locals
    omega
theorem V_callS {y : MethodName} {ret : Option FieldType} {As : List Value} {idx : Nat} (hM : Sd G y F' (.code y F'.2.1 F'.2.2.1 ret) As h n Qr Qx) (hm : LkM y F' (.code y F'.2.1 F'.2.2.1 ret) As.length) (hl : LkS F.1 idx y) (hd : decode F.2.1 pc = .ok (.invokestatic idx, 3)) (hst : As.reverse ++ st = st0) (hw : (st.map fun v => v.category).sum ≤ 8)
    (hr : F'.2.2.2.1 < F.2.2.2.1 ∧ kc + F'.2.2.2.2.1 ≤ F.2.2.2.2.1 ∧ ks + F'.2.2.2.2.2.1 ≤ F.2.2.2.2.2.1)
    (kx : ∀ (E : String) (h' : Hm) (n' : Nat), Qx E h' n' → VX G C F pc ls h' n' (kc + F'.2.2.2.2.1) (ks + F'.2.2.2.2.2.1) E)
    (k : ∀ (r : Option Value) (h' : Hm) (n' : Nat), Qr r h' n' → V G C F (pc + 3) ls (r.toList ++ st) h' n' (kc + F'.2.2.2.2.1) (ks + F'.2.2.2.2.2.1)) : V G C F pc ls st0 h n kc ks := by
  obtain ⟨R, p, e, s, m, args, below, meth, c, Q⟩ := C
  intro hO H locs lsA hH hS hL
  subst hst
  obtain ⟨p1, p2⟩ := call9_pre (As := As) hO hH hS
  have hts := hO.2.2.2.2.1
  obtain ⟨r1, r2, r3, r4⟩ := hO.2.2.2.2.2.2.1
  have hm4 := hm.2.2.2.2
  refine call9 hO hS hL (vx_runS (Ts := gw) (nL := F.2.2.1) (As := As) (ret := ret) ⟨hO.1, hO.2.1, hO.2.2.1, hO.2.2.2.1, hts⟩ hM (va_cwS As.length hts (fun w hw9 => ?_) rfl rfl rfl ⟨hm.2.2.1.1, hm.2.2.1.2, hm.2.2.2.1⟩ ⟨?_, ?_⟩) ⟨p1, p2⟩ rfl rfl hL.1 rfl (lv_room hw) hd ⟨by omega, by omega⟩) kx k
  · rcases List.mem_append.mp hw9 with h9 | h9
    · simp only [List.mem_cons, List.not_mem_nil, or_false] at h9
      rcases h9 with h9 | h9 | h9
      · rw [h9]; exact gw_good _ hl.1
      · rw [h9]; exact gw_good _ hl.2
      · rw [h9]; exact gw_good _ hm.2.1
    · rcases List.mem_cons.mp h9 with h9 | h9
      · rw [h9]; exact gw_good _ hm.1
      · exact gw_good _ h9
  · show 10 + F'.2.2.2.1 + 1 ≤ R.frames
    omega
  · show 8 + (F'.2.2.1 + 11) + (200 + 64 * F'.2.2.2.1) ≤ R.locals
    omega
/-- a contract without a throw, as the kit's Met -/
theorem Sd.met {y : MethodName} {cd : Cond} {As : List Value} (hM : Sd G y F' cd As h n Qr (fun _ _ _ => False)) : Met G.1 y (cd :: gw) (rmD F') (va_Pc As (fun U => Hp G h n U.heap ∧ Kk G U)) (QcD G Qr) F'.2.2.2.2.1 F'.2.2.2.2.2.1 (gA G) := by
  refine MetFree.mono hM (fun _ _ h9 => h9) (fun _ _ _ _ _ h9 => h9) ?_
  intro a st o t _ h9
  rcases h9 with h9 | ⟨q, -, E, ce, L, ⟨h', n', hq, -⟩, -⟩
  · exact h9
  · exact absurd hq id
/-- a Run without a throw, as the one that may throw -/
theorem run_vx {R : Room} {p : Program} {e : Env} {s : State} {m : MethodId} {args : Array Value} {below : List Frame} {meth : Method} {c : Code} {H : Heap} {locs : List Loc} {mc ms : Nat} {g : JFrame} {Qa : State → Outcome → State → Prop} {XC : String → State → State → Prop} {free : Addr → Prop} (hr : va_Run p G.1 e R s m args below meth c H locs kc ks mc ms g st Qa free) : vx_Run p G.1 e R s m args below meth c H locs kc ks mc ms g st Qa XC free := fun T hT X => Or.inl (hr T hT X)
theorem V_callSN {y : MethodName} {ret : Option FieldType} {As : List Value} {idx : Nat} (hM : Sd G y F' (.code y F'.2.1 F'.2.2.1 ret) As h n Qr (fun _ _ _ => False)) (hm : LkM y F' (.code y F'.2.1 F'.2.2.1 ret) As.length) (hl : LkSN F.1 idx y) (hd : decode F.2.1 pc = .ok (.invokestatic idx, 3)) (hst : As.reverse ++ st = st0) (hw : (st.map fun v => v.category).sum ≤ 8)
    (hr : F'.2.2.2.1 < F.2.2.2.1 ∧ kc + F'.2.2.2.2.1 ≤ F.2.2.2.2.1 ∧ ks + F'.2.2.2.2.2.1 ≤ F.2.2.2.2.2.1)
    (k : ∀ (r : Option Value) (h' : Hm) (n' : Nat), Qr r h' n' → V G C F (pc + 3) ls (r.toList ++ st) h' n' (kc + F'.2.2.2.2.1) (ks + F'.2.2.2.2.2.1)) : V G C F pc ls st0 h n kc ks := by
  obtain ⟨R, p, e, s, m, args, below, meth, c, Q⟩ := C
  intro hO H locs lsA hH hS hL
  subst hst
  obtain ⟨p1, p2⟩ := call9_pre (As := As) hO hH hS
  have hts := hO.2.2.2.2.1
  obtain ⟨r1, r2, r3, r4⟩ := hO.2.2.2.2.2.2.1
  have hm4 := hm.2.2.2.2
  obtain ⟨⟨host, hh⟩, hsta⟩ := hl
  have hGd : GoodIn gw (.code y F'.2.1 F'.2.2.1 ret :: gw) := by
    intro w h9
    rcases List.mem_cons.mp h9 with h9 | h9
    · rw [h9]; exact gw_good _ hm.1
    · exact gw_good _ h9
  refine call9 hO hS hL (Qx := fun _ _ _ => False) (run_vx (va_runSN (Ts := gw) (nL := F.2.2.1) (As := As) (ret := ret) (host := host) ⟨hO.1, hO.2.1, hO.2.2.1, hO.2.2.2.1, hts⟩ (Sd.met hM) ⟨va_cnB As.length hts hGd rfl rfl rfl (hO.2.2.2.2.2.1.2.2.1 _ hh) (hts _ hm.2.1) ⟨hm.2.2.1.1, hm.2.2.1.2, hm.2.2.2.1⟩ ⟨?_, ?_⟩, hts _ hsta, trivial⟩ ⟨p1, p2⟩ rfl rfl hL.1 rfl (lv_room hw) hd ⟨by omega, by omega⟩)) (fun _ _ _ h => h.elim) k
  · show 10 + F'.2.2.2.1 + 1 ≤ R.frames
    omega
  · show 8 + (F'.2.2.1 + 11) + (200 + 64 * F'.2.2.2.1) ≤ R.locals
    omega
/-- not caught here: it goes on to the caller -/
theorem VX_out {E : String} {ret : Option FieldType} (hQ : Fin9 G C F ret Qr Qx) (hh : F.2.2.2.2.2.2 = []) (h1 : kc ≤ F.2.2.2.2.1) (h2 : ks ≤ F.2.2.2.2.2.1) (hq : Qx E h n) : VX G C F pc ls h n kc ks E := by
  obtain ⟨R, p, e, s, m, args, below, meth, c, Q⟩ := C
  intro hO H locs lsA rest q ce hH hS hL hce hcv hcl
  obtain ⟨rfl, hr⟩ := hQ
  have ht := hO.2.2.2.2.2.2.2.2.2
  rw [hh] at ht
  exact vx_out (fun x hx => by rw [ht] at hx; cases hx) hO.2.2.2.2.2.2.2.1 hce hcv hcl (fun t ht9 _ => ⟨h, n, hq, by rw [ht9]; exact hH, hS.F ht9⟩) hS.2.2 h1 h2
end Rows3
