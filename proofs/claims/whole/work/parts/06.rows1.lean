def Kk (G : Gl) (U : State) : Prop := va_K (gD G) classes (gT G) U ∧ G.2.1 ≤ U.heap.size ∧ Kx nM_l nF_l sT_l nC_l cC_l nD_l nS_n lenS_l bytS_l G U
theorem Kk.warm {G : Gl} {s U : State} (h : Kk G s) (hW : s.WarmedH U.vm) (hz : G.2.1 ≤ U.heap.size) (hk : ∀ a : Nat, a < s.heap.size → ¬ gA G a → U.heap[a]? = s.heap[a]?) : Kk G U := ⟨va_K.moved hW.alike h.1, hz, h.2.2.warm hW hk⟩
def Okx (G : Gl) (C : Cx) (F : Fi) : Prop := match C with
  | (R, p, e, s, m, args, below, meth, c, Q) => p.tables.exec = Jvm.exec ∧ c.code = F.2.1 ∧ c.maxLocals = F.2.2.1 ∧ s.vm.findClass F.1 = some m.cls ∧ (∀ w ∈ gw, w.before args s = true) ∧ Kk G s ∧ (10 + F.2.2.2.1 ≤ R.frames ∧ 200 + 64 * F.2.2.2.1 ≤ R.locals ∧ F.2.2.2.2.1 ≤ R.cells ∧ F.2.2.2.2.2.1 ≤ R.slots) ∧ meth.locks = false ∧ G.1.stackTraces = false ∧ c.exceptionTable.toList = tableOf F.2.2.2.2.2.2
/-- the locals that are known, each of one word -/
def Lh (lsA : Array Slot) (nL : Nat) (ls : List (Option Value)) : Prop := lsA.size = nL ∧ ls.length = nL ∧ lv_wf lsA ∧ ∀ (i : Nat) (v : Value), ls[i]? = some (some v) → lsA[i]? = some (Slot.val v) ∧ v.category = 1
def V (G : Gl) (C : Cx) (F : Fi) (pc : Nat) (ls : List (Option Value)) (st : List Value) (h : Hm) (n kc ks : Nat) : Prop := match C with
  | (R, p, e, s, m, args, below, meth, c, Q) => Okx G (R, p, e, s, m, args, below, meth, c, Q) F → ∀ (H : Heap) (locs : List Loc) (lsA : Array Slot), Hp G h n H → va_S (gA G) s.heap H locs → Lh lsA F.2.2.1 ls → W p G.1 e R s m args below meth c H locs kc ks Q (F0 m pc lsA st)
/-- the frame with an exception of class E thrown over it -/
def VX (G : Gl) (C : Cx) (F : Fi) (pc : Nat) (ls : List (Option Value)) (h : Hm) (n kc ks : Nat) (E : String) : Prop := match C with
  | (R, p, e, s, m, args, below, meth, c, Q) => Okx G (R, p, e, s, m, args, below, meth, c, Q) F → ∀ (H : Heap) (locs : List Loc) (lsA : Array Slot) (rest : List Value) (q : Addr) (ce : Cell), Hp G h n H → va_S (gA G) s.heap H locs → Lh lsA F.2.2.1 ls → H[q]? = some ce → ce.vm = .none → s.vm.findClass E = some ce.cls → vx_W p G.1 e R s m args below meth c H locs kc ks Q (F0 m pc lsA rest) q
section Rows1
variable {G : Gl} {C : Cx} {F : Fi} {pc : Nat} {ls ls' : List (Option Value)} {st : List Value} {h : Hm} {n kc ks : Nat}
theorem V_iconst {z : Int} {v : Int32} (hd : decode F.2.1 pc = .ok (.iconst z, 1)) (hv : Int32.ofInt z = v) (k : V G C F (pc + 1) ls (.int v :: st) h n kc ks) : V G C F pc ls (st) h n kc ks := by
  obtain ⟨R, p, e, s, m, args, below, meth, c, Q⟩ := C
  intro hO H locs lsA hH hS hL
  exact lv_iconst hO.1 hO.2.1 hd hv (k hO H locs lsA hH hS hL)
theorem V_bipush {z : Int} {v : Int32} (hd : decode F.2.1 pc = .ok (.bipush z, 2)) (hv : (Int8.ofInt z).toInt32 = v) (k : V G C F (pc + 2) ls (.int v :: st) h n kc ks) : V G C F pc ls (st) h n kc ks := by
  obtain ⟨R, p, e, s, m, args, below, meth, c, Q⟩ := C
  intro hO H locs lsA hH hS hL
  exact lv_bipush hO.1 hO.2.1 hd hv (k hO H locs lsA hH hS hL)
theorem V_sipush {z : Int} {v : Int32} (hd : decode F.2.1 pc = .ok (.sipush z, 3)) (hv : (Int16.ofInt z).toInt32 = v) (k : V G C F (pc + 3) ls (.int v :: st) h n kc ks) : V G C F pc ls (st) h n kc ks := by
  obtain ⟨R, p, e, s, m, args, below, meth, c, Q⟩ := C
  intro hO H locs lsA hH hS hL
  exact lv_sipush hO.1 hO.2.1 hd hv (k hO H locs lsA hH hS hL)
theorem V_lconst {z : Fin 2} {v : Int64} (hd : decode F.2.1 pc = .ok (.lconst z, 1)) (hv : Int64.ofNat (z : Nat) = v) (k : V G C F (pc + 1) ls (.long v :: st) h n kc ks) : V G C F pc ls (st) h n kc ks := by
  obtain ⟨R, p, e, s, m, args, below, meth, c, Q⟩ := C
  intro hO H locs lsA hH hS hL
  exact lv_lconst hO.1 hO.2.1 hd hv (k hO H locs lsA hH hS hL)
theorem V_ldc {i : Nat} {v : Int32} (hd : decode F.2.1 pc = .ok (.ldc i, 2)) (hw : Cond.constant F.1 i v ∈ gw) (k : V G C F (pc + 2) ls (.int v :: st) h n kc ks) : V G C F pc ls (st) h n kc ks := by
  obtain ⟨R, p, e, s, m, args, below, meth, c, Q⟩ := C
  intro hO H locs lsA hH hS hL
  exact lv_ldc hO.1 hO.2.1 hO.2.2.2.1 (hO.2.2.2.2.1 _ hw) hd (k hO H locs lsA hH hS hL)
theorem V_iload_n {z : Fin 4} {i : Nat} {x : Int32} (hd : decode F.2.1 pc = .ok (.iload_n z, 1)) (hi : (z : Nat) = i) (hv : ls[i]? = some (some (.int x))) (k : V G C F (pc + 1) ls (.int x :: st) h n kc ks) : V G C F pc ls (st) h n kc ks := by
  obtain ⟨R, p, e, s, m, args, below, meth, c, Q⟩ := C
  intro hO H locs lsA hH hS hL
  exact lv_iload_n hO.1 hO.2.1 hd hi (hL.2.2.2 i _ hv).1 (k hO H locs lsA hH hS hL)
theorem V_iload {i : Nat} {x : Int32} (hd : decode F.2.1 pc = .ok (.iload i, 2)) (hv : ls[i]? = some (some (.int x))) (k : V G C F (pc + 2) ls (.int x :: st) h n kc ks) : V G C F pc ls (st) h n kc ks := by
  obtain ⟨R, p, e, s, m, args, below, meth, c, Q⟩ := C
  intro hO H locs lsA hH hS hL
  exact lv_iload hO.1 hO.2.1 hd (hL.2.2.2 i _ hv).1 (k hO H locs lsA hH hS hL)
theorem V_aload_n {z : Fin 4} {i : Nat} {x : Nat} (hd : decode F.2.1 pc = .ok (.aload_n z, 1)) (hi : (z : Nat) = i) (hv : ls[i]? = some (some (.ref x))) (k : V G C F (pc + 1) ls (.ref x :: st) h n kc ks) : V G C F pc ls (st) h n kc ks := by
  obtain ⟨R, p, e, s, m, args, below, meth, c, Q⟩ := C
  intro hO H locs lsA hH hS hL
  exact lv_aload_n hO.1 hO.2.1 hd hi (hL.2.2.2 i _ hv).1 (k hO H locs lsA hH hS hL)
theorem V_aload {i : Nat} {x : Nat} (hd : decode F.2.1 pc = .ok (.aload i, 2)) (hv : ls[i]? = some (some (.ref x))) (k : V G C F (pc + 2) ls (.ref x :: st) h n kc ks) : V G C F pc ls (st) h n kc ks := by
  obtain ⟨R, p, e, s, m, args, below, meth, c, Q⟩ := C
  intro hO H locs lsA hH hS hL
  exact lv_aload hO.1 hO.2.1 hd (hL.2.2.2 i _ hv).1 (k hO H locs lsA hH hS hL)
theorem V_iadd {x y : Int32} (hd : decode F.2.1 pc = .ok (.iadd, 1)) (k : V G C F (pc + 1) ls (.int (x + y) :: st) h n kc ks) : V G C F pc ls (.int y :: .int x :: st) h n kc ks := by
  obtain ⟨R, p, e, s, m, args, below, meth, c, Q⟩ := C
  intro hO H locs lsA hH hS hL
  exact lv_iadd hO.1 hO.2.1 hd (k hO H locs lsA hH hS hL)
theorem V_isub {x y : Int32} (hd : decode F.2.1 pc = .ok (.isub, 1)) (k : V G C F (pc + 1) ls (.int (x - y) :: st) h n kc ks) : V G C F pc ls (.int y :: .int x :: st) h n kc ks := by
  obtain ⟨R, p, e, s, m, args, below, meth, c, Q⟩ := C
  intro hO H locs lsA hH hS hL
  exact lv_isub hO.1 hO.2.1 hd (k hO H locs lsA hH hS hL)
theorem V_imul {x y : Int32} (hd : decode F.2.1 pc = .ok (.imul, 1)) (k : V G C F (pc + 1) ls (.int (x * y) :: st) h n kc ks) : V G C F pc ls (.int y :: .int x :: st) h n kc ks := by
  obtain ⟨R, p, e, s, m, args, below, meth, c, Q⟩ := C
  intro hO H locs lsA hH hS hL
  exact lv_imul hO.1 hO.2.1 hd (k hO H locs lsA hH hS hL)
theorem V_iand {x y : Int32} (hd : decode F.2.1 pc = .ok (.iand, 1)) (k : V G C F (pc + 1) ls (.int (x &&& y) :: st) h n kc ks) : V G C F pc ls (.int y :: .int x :: st) h n kc ks := by
  obtain ⟨R, p, e, s, m, args, below, meth, c, Q⟩ := C
  intro hO H locs lsA hH hS hL
  exact lv_iand hO.1 hO.2.1 hd (k hO H locs lsA hH hS hL)
theorem V_ior {x y : Int32} (hd : decode F.2.1 pc = .ok (.ior, 1)) (k : V G C F (pc + 1) ls (.int (x ||| y) :: st) h n kc ks) : V G C F pc ls (.int y :: .int x :: st) h n kc ks := by
  obtain ⟨R, p, e, s, m, args, below, meth, c, Q⟩ := C
  intro hO H locs lsA hH hS hL
  exact lv_ior hO.1 hO.2.1 hd (k hO H locs lsA hH hS hL)
theorem V_ixor {x y : Int32} (hd : decode F.2.1 pc = .ok (.ixor, 1)) (k : V G C F (pc + 1) ls (.int (x ^^^ y) :: st) h n kc ks) : V G C F pc ls (.int y :: .int x :: st) h n kc ks := by
  obtain ⟨R, p, e, s, m, args, below, meth, c, Q⟩ := C
  intro hO H locs lsA hH hS hL
  exact lv_ixor hO.1 hO.2.1 hd (k hO H locs lsA hH hS hL)
theorem V_ishl {x y : Int32} (hd : decode F.2.1 pc = .ok (.ishl, 1)) (k : V G C F (pc + 1) ls (.int (x <<< (y &&& 31)) :: st) h n kc ks) : V G C F pc ls (.int y :: .int x :: st) h n kc ks := by
  obtain ⟨R, p, e, s, m, args, below, meth, c, Q⟩ := C
  intro hO H locs lsA hH hS hL
  exact lv_ishl hO.1 hO.2.1 hd (k hO H locs lsA hH hS hL)
theorem V_ishr {x y : Int32} (hd : decode F.2.1 pc = .ok (.ishr, 1)) (k : V G C F (pc + 1) ls (.int (x >>> (y &&& 31)) :: st) h n kc ks) : V G C F pc ls (.int y :: .int x :: st) h n kc ks := by
  obtain ⟨R, p, e, s, m, args, below, meth, c, Q⟩ := C
  intro hO H locs lsA hH hS hL
  exact lv_ishr hO.1 hO.2.1 hd (k hO H locs lsA hH hS hL)
theorem V_idiv {x y : Int32} (hd : decode F.2.1 pc = .ok (.idiv, 1)) (hne : ¬ y = 0) (k : V G C F (pc + 1) ls (.int (x / y) :: st) h n kc ks) : V G C F pc ls (.int y :: .int x :: st) h n kc ks := by
  obtain ⟨R, p, e, s, m, args, below, meth, c, Q⟩ := C
  intro hO H locs lsA hH hS hL
  exact lv_idiv hO.1 hO.2.1 hd hne (k hO H locs lsA hH hS hL)
theorem V_irem {x y : Int32} (hd : decode F.2.1 pc = .ok (.irem, 1)) (hne : ¬ y = 0) (k : V G C F (pc + 1) ls (.int (x - x / y * y) :: st) h n kc ks) : V G C F pc ls (.int y :: .int x :: st) h n kc ks := by
  obtain ⟨R, p, e, s, m, args, below, meth, c, Q⟩ := C
  intro hO H locs lsA hH hS hL
  exact lv_irem hO.1 hO.2.1 hd hne (k hO H locs lsA hH hS hL)
theorem V_iushr {x y : Int32} (hd : decode F.2.1 pc = .ok (.iushr, 1)) (k : V G C F (pc + 1) ls (.int ((x.toUInt32 >>> (y.toUInt32 &&& Int32.toUInt32 31)).toInt32) :: st) h n kc ks) : V G C F pc ls (.int y :: .int x :: st) h n kc ks := by
  obtain ⟨R, p, e, s, m, args, below, meth, c, Q⟩ := C
  intro hO H locs lsA hH hS hL
  exact lv_iushr hO.1 hO.2.1 hd rfl (k hO H locs lsA hH hS hL)
theorem V_ineg {x : Int32} (hd : decode F.2.1 pc = .ok (.ineg, 1)) (k : V G C F (pc + 1) ls (.int (-x) :: st) h n kc ks) : V G C F pc ls (.int x :: st) h n kc ks := by
  obtain ⟨R, p, e, s, m, args, below, meth, c, Q⟩ := C
  intro hO H locs lsA hH hS hL
  exact lv_ineg hO.1 hO.2.1 hd (k hO H locs lsA hH hS hL)
theorem V_i2l {x : Int32} (hd : decode F.2.1 pc = .ok (.i2l, 1)) (k : V G C F (pc + 1) ls (.long x.toInt64 :: st) h n kc ks) : V G C F pc ls (.int x :: st) h n kc ks := by
  obtain ⟨R, p, e, s, m, args, below, meth, c, Q⟩ := C
  intro hO H locs lsA hH hS hL
  exact lv_i2l hO.1 hO.2.1 hd rfl (k hO H locs lsA hH hS hL)
theorem V_i2b {x : Int32} (hd : decode F.2.1 pc = .ok (.i2b, 1)) (k : V G C F (pc + 1) ls (.int x.toInt8.toInt32 :: st) h n kc ks) : V G C F pc ls (.int x :: st) h n kc ks := by
  obtain ⟨R, p, e, s, m, args, below, meth, c, Q⟩ := C
  intro hO H locs lsA hH hS hL
  exact lv_i2b hO.1 hO.2.1 hd rfl (k hO H locs lsA hH hS hL)
theorem V_i2c {x : Int32} (hd : decode F.2.1 pc = .ok (.i2c, 1)) (k : V G C F (pc + 1) ls (.int ((x.toUInt32 % 65536).toInt32) :: st) h n kc ks) : V G C F pc ls (.int x :: st) h n kc ks := by
  obtain ⟨R, p, e, s, m, args, below, meth, c, Q⟩ := C
  intro hO H locs lsA hH hS hL
  exact lv_i2c hO.1 hO.2.1 hd rfl (k hO H locs lsA hH hS hL)
theorem V_dup {v : Value} (hd : decode F.2.1 pc = .ok (.dup, 1)) (hv : v.category = 1) (k : V G C F (pc + 1) ls (v :: v :: st) h n kc ks) : V G C F pc ls (v :: st) h n kc ks := by
  obtain ⟨R, p, e, s, m, args, below, meth, c, Q⟩ := C
  intro hO H locs lsA hH hS hL
  exact lv_dup hO.1 hO.2.1 hd hv (k hO H locs lsA hH hS hL)
theorem V_pop {v : Value} (hd : decode F.2.1 pc = .ok (.pop, 1)) (hv : v.category = 1) (k : V G C F (pc + 1) ls (st) h n kc ks) : V G C F pc ls (v :: st) h n kc ks := by
  obtain ⟨R, p, e, s, m, args, below, meth, c, Q⟩ := C
  intro hO H locs lsA hH hS hL
  exact lv_pop hO.1 hO.2.1 hd hv (k hO H locs lsA hH hS hL)
theorem V_dup2 {v w : Value} (hd : decode F.2.1 pc = .ok (.dup2, 1)) (hv : v.category = 1) (hw : w.category = 1) (k : V G C F (pc + 1) ls (v :: w :: v :: w :: st) h n kc ks) : V G C F pc ls (v :: w :: st) h n kc ks := by
  obtain ⟨R, p, e, s, m, args, below, meth, c, Q⟩ := C
  intro hO H locs lsA hH hS hL
  exact lv_dup2_11 hO.1 hO.2.1 hd hv hw (k hO H locs lsA hH hS hL)
theorem V_goto {off : Int} {tgt : Nat} (hd : decode F.2.1 pc = .ok (.goto off, 3)) (ht : (pc : Int) + off = (tgt : Int)) (k : V G C F tgt ls st h n kc ks) : V G C F pc ls st h n kc ks := by
  obtain ⟨R, p, e, s, m, args, below, meth, c, Q⟩ := C
  intro hO H locs lsA hH hS hL
  exact lv_goto hO.1 hO.2.1 hd ht (k hO H locs lsA hH hS hL)
theorem V_if_eq {x : Int32} {off : Int} {tgt : Nat} (hd : decode F.2.1 pc = .ok (.ifCond .eq off, 3)) (ht : (pc : Int) + off = (tgt : Int)) (kt : x = 0 → V G C F tgt ls st h n kc ks) (kf : ¬ x = 0 → V G C F (pc + 3) ls st h n kc ks) : V G C F pc ls (.int x :: st) h n kc ks := by
  obtain ⟨R, p, e, s, m, args, below, meth, c, Q⟩ := C
  intro hO H locs lsA hH hS hL
  exact lv_if_eq hO.1 hO.2.1 hd ht (fun q => kt q hO H locs lsA hH hS hL) (fun q => kf q hO H locs lsA hH hS hL)
theorem V_if_ne {x : Int32} {off : Int} {tgt : Nat} (hd : decode F.2.1 pc = .ok (.ifCond .ne off, 3)) (ht : (pc : Int) + off = (tgt : Int)) (kt : ¬ x = 0 → V G C F tgt ls st h n kc ks) (kf : x = 0 → V G C F (pc + 3) ls st h n kc ks) : V G C F pc ls (.int x :: st) h n kc ks := by
  obtain ⟨R, p, e, s, m, args, below, meth, c, Q⟩ := C
  intro hO H locs lsA hH hS hL
  exact lv_if_ne hO.1 hO.2.1 hd ht (fun q => kt q hO H locs lsA hH hS hL) (fun q => kf q hO H locs lsA hH hS hL)
theorem V_if_lt {x : Int32} {off : Int} {tgt : Nat} (hd : decode F.2.1 pc = .ok (.ifCond .lt off, 3)) (ht : (pc : Int) + off = (tgt : Int)) (kt : x < 0 → V G C F tgt ls st h n kc ks) (kf : ¬ x < 0 → V G C F (pc + 3) ls st h n kc ks) : V G C F pc ls (.int x :: st) h n kc ks := by
  obtain ⟨R, p, e, s, m, args, below, meth, c, Q⟩ := C
  intro hO H locs lsA hH hS hL
  exact lv_if_lt hO.1 hO.2.1 hd ht (fun q => kt q hO H locs lsA hH hS hL) (fun q => kf q hO H locs lsA hH hS hL)
theorem V_if_ge {x : Int32} {off : Int} {tgt : Nat} (hd : decode F.2.1 pc = .ok (.ifCond .ge off, 3)) (ht : (pc : Int) + off = (tgt : Int)) (kt : 0 ≤ x → V G C F tgt ls st h n kc ks) (kf : ¬ 0 ≤ x → V G C F (pc + 3) ls st h n kc ks) : V G C F pc ls (.int x :: st) h n kc ks := by
  obtain ⟨R, p, e, s, m, args, below, meth, c, Q⟩ := C
  intro hO H locs lsA hH hS hL
  exact lv_if_ge hO.1 hO.2.1 hd ht (fun q => kt q hO H locs lsA hH hS hL) (fun q => kf q hO H locs lsA hH hS hL)
theorem V_if_gt {x : Int32} {off : Int} {tgt : Nat} (hd : decode F.2.1 pc = .ok (.ifCond .gt off, 3)) (ht : (pc : Int) + off = (tgt : Int)) (kt : 0 < x → V G C F tgt ls st h n kc ks) (kf : ¬ 0 < x → V G C F (pc + 3) ls st h n kc ks) : V G C F pc ls (.int x :: st) h n kc ks := by
  obtain ⟨R, p, e, s, m, args, below, meth, c, Q⟩ := C
  intro hO H locs lsA hH hS hL
  exact lv_if_gt hO.1 hO.2.1 hd ht (fun q => kt q hO H locs lsA hH hS hL) (fun q => kf q hO H locs lsA hH hS hL)
theorem V_if_le {x : Int32} {off : Int} {tgt : Nat} (hd : decode F.2.1 pc = .ok (.ifCond .le off, 3)) (ht : (pc : Int) + off = (tgt : Int)) (kt : x ≤ 0 → V G C F tgt ls st h n kc ks) (kf : ¬ x ≤ 0 → V G C F (pc + 3) ls st h n kc ks) : V G C F pc ls (.int x :: st) h n kc ks := by
  obtain ⟨R, p, e, s, m, args, below, meth, c, Q⟩ := C
  intro hO H locs lsA hH hS hL
  exact lv_if_le hO.1 hO.2.1 hd ht (fun q => kt q hO H locs lsA hH hS hL) (fun q => kf q hO H locs lsA hH hS hL)
theorem V_icmp_eq {x y : Int32} {off : Int} {tgt : Nat} (hd : decode F.2.1 pc = .ok (.if_icmp .eq off, 3)) (ht : (pc : Int) + off = (tgt : Int)) (kt : x = y → V G C F tgt ls st h n kc ks) (kf : ¬ x = y → V G C F (pc + 3) ls st h n kc ks) : V G C F pc ls (.int y :: .int x :: st) h n kc ks := by
  obtain ⟨R, p, e, s, m, args, below, meth, c, Q⟩ := C
  intro hO H locs lsA hH hS hL
  exact lv_icmp_eq hO.1 hO.2.1 hd ht (fun q => kt q hO H locs lsA hH hS hL) (fun q => kf q hO H locs lsA hH hS hL)
theorem V_icmp_ne {x y : Int32} {off : Int} {tgt : Nat} (hd : decode F.2.1 pc = .ok (.if_icmp .ne off, 3)) (ht : (pc : Int) + off = (tgt : Int)) (kt : ¬ x = y → V G C F tgt ls st h n kc ks) (kf : x = y → V G C F (pc + 3) ls st h n kc ks) : V G C F pc ls (.int y :: .int x :: st) h n kc ks := by
  obtain ⟨R, p, e, s, m, args, below, meth, c, Q⟩ := C
  intro hO H locs lsA hH hS hL
  exact lv_icmp_ne hO.1 hO.2.1 hd ht (fun q => kt q hO H locs lsA hH hS hL) (fun q => kf q hO H locs lsA hH hS hL)
theorem V_icmp_lt {x y : Int32} {off : Int} {tgt : Nat} (hd : decode F.2.1 pc = .ok (.if_icmp .lt off, 3)) (ht : (pc : Int) + off = (tgt : Int)) (kt : x < y → V G C F tgt ls st h n kc ks) (kf : ¬ x < y → V G C F (pc + 3) ls st h n kc ks) : V G C F pc ls (.int y :: .int x :: st) h n kc ks := by
  obtain ⟨R, p, e, s, m, args, below, meth, c, Q⟩ := C
  intro hO H locs lsA hH hS hL
  exact lv_icmp_lt hO.1 hO.2.1 hd ht (fun q => kt q hO H locs lsA hH hS hL) (fun q => kf q hO H locs lsA hH hS hL)
theorem V_icmp_ge {x y : Int32} {off : Int} {tgt : Nat} (hd : decode F.2.1 pc = .ok (.if_icmp .ge off, 3)) (ht : (pc : Int) + off = (tgt : Int)) (kt : y ≤ x → V G C F tgt ls st h n kc ks) (kf : ¬ y ≤ x → V G C F (pc + 3) ls st h n kc ks) : V G C F pc ls (.int y :: .int x :: st) h n kc ks := by
  obtain ⟨R, p, e, s, m, args, below, meth, c, Q⟩ := C
  intro hO H locs lsA hH hS hL
  exact lv_icmp_ge hO.1 hO.2.1 hd ht (fun q => kt q hO H locs lsA hH hS hL) (fun q => kf q hO H locs lsA hH hS hL)
theorem V_icmp_gt {x y : Int32} {off : Int} {tgt : Nat} (hd : decode F.2.1 pc = .ok (.if_icmp .gt off, 3)) (ht : (pc : Int) + off = (tgt : Int)) (kt : y < x → V G C F tgt ls st h n kc ks) (kf : ¬ y < x → V G C F (pc + 3) ls st h n kc ks) : V G C F pc ls (.int y :: .int x :: st) h n kc ks := by
  obtain ⟨R, p, e, s, m, args, below, meth, c, Q⟩ := C
  intro hO H locs lsA hH hS hL
  exact lv_icmp_gt hO.1 hO.2.1 hd ht (fun q => kt q hO H locs lsA hH hS hL) (fun q => kf q hO H locs lsA hH hS hL)
theorem V_icmp_le {x y : Int32} {off : Int} {tgt : Nat} (hd : decode F.2.1 pc = .ok (.if_icmp .le off, 3)) (ht : (pc : Int) + off = (tgt : Int)) (kt : x ≤ y → V G C F tgt ls st h n kc ks) (kf : ¬ x ≤ y → V G C F (pc + 3) ls st h n kc ks) : V G C F pc ls (.int y :: .int x :: st) h n kc ks := by
  obtain ⟨R, p, e, s, m, args, below, meth, c, Q⟩ := C
  intro hO H locs lsA hH hS hL
  exact lv_icmp_le hO.1 hO.2.1 hd ht (fun q => kt q hO H locs lsA hH hS hL) (fun q => kf q hO H locs lsA hH hS hL)
theorem V_tableIn {dflt lo hi : Int} {offs : Array Int} {len : Nat} {x : Int32} {off : Int} {tgt : Nat} (hd : decode F.2.1 pc = .ok (.tableswitch dflt lo hi offs, len)) (h1 : ¬ x.toInt < lo) (h2 : ¬ hi < x.toInt) (ho : offs[(x.toInt - lo).toNat]? = some off) (ht : (pc : Int) + off = (tgt : Int)) (k : V G C F tgt ls st h n kc ks) : V G C F pc ls (.int x :: st) h n kc ks := by
  obtain ⟨R, p, e, s, m, args, below, meth, c, Q⟩ := C
  intro hO H locs lsA hH hS hL
  exact lv_tableIn hO.1 hO.2.1 hd h1 h2 ho ht (k hO H locs lsA hH hS hL)
theorem V_tableOut {dflt lo hi : Int} {offs : Array Int} {len : Nat} {x : Int32} {tgt : Nat} (hd : decode F.2.1 pc = .ok (.tableswitch dflt lo hi offs, len)) (h1 : x.toInt < lo ∨ hi < x.toInt) (ht : (pc : Int) + dflt = (tgt : Int)) (k : V G C F tgt ls st h n kc ks) : V G C F pc ls (.int x :: st) h n kc ks := by
  obtain ⟨R, p, e, s, m, args, below, meth, c, Q⟩ := C
  intro hO H locs lsA hH hS hL
  exact lv_tableOut hO.1 hO.2.1 hd h1 ht (k hO H locs lsA hH hS hL)
theorem V_lookup {dflt : Int} {ps : Array (Int × Int)} {len : Nat} {x : Int32} {off : Int} {tgt : Nat} (hd : decode F.2.1 pc = .ok (.lookupswitch dflt ps, len)) (hp : (ps.toList.zip (ps.toList.drop 1)).all (fun (a, next) => a.1 < next.1) = true) (ho : Op.lookupswitch.offset ps.toList dflt x.toInt = off) (ht : (pc : Int) + off = (tgt : Int)) (k : V G C F tgt ls st h n kc ks) : V G C F pc ls (.int x :: st) h n kc ks := by
  obtain ⟨R, p, e, s, m, args, below, meth, c, Q⟩ := C
  intro hO H locs lsA hH hS hL
  exact lv_lookup hO.1 hO.2.1 hd hp ho ht (k hO H locs lsA hH hS hL)
theorem V_lcmp {x y : Int64} (hd : decode F.2.1 pc = .ok (.lcmp, 1)) (k : V G C F (pc + 1) ls (.int (if y < x then 1 else if x = y then 0 else -1) :: st) h n kc ks) : V G C F pc ls (.long y :: .long x :: st) h n kc ks := by
  obtain ⟨R, p, e, s, m, args, below, meth, c, Q⟩ := C
  intro hO H locs lsA hH hS hL
  exact W.lcmp hO.1 hO.2.1 hd (k hO H locs lsA hH hS hL)
theorem asc_mem {ls : List (Option Value)} {j : Nat} {w : Value} : (j, w) ∈ (List.range ls.length).filterMap (fun i => (ls[i]?.join).map (fun v => (i, v))) ↔ ls[j]? = some (some w) := by
  rw [List.mem_filterMap]
  constructor
  · rintro ⟨i, -, hi⟩
    cases hx : ls[i]? with
    | none => rw [hx] at hi; cases hi
    | some o =>
      cases o with
      | none => rw [hx] at hi; cases hi
      | some v => rw [hx] at hi; cases hi; exact hx
  · intro hj
    refine ⟨j, List.mem_range.mpr (List.getElem?_eq_some_iff.mp hj).1, ?_⟩
    rw [hj]; rfl
theorem Lh.has {lsA : Array Slot} {nL : Nat} {ls : List (Option Value)} (hL : Lh lsA nL ls) : lv_has lsA nL ((List.range ls.length).filterMap (fun i => (ls[i]?.join).map (fun v => (i, v)))) := by
  refine ⟨hL.1, hL.2.2.1, fun q hq => ?_⟩
  obtain ⟨j, w⟩ := q
  exact (hL.2.2.2 j w (asc_mem.mp hq)).1
theorem Lh.set {lsA lsB : Array Slot} {nL i : Nat} {ls : List (Option Value)} {v : Value} (hL : Lh lsA nL ls) (hi : i < ls.length) (hv : v.category = 1)
    (hB : lv_has lsB nL ((i, v) :: ((List.range ls.length).filterMap (fun i => (ls[i]?.join).map (fun v => (i, v)))).filter (fun q => !(q.1 == i) && !(q.1 + 1 == i && q.2.category == 2)))) : Lh lsB nL (ls.set i (some v)) := by
  refine ⟨hB.1, by rw [List.length_set]; exact hL.2.1, hB.2.1, fun j w hj => ?_⟩
  by_cases hji : j = i
  · subst hji
    rw [List.getElem?_set_self hi] at hj
    cases hj
    exact ⟨hB.2.2 (j, v) List.mem_cons_self, hv⟩
  · rw [List.getElem?_set_ne (Ne.symm hji)] at hj
    have h1 := hL.2.2.2 j w hj
    refine ⟨hB.2.2 (j, w) (List.mem_cons_of_mem _ (List.mem_filter.mpr ⟨asc_mem.mpr hj, ?_⟩)), h1.2⟩
    simp [hji, h1.2]
theorem V_istore_n {z : Fin 4} {i : Nat} {x : Int32} {o : Option Value} (hd : decode F.2.1 pc = .ok (.istore_n z, 1)) (hi : (z : Nat) = i) (ho : ls[i]? = some o) (hs : ls.set i (some (.int x)) = ls') (k : V G C F (pc + 1) ls' st h n kc ks) : V G C F pc ls (.int x :: st) h n kc ks := by
  obtain ⟨R, p, e, s, m, args, below, meth, c, Q⟩ := C
  intro hO H locs lsA hH hS hL
  have hi9 : i < ls.length := (List.getElem?_eq_some_iff.mp ho).1
  subst hs
  exact lv_istore_n hO.1 hO.2.1 hd hi hL.has (by rw [← hL.2.1]; exact hi9) rfl (fun lsB hB => k hO H locs lsB hH hS (hL.set hi9 rfl hB))
theorem V_istore {i : Nat} {x : Int32} {o : Option Value} (hd : decode F.2.1 pc = .ok (.istore i, 2))  (ho : ls[i]? = some o) (hs : ls.set i (some (.int x)) = ls') (k : V G C F (pc + 2) ls' st h n kc ks) : V G C F pc ls (.int x :: st) h n kc ks := by
  obtain ⟨R, p, e, s, m, args, below, meth, c, Q⟩ := C
  intro hO H locs lsA hH hS hL
  have hi9 : i < ls.length := (List.getElem?_eq_some_iff.mp ho).1
  subst hs
  exact lv_istore hO.1 hO.2.1 hd hL.has (by rw [← hL.2.1]; exact hi9) rfl (fun lsB hB => k hO H locs lsB hH hS (hL.set hi9 rfl hB))
theorem V_astore_n {z : Fin 4} {i : Nat} {x : Nat} {o : Option Value} (hd : decode F.2.1 pc = .ok (.astore_n z, 1)) (hi : (z : Nat) = i) (ho : ls[i]? = some o) (hs : ls.set i (some (.ref x)) = ls') (k : V G C F (pc + 1) ls' st h n kc ks) : V G C F pc ls (.ref x :: st) h n kc ks := by
  obtain ⟨R, p, e, s, m, args, below, meth, c, Q⟩ := C
  intro hO H locs lsA hH hS hL
  have hi9 : i < ls.length := (List.getElem?_eq_some_iff.mp ho).1
  subst hs
  exact lv_astore_n hO.1 hO.2.1 hd hi hL.has (by rw [← hL.2.1]; exact hi9) rfl (fun lsB hB => k hO H locs lsB hH hS (hL.set hi9 rfl hB))
theorem V_astore {i : Nat} {x : Nat} {o : Option Value} (hd : decode F.2.1 pc = .ok (.astore i, 2))  (ho : ls[i]? = some o) (hs : ls.set i (some (.ref x)) = ls') (k : V G C F (pc + 2) ls' st h n kc ks) : V G C F pc ls (.ref x :: st) h n kc ks := by
  obtain ⟨R, p, e, s, m, args, below, meth, c, Q⟩ := C
  intro hO H locs lsA hH hS hL
  have hi9 : i < ls.length := (List.getElem?_eq_some_iff.mp ho).1
  subst hs
  exact lv_astore hO.1 hO.2.1 hd hL.has (by rw [← hL.2.1]; exact hi9) rfl (fun lsB hB => k hO H locs lsB hH hS (hL.set hi9 rfl hB))
theorem V_iinc {i : Nat} {z : Int} {x v : Int32} (hd : decode F.2.1 pc = .ok (.iinc i z, 3)) (ho : ls[i]? = some (some (.int x))) (hv : x + Int32.ofInt z = v) (hs : ls.set i (some (.int v)) = ls') (k : V G C F (pc + 3) ls' st h n kc ks) : V G C F pc ls st h n kc ks := by
  obtain ⟨R, p, e, s, m, args, below, meth, c, Q⟩ := C
  intro hO H locs lsA hH hS hL
  have hi9 : i < ls.length := (List.getElem?_eq_some_iff.mp ho).1
  subst hs
  obtain ⟨k9, hk9⟩ := List.getElem?_of_mem (asc_mem.mpr ho)
  exact lv_iinc hO.1 hO.2.1 hd hL.has hk9 hv (by rw [← hL.2.1]; exact hi9) rfl (fun lsB hB => k hO H locs lsB hH hS (hL.set hi9 rfl hB))
end Rows1
