/-! texts, throws, copies, calls that may throw, catching, inherited methods -/
def slen (i : Nat) : Int32 := Int32.ofNat (lenS_l.getD i 0)
def schar (i : Nat) (k : Int32) : Option Int32 := if k < 0 ∨ lenS_l.getD i 0 ≤ k.toNatClampNeg then none else some ((((bytS_l.getD i []).getD k.toNatClampNeg 0 &&& 255).toUInt32 % 65536).toInt32)
def cpM (μ : Mem) (a0 n0 : Nat) (sp : Int32) (a1 n1 : Nat) (dp k : Int32) : Option Mem := if sp < 0 ∨ dp < 0 ∨ k < 0 ∨ n0 < sp.toNatClampNeg + k.toNatClampNeg ∨ n1 < dp.toNatClampNeg + k.toNatClampNeg then none else some (fun b => if b = a1 then va_cpy (μ a0) (μ a1) sp.toNatClampNeg dp.toNatClampNeg k.toNatClampNeg else μ b)
def Tk (own : String) (ik ix ic : Nat) (cls : String) : Prop := Bundle.fit cls = true ∧ Cond.classLink own ik cls ∈ gw ∧ Cond.initialized cls ∈ gw ∧ (∃ (tx : String) (i : Nat), (own, ix, tx, i) ∈ sT_l) ∧ (∀ w ∈ (vx_atS own ic cls ["java/lang/RuntimeException", "java/lang/Exception"]).filter goodWord, w ∈ gw) ∧ (∀ w ∈ (vx_atS own ic cls ["java/lang/RuntimeException", "java/lang/Exception"]).filter (fun w => !goodWord w), w ∈ cC_l.map (fun q => Cond.castable q.1 q.2) ++ nD_l.map Cond.declares) ∧ (∀ w ∈ Cond.classLink own ik cls :: Cond.initialized cls :: vx_atS own ic cls ["java/lang/RuntimeException", "java/lang/Exception"], vx_ot w = true)
section Rows6
variable {G : Gl} {C : Cx} {F F' : Fi} {pc : Nat} {ls ls' : List (Option Value)} {st st0 : List Value} {μ μ' : Mem} {h : Hm} {n kc ks kc' ks' : Nat} {Qr : Option Value → Hm → Nat → Prop} {Qx : String → Hm → Nat → Prop}
theorem V_callStr {y : MethodName} {ret : Option FieldType} {As : List Value} {idx i : Nat} (hM : Sd G y F' (.code y F'.2.1 F'.2.2.1 ret) (.ref (G.2.2.2.2.1 i) :: As) h n Qr Qx) (hm : LkM y F' (.code y F'.2.1 F'.2.2.1 ret) As.length) (hl : LkV F.1 idx y) (hc : y.cls = "java/lang/String") (hi : i < nS_n) (hd : decode F.2.1 pc = .ok (.invokevirtual idx, 3)) (hst : As.reverse ++ .ref (G.2.2.2.2.1 i) :: st = st0) (hw : (st.map fun v => v.category).sum ≤ 8)
    (hr : F'.2.2.2.1 < F.2.2.2.1 ∧ kc + F'.2.2.2.2.1 ≤ F.2.2.2.2.1 ∧ ks + F'.2.2.2.2.2.1 ≤ F.2.2.2.2.2.1)
    (kx : ∀ (E : String) (h' : Hm) (n' : Nat), Qx E h' n' → VX G C F pc ls h' n' (kc + F'.2.2.2.2.1) (ks + F'.2.2.2.2.2.1) E)
    (k : ∀ (r : Option Value) (h' : Hm) (n' : Nat), Qr r h' n' → V G C F (pc + 3) ls (r.toList ++ st) h' n' (kc + F'.2.2.2.2.1) (ks + F'.2.2.2.2.2.1)) : V G C F pc ls st0 h n kc ks := by
  obtain ⟨R, p, e, s, m, args, below, meth, c, Q⟩ := C
  intro hO H locs lsA hH hS hL
  subst hst
  obtain ⟨p1, p2⟩ := call9_pre (As := .ref (G.2.2.2.2.1 i) :: As) hO hH hS
  have hts := hO.2.2.2.2.1
  obtain ⟨r1, r2, r3, r4⟩ := hO.2.2.2.2.2.2.1
  have hm4 := hm.2.2.2.2
  have rcv : ∃ cell : Cell, H[G.2.2.2.2.1 i]? = some cell ∧ cell.vm.isStatics = false ∧ s.vm.findClass y.cls = some cell.cls := by
    obtain ⟨cell, h1, h2, h3, -⟩ := (hO.2.2.2.2.2.1.2.2.2.2.2.2.2.2.2.2.2 i hi).1.kept hS.2.1
    exact ⟨cell, h1, h2, by rw [hc]; exact h3⟩
  refine call9 hO hS hL (vx_runV (Ts := gw) (nL := F.2.2.1) (As := As) (ret := ret) ⟨hO.1, hO.2.1, hO.2.2.1, hO.2.2.2.1, hts⟩ hM (cwV As.length hts (fun w hw9 => ?_) rfl rfl rfl ⟨rfl, hm.2.2.1.1, hm.2.2.1.2, hm.2.2.2.1⟩ ⟨?_, ?_⟩) ⟨p1, rcv, p2⟩ rfl rfl hL.1 rfl (lv_room hw) hd ⟨by omega, by omega⟩) kx k
  · rcases List.mem_append.mp hw9 with h9 | h9
    · simp only [List.mem_cons, List.not_mem_nil, or_false] at h9
      rcases h9 with h9 | h9 | h9 | h9
      · rw [h9]; exact gw_good _ hl.1
      · rw [h9]; exact gw_good _ hl.2.1
      · rw [h9]; exact gw_good _ hl.2.2
      · rw [h9]; exact gw_good _ hm.2.1
    · rcases List.mem_cons.mp h9 with h9 | h9
      · rw [h9]; exact gw_good _ hm.1
      · exact gw_good _ h9
  · show 10 + F'.2.2.2.1 + 1 ≤ R.frames
    omega
  · show 8 + (F'.2.2.1 + 11) + (200 + 64 * F'.2.2.2.1) ≤ R.locals
    omega

theorem V_ldcS {i idx : Nat} {tx : String} (hd : decode F.2.1 pc = .ok (.ldc idx, 2)) (hi : (F.1, idx, tx, i) ∈ sT_l) (k : V G C F (pc + 2) ls (.ref (G.2.2.2.2.1 i) :: st) h n kc ks) : V G C F pc ls st h n kc ks := by
  obtain ⟨R, p, e, s, m, args, below, meth, c, Q⟩ := C
  intro hO H locs lsA hH hS hL
  exact va_ldcS hO.1 hO.2.1 hO.2.2.2.1 (hO.2.2.2.2.2.1.2.2.2.2.1 _ hi) hd (k hO H locs lsA hH hS hL)
theorem V_strval {idx i : Nat} {ref : String} (hd : decode F.2.1 pc = .ok (.getfield idx, 3)) (hi : i < nS_n) (hl : Cond.fieldLink F.1 idx "java/lang/String" "value" "[B" ∈ gw) (k : V G C F (pc + 3) ls (.ref (G.2.2.2.2.2 i) :: st) h n kc ks) : V G C F pc ls (.ref (G.2.2.2.2.1 i) :: st) h n kc ks := by
  obtain ⟨R, p, e, s, m, args, below, meth, c, Q⟩ := C
  intro hO H locs lsA hH hS hL
  exact vk_getf hO.1 hO.2.1 (hO.2.2.2.2.2.1.2.2.2.2.2.2.2.2.2.2.2 i hi).2.2.1 hS hO.2.2.2.1 (hO.2.2.2.2.1 _ hl) (fun x h9 => h9) hd (k hO H locs lsA hH hS hL)
theorem V_strcod {idx i : Nat} (hd : decode F.2.1 pc = .ok (.getfield idx, 3)) (hi : i < nS_n) (hl : Cond.fieldLink F.1 idx "java/lang/String" "coder" "B" ∈ gw) (k : V G C F (pc + 3) ls (.int 0 :: st) h n kc ks) : V G C F pc ls (.ref (G.2.2.2.2.1 i) :: st) h n kc ks := by
  obtain ⟨R, p, e, s, m, args, below, meth, c, Q⟩ := C
  intro hO H locs lsA hH hS hL
  exact vk_getf hO.1 hO.2.1 (hO.2.2.2.2.2.1.2.2.2.2.2.2.2.2.2.2.2 i hi).2.1 hS hO.2.2.2.1 (hO.2.2.2.2.1 _ hl) (fun x h9 => h9) hd (k hO H locs lsA hH hS hL)
theorem V_strcmp {idx : Nat} (hd : decode F.2.1 pc = .ok (.getstatic idx, 3)) (hl : Cond.fieldLink F.1 idx "java/lang/String" "COMPACT_STRINGS" "Z" ∈ gw) (k : V G C F (pc + 3) ls (.int 1 :: st) h n kc ks) : V G C F pc ls st h n kc ks := by
  obtain ⟨R, p, e, s, m, args, below, meth, c, Q⟩ := C
  intro hO H locs lsA hH hS hL
  exact va_gets hO.1 hO.2.1 hO.2.2.2.2.2.1.2.2.2.2.2.2.2.2.2.2.1.1 hS hO.2.2.2.1 (hO.2.2.2.2.1 _ hl) (fun x h9 => h9) hd (k hO H locs lsA hH hS hL)
theorem V_sio {idx : Nat} (hd : decode F.2.1 pc = .ok (.getstatic idx, 3)) (hl : Cond.fieldLink F.1 idx "jdk/internal/util/Preconditions" "SIOOBE_FORMATTER" "Ljava/util/function/BiFunction;" ∈ gw) (k : ∀ v : Value, v.category = 1 → V G C F (pc + 3) ls (v :: st) h n kc ks) : V G C F pc ls st h n kc ks := by
  obtain ⟨R, p, e, s, m, args, below, meth, c, Q⟩ := C
  intro hO H locs lsA hH hS hL
  rcases hO.2.2.2.2.2.1.2.2.2.2.2.2.2.2.2.2.1.2.1 with h9 | ⟨t, h9⟩
  · exact va_gets hO.1 hO.2.1 h9 hS hO.2.2.2.1 (hO.2.2.2.2.1 _ hl) (fun x h9 => h9) hd (k _ rfl hO H locs lsA hH hS hL)
  · exact va_gets hO.1 hO.2.1 h9 hS hO.2.2.2.1 (hO.2.2.2.2.1 _ hl) (fun x h9 => h9) hd (k _ rfl hO H locs lsA hH hS hL)
theorem V_strlen {i : Nat} {v : Int32} (hd : decode F.2.1 pc = .ok (.arraylength, 1)) (hi : i < nS_n) (hv : slen i = v) (k : V G C F (pc + 1) ls (.int v :: st) h n kc ks) : V G C F pc ls (.ref (G.2.2.2.2.2 i) :: st) h n kc ks := by
  obtain ⟨R, p, e, s, m, args, below, meth, c, Q⟩ := C
  intro hO H locs lsA hH hS hL
  exact va_tlen hO.1 hO.2.1 (hO.2.2.2.2.2.1.2.2.2.2.2.2.2.2.2.2.2 i hi).2.2.2 hS hv hd (k hO H locs lsA hH hS hL)
theorem V_strbyt {i : Nat} {j v : Int32} (hd : decode F.2.1 pc = .ok (.baload, 1)) (hi : i < nS_n) (hj : vp_in j (lenS_l.getD i 0)) (hv : (bytS_l.getD i []).getD j.toNatClampNeg 0 = v) (k : V G C F (pc + 1) ls (.int v :: st) h n kc ks) : V G C F pc ls (.int j :: .ref (G.2.2.2.2.2 i) :: st) h n kc ks := by
  obtain ⟨R, p, e, s, m, args, below, meth, c, Q⟩ := C
  intro hO H locs lsA hH hS hL
  exact va_tb hO.1 hO.2.1 (hO.2.2.2.2.2.1.2.2.2.2.2.2.2.2.2.2.2 i hi).2.2.2 hS hj (by rw [hv]) hd (k hO H locs lsA hH hS hL)
theorem V_throwS {k0 ik ix ic : Nat} {cls : String} {ret : Option FieldType} (hT : Tk F.1 ik ix ic cls) (hQ : Fin9 G C F ret Qr Qx) (hh : F.2.2.2.2.2.2 = []) (d0 : decode F.2.1 pc = .ok (.new ik, 3)) (d3 : decode F.2.1 (pc + 3) = .ok (.dup, 1)) (d4 : decode F.2.1 (pc + 4) = .ok (.ldc ix, 2)) (d6 : decode F.2.1 (pc + 6) = .ok (.invokespecial ic, 3)) (d9 : decode F.2.1 (pc + 9) = .ok (.athrow, 1)) (hw : (st.map fun v => v.category).sum ≤ 8) (h1 : kc + 1 ≤ F.2.2.2.2.1) (h2 : ks + 6 ≤ F.2.2.2.2.2.1) (hq : ∀ n', Qx cls h n') : V G C F pc ls st h n kc ks := by
  obtain ⟨R, p, e, s, m, args, below, meth, c, Q⟩ := C
  intro hO H locs lsA hH hS hL
  obtain ⟨rfl, hr⟩ := hQ
  obtain ⟨t1, t2, t3, ⟨tx, i, t4⟩, t5, t6, t7⟩ := hT
  have ht := hO.2.2.2.2.2.2.2.2.2
  rw [hh] at ht
  have hts := hO.2.2.2.2.1
  obtain ⟨r1, r2, r3, r4⟩ := hO.2.2.2.2.2.2.1
  have hKx := hO.2.2.2.2.2.1.2.2
  refine vx_throwS (A := gA G) (names := ["java/lang/RuntimeException", "java/lang/Exception"]) hO.1 hO.2.1 hO.2.2.2.2.2.2.2.2.1 hO.2.2.2.1 t1 (by decide) (hts _ t2) (hts _ t3) (hKx.2.2.1 _ t4) (vx_hat (fun w hw9 => hts _ (t5 w hw9)) t6 (fun w hw9 => ?_)) t7 hKx.2.2.2.2.2.2.1 hKx.2.2.2.2.2.2.2.1 hS (hL.1.trans hO.2.2.1.symm) d0 d3 d4 d6 d9 (fun x hx => by rw [ht] at hx; cases hx) (by show 2 + 3 < R.frames; omega) (by show _ + (13 * (2 + 1) + 43) ≤ R.locals; omega) (by omega) (by omega) hO.2.2.2.2.2.2.2.1 (fun t hvm hz ho => ?_) hS.2.2 h1 h2
  · rcases List.mem_append.mp hw9 with h9 | h9
    · obtain ⟨q, hq9, rfl⟩ := List.mem_map.mp h9
      exact va_Nw.use rfl (hKx.2.2.2.2.1 q hq9)
    · obtain ⟨q, hq9, rfl⟩ := List.mem_map.mp h9
      exact va_Nw.use rfl (hKx.2.2.2.2.2.1 q hq9)
  · exact ⟨h, _, hq _, hH.skip hz ho, Nat.le_trans hS.1 hz, fun q h8 h9 => (ho q (Nat.lt_of_lt_of_le h8 hS.1)).trans (hS.2.1 q h8 h9)⟩
theorem B_throw {k0 ik ix ic : Nat} {cls : String} {ret : Option FieldType} (hK : FinX G C F ret (.inl (k0, μ))) (hT : Tk F.1 ik ix ic cls) (hk : exN k0 = cls) (hh : F.2.2.2.2.2.2 = []) (d0 : decode F.2.1 pc = .ok (.new ik, 3)) (d3 : decode F.2.1 (pc + 3) = .ok (.dup, 1)) (d4 : decode F.2.1 (pc + 4) = .ok (.ldc ix, 2)) (d6 : decode F.2.1 (pc + 6) = .ok (.invokespecial ic, 3)) (d9 : decode F.2.1 (pc + 9) = .ok (.athrow, 1)) (hw : (st.map fun v => v.category).sum ≤ 8) (h1 : kc + 1 ≤ F.2.2.2.2.1) (h2 : ks + 6 ≤ F.2.2.2.2.2.1) : V G C F pc ls st (pic G μ) n kc ks := V_throwS (k0 := k0) hT hK hh d0 d3 d4 d6 d9 hw h1 h2 (fun _ => ⟨k0, μ, rfl, hk.symm, rfl⟩)
theorem X_out {k0 : Nat} {ret : Option FieldType} (hK : FinX G C F ret (.inl (k0, μ))) (hh : F.2.2.2.2.2.2 = []) (h1 : kc ≤ F.2.2.2.2.1) (h2 : ks ≤ F.2.2.2.2.2.1) : VX G C F pc ls (pic G μ) n kc ks (exN k0) := VX_out hK hh h1 h2 ⟨k0, μ, rfl, rfl, rfl⟩
/-- caught by the row x of the own table -/
theorem VX_catch {E name : String} (pre : List (Nat × Nat × Nat × Nat)) (x : Nat × Nat × Nat × Nat) (suf : List (Nat × Nat × Nat × Nat)) (hs : F.2.2.2.2.2.2 = pre ++ x :: suf) (hp : ∀ z ∈ pre, z.2.2.2 ≠ 0 ∧ ∃ nm : String, Cond.classLink F.1 z.2.2.2 nm ∈ gw ∧ (E, nm) ∈ nC_l) (hx : covers ⟨x.1, x.2.1, x.2.2.1, x.2.2.2⟩ pc = true) (h0 : x.2.2.2 ≠ 0) (hl : Cond.classLink F.1 x.2.2.2 name ∈ gw) (hc : (E, name) ∈ cC_l) (k : ∀ q : Nat, V G C F x.2.2.1 ls [.ref q] h n kc ks) : VX G C F pc ls h n kc ks E := by
  obtain ⟨R, p, e, s, m, args, below, meth, c, Q⟩ := C
  intro hO H locs lsA rest q ce hH hS hL hce hcv hcl
  have ht := hO.2.2.2.2.2.2.2.2.2
  rw [hs] at ht
  have hts := hO.2.2.2.2.1
  have hKx := hO.2.2.2.2.2.1.2.2
  refine vx_catch hO.2.2.2.1 (tableOf pre) ⟨x.1, x.2.1, x.2.2.1, x.2.2.2⟩ (tableOf suf) (by rw [ht]; simp [tableOf]) (fun z hz => ?_) hx h0 (hts _ hl) (va_Nw.use rfl (hKx.2.2.2.2.1 _ hc)) hce hcv hcl (k q hO H locs lsA hH hS hL)
  obtain ⟨z9, hz9, rfl⟩ := List.mem_map.mp hz
  obtain ⟨g1, nm, g2, g3⟩ := hp z9 hz9
  exact Or.inr ⟨g1, nm, hts _ g2, hKx.2.2.2.1 _ g3⟩
theorem cpM_some {a0 n0 a1 n1 : Nat} {sp dp k9 : Int32} (h : cpM μ a0 n0 sp a1 n1 dp k9 = some μ') : (¬ sp < 0 ∧ ¬ dp < 0 ∧ ¬ k9 < 0 ∧ sp.toNatClampNeg + k9.toNatClampNeg ≤ n0 ∧ dp.toNatClampNeg + k9.toNatClampNeg ≤ n1) ∧ (fun b => if b = a1 then va_cpy (μ a0) (μ a1) sp.toNatClampNeg dp.toNatClampNeg k9.toNatClampNeg else μ b) = μ' := by
  unfold cpM at h
  by_cases hc : sp < 0 ∨ dp < 0 ∨ k9 < 0 ∨ n0 < sp.toNatClampNeg + k9.toNatClampNeg ∨ n1 < dp.toNatClampNeg + k9.toNatClampNeg
  · rw [if_pos hc] at h; cases h
  · rw [if_neg hc] at h
    refine ⟨⟨fun q => hc (Or.inl q), fun q => hc (Or.inr (Or.inl q)), fun q => hc (Or.inr (Or.inr (Or.inl q))), Nat.not_lt.mp fun q => hc (Or.inr (Or.inr (Or.inr (Or.inl q)))), Nat.not_lt.mp fun q => hc (Or.inr (Or.inr (Or.inr (Or.inr q))))⟩, Option.some.inj h⟩
theorem B_acopy {a0 n0 a1 n1 idx : Nat} {sp dp k9 : Int32} (hk0 : kdL[a0]? = some (1, n0)) (hk1 : kdL[a1]? = some (1, n1)) (hv : cpM μ a0 n0 sp a1 n1 dp k9 = some μ') (hl : Cond.methodLink F.1 idx arraycopyName ∈ gw) (hn : Cond.native arraycopyName ∈ gw) (hs : Cond.static arraycopyName ∈ gw) (hi : Cond.initialized "java/lang/System" ∈ gw) (hd : decode F.2.1 pc = .ok (.invokestatic idx, 3)) (hw : (st.map fun v => v.category).sum ≤ 8) (k : V G C F (pc + 3) ls st (pic G μ') n kc ks) : V G C F pc ls (.int k9 :: .int dp :: .ref (G.2.1 + a1) :: .int sp :: .ref (G.2.1 + a0) :: st) (pic G μ) n kc ks := by
  obtain ⟨⟨h1, h2, h3, h4, h5⟩, h6⟩ := cpM_some hv
  subst h6
  obtain ⟨R, p, e, s, m, args, below, meth, c, Q⟩ := C
  intro hO H locs lsA hH hS hL
  have nn : ∀ z : Int32, ¬ z < 0 → z.toInt = (z.toNatClampNeg : Int) := by
    intro z hz
    have hz0 : (0 : Int) ≤ z.toInt := by
      have := Int32.not_lt.mp hz
      simpa using Int32.le_iff_toInt_le.mp this
    show z.toInt = ((z.toInt.toNat : Nat) : Int)
    omega
  intro T hT X
  have hts := hO.2.2.2.2.1
  have hK := hO.2.2.2.2.2.1.1
  obtain ⟨r1, r2, r3, r4⟩ := hO.2.2.2.2.2.2.1
  have hc0 : H[G.2.1 + a0]? = some (vp_cell (G.2.2.2.1 0) (n0, .inl (μ a0))) := hH.at (pic_at hk0)
  have hc1 : H[G.2.1 + a1]? = some (vp_cell (G.2.2.2.1 0) (n1, .inl (μ a1))) := hH.at (pic_at hk1)
  obtain ⟨-, k0, hk0', cm0, hkk0⟩ := (hK.2 0 _ rfl).1 n0 (fun j => .int (μ a0 j))
  obtain ⟨-, k1, hk1', cm1, hkk1⟩ := (hK.2 0 _ rfl).1 n1 (fun j => .int (μ a1 j))
  obtain ⟨vm', X', step⟩ := X.arraycopy hO.1 hO.2.2.2.1 (hts _ hl) (hts _ hn) (hts _ hs) (hts _ hi) (src := G.2.1 + a0) (dst := G.2.1 + a1) (cs := vp_cell (G.2.2.2.1 0) (n0, .inl (μ a0))) (cd := vp_cell (G.2.2.2.1 0) (n1, .inl (μ a1))) (srcPos := sp) (destPos := dp) (n := k9) (by rw [hT]; exact hc0) (by rw [hT]; exact hc1)
    (fun _ h => by cases h) (fun _ h => by cases h) (fun h => by cases h) (fun h => by cases h) hk0' hk1' hkk0 hkk1 (by simp [refKind]) h1 h2 h3
    (by rw [nn sp h1, nn k9 h3]; show ¬ _ > ((arrV (G.2.2.2.1 0) n0 (fun j => .int (μ a0 j))).slots.size : Int); rw [arrV_size]; omega)
    (by rw [nn dp h2, nn k9 h3]; show ¬ _ > ((arrV (G.2.2.2.1 0) n1 (fun j => .int (μ a1 j))).slots.size : Int); rw [arrV_size]; omega)
    (fun vm₁ _ i hi => by
      have e : (vp_cell (G.2.2.2.1 0) (n0, .inl (μ a0))).slots.getD (sp.toNatClampNeg + i) .null = .int (μ a0 (sp.toNatClampNeg + i)) := by
        show (arrV (G.2.2.2.1 0) n0 (fun j => .int (μ a0 j))).slots.getD _ _ = _
        rw [Array.getD_eq_getD_getElem?, arrV_read _ _ (by omega)]
        rfl
      refine ⟨?_, ?_⟩
      · rw [e]
        rfl
      · rw [e]
        exact trivial)
    (g := F0 m pc lsA (.int k9 :: .int dp :: .ref (G.2.1 + a1) :: .int sp :: .ref (G.2.1 + a0) :: st)) rfl (by rw [hO.2.2.1]; exact hL.1) (rest := st) rfl (by rw [hO.2.1]; exact hd) (by omega) (by show 2 * 0 + _ + (nativeFrameWords "java/lang/System" "arraycopy" 5 + 11) ≤ _; have e9 : nativeFrameWords "java/lang/System" "arraycopy" 5 + 11 ≤ 150 := (by decide +kernel); omega)
  have e1 : copied (vp_cell (G.2.2.2.1 0) (n0, .inl (μ a0))) (vp_cell (G.2.2.2.1 0) (n1, .inl (μ a1))) sp dp k9 = vp_cell (G.2.2.2.1 0) (n1, .inl (va_cpy (μ a0) (μ a1) sp.toNatClampNeg dp.toNatClampNeg k9.toNatClampNeg)) := va_copied (fun z => .int z) (G.2.2.2.1 0) (G.2.2.2.1 0) (μ a0) (μ a1) h4
  rw [e1] at X' step
  have hlt : G.2.1 + a1 < H.size := (Array.getElem?_eq_some_iff.mp hc1).1
  have hheap : ((T.setVm vm').setCell (G.2.1 + a1) (vp_cell (G.2.2.2.1 0) (n1, .inl (va_cpy (μ a0) (μ a1) sp.toNatClampNeg dp.toNatClampNeg k9.toNatClampNeg)))).heap = H.setIfInBounds (G.2.1 + a1) (vp_cell (G.2.2.2.1 0) (n1, .inl (va_cpy (μ a0) (μ a1) sp.toNatClampNeg dp.toNatClampNeg k9.toNatClampNeg))) := by rw [← hT]; rfl
  have oq : ∀ q : Nat, q ≠ G.2.1 + a1 → (H.setIfInBounds (G.2.1 + a1) (vp_cell (G.2.2.2.1 0) (n1, .inl (va_cpy (μ a0) (μ a1) sp.toNatClampNeg dp.toNatClampNeg k9.toNatClampNeg))))[q]? = H[q]? := fun q hq => by simp [Array.getElem?_setIfInBounds, Ne.symm hq]
  have hpic : hup (pic G μ) a1 (.inl (G.2.2.2.1 0, n1, .inl (va_cpy (μ a0) (μ a1) sp.toNatClampNeg dp.toNatClampNeg k9.toNatClampNeg))) = pic G (fun b => if b = a1 then va_cpy (μ a0) (μ a1) sp.toNatClampNeg dp.toNatClampNeg k9.toNatClampNeg else μ b) := by
    funext b
    unfold hup
    by_cases hb : b = a1
    · subst hb
      rw [if_pos rfl, pic_at hk1, if_pos rfl]
      rfl
    · rw [if_neg hb]
      show Option.map (fun q => cellOf G b q (μ b)) kdL[b]? = Option.map (fun q => cellOf G b q (if b = a1 then va_cpy (μ a0) (μ a1) sp.toNatClampNeg dp.toNatClampNeg k9.toNatClampNeg else μ b)) kdL[b]?
      rw [if_neg hb]
  have hnew : Hp G (pic G (fun b => if b = a1 then va_cpy (μ a0) (μ a1) sp.toNatClampNeg dp.toNatClampNeg k9.toNatClampNeg else μ b)) n (H.setIfInBounds (G.2.1 + a1) (vp_cell (G.2.2.2.1 0) (n1, .inl (va_cpy (μ a0) (μ a1) sp.toNatClampNeg dp.toNatClampNeg k9.toNatClampNeg)))) := by
    rw [← hpic]
    exact hH.put (pic_at hk1) (show (H.setIfInBounds (G.2.1 + a1) _)[G.2.1 + a1]? = some _ by simp [Array.getElem?_setIfInBounds, hlt]) (by simp) oq
  obtain ⟨t, a9, b9⟩ := k hO _ _ lsA hnew ⟨by simp; exact hS.1, fun q g1 g2 => by
      rw [oq q (fun e => g2 (by rw [e]; exact Nat.le_add_right _ _))]
      exact hS.2.1 q g1 g2, fun q hq => by
      rcases List.mem_append.mp hq with h | h
      · exact hS.2.2 q h
      · obtain ⟨z, -, hz⟩ := List.mem_map.mp h
        rw [← hz]
        exact Nat.le_add_right _ _⟩ hL _ hheap X'
  exact ⟨t, step t a9, b9⟩
theorem B_callVXt {y : MethodName} {ret : Option FieldType} {As : List Value} {idx : Nat} {a ci N : Nat} {T : u_T} {k0 : Nat} (hM : Rx G y F' (.code y F'.2.1 F'.2.2.1 ret) (.ref (G.2.1 + a) :: As) μ (.inl (k0, μ'))) (hk : kdL[a]? = some (0, ci)) (hc : classes[ci]? = some (y.cls, T, N)) (hm : LkM y F' (.code y F'.2.1 F'.2.2.1 ret) As.length) (hl : LkV F.1 idx y) (hd : decode F.2.1 pc = .ok (.invokevirtual idx, 3)) (hst : As.reverse ++ .ref (G.2.1 + a) :: st = st0) (hw : (st.map fun v => v.category).sum ≤ 8) (hz : kc + F'.2.2.2.2.1 = kc' ∧ ks + F'.2.2.2.2.2.1 = ks' ∧ kc' ≤ F.2.2.2.2.1 ∧ ks' ≤ F.2.2.2.2.2.1 ∧ F'.2.2.2.1 < F.2.2.2.1) (k : ∀ n', VX G C F pc ls (pic G μ') n' kc' ks' (exN k0)) : V G C F pc ls st0 (pic G μ) n kc ks := by
  obtain ⟨z1, z2, z3, z4, z5⟩ := hz
  refine V_callV (hM n) hm hl hc (pic_at hk) hd hst hw ⟨z5, by rw [z1]; exact z3, by rw [z2]; exact z4⟩ (fun E h9 n9 q9 => ?_) (fun r9 h9 n9 q9 => ?_)
  · obtain ⟨k9, m9, e9, e8, e7⟩ := q9
    cases e9
    subst e8
    subst e7
    rw [z1, z2]
    exact k n9
  · obtain ⟨m9, e9, e8⟩ := q9
    cases e9
theorem B_callVX1 {y : MethodName} {ret : Option FieldType} {As : List Value} {idx : Nat} {a ci N : Nat} {T : u_T} {r : Value} (hM : Rx G y F' (.code y F'.2.1 F'.2.2.1 ret) (.ref (G.2.1 + a) :: As) μ (.inr (some r, μ'))) (hk : kdL[a]? = some (0, ci)) (hc : classes[ci]? = some (y.cls, T, N)) (hm : LkM y F' (.code y F'.2.1 F'.2.2.1 ret) As.length) (hl : LkV F.1 idx y) (hd : decode F.2.1 pc = .ok (.invokevirtual idx, 3)) (hst : As.reverse ++ .ref (G.2.1 + a) :: st = st0) (hw : (st.map fun v => v.category).sum ≤ 8) (hz : kc + F'.2.2.2.2.1 = kc' ∧ ks + F'.2.2.2.2.2.1 = ks' ∧ kc' ≤ F.2.2.2.2.1 ∧ ks' ≤ F.2.2.2.2.2.1 ∧ F'.2.2.2.1 < F.2.2.2.1) (k : ∀ n', V G C F (pc + 3) ls (r :: st) (pic G μ') n' kc' ks') : V G C F pc ls st0 (pic G μ) n kc ks := by
  obtain ⟨z1, z2, z3, z4, z5⟩ := hz
  refine V_callV (hM n) hm hl hc (pic_at hk) hd hst hw ⟨z5, by rw [z1]; exact z3, by rw [z2]; exact z4⟩ (fun E h9 n9 q9 => ?_) (fun r9 h9 n9 q9 => ?_)
  · obtain ⟨k9, m9, e9, e8, e7⟩ := q9
    cases e9
  · obtain ⟨m9, e9, e8⟩ := q9
    cases e9
    subst e8
    rw [z1, z2]
    exact k n9
theorem B_callVX0 {y : MethodName} {ret : Option FieldType} {As : List Value} {idx : Nat} {a ci N : Nat} {T : u_T} (hM : Rx G y F' (.code y F'.2.1 F'.2.2.1 ret) (.ref (G.2.1 + a) :: As) μ (.inr (none, μ'))) (hk : kdL[a]? = some (0, ci)) (hc : classes[ci]? = some (y.cls, T, N)) (hm : LkM y F' (.code y F'.2.1 F'.2.2.1 ret) As.length) (hl : LkV F.1 idx y) (hd : decode F.2.1 pc = .ok (.invokevirtual idx, 3)) (hst : As.reverse ++ .ref (G.2.1 + a) :: st = st0) (hw : (st.map fun v => v.category).sum ≤ 8) (hz : kc + F'.2.2.2.2.1 = kc' ∧ ks + F'.2.2.2.2.2.1 = ks' ∧ kc' ≤ F.2.2.2.2.1 ∧ ks' ≤ F.2.2.2.2.2.1 ∧ F'.2.2.2.1 < F.2.2.2.1) (k : ∀ n', V G C F (pc + 3) ls st (pic G μ') n' kc' ks') : V G C F pc ls st0 (pic G μ) n kc ks := by
  obtain ⟨z1, z2, z3, z4, z5⟩ := hz
  refine V_callV (hM n) hm hl hc (pic_at hk) hd hst hw ⟨z5, by rw [z1]; exact z3, by rw [z2]; exact z4⟩ (fun E h9 n9 q9 => ?_) (fun r9 h9 n9 q9 => ?_)
  · obtain ⟨k9, m9, e9, e8, e7⟩ := q9
    cases e9
  · obtain ⟨m9, e9, e8⟩ := q9
    cases e9
    subst e8
    rw [z1, z2]
    exact k n9
theorem B_callSXt {y : MethodName} {ret : Option FieldType} {As : List Value} {idx : Nat} {k0 : Nat} (hM : Rx G y F' (.code y F'.2.1 F'.2.2.1 ret) As μ (.inl (k0, μ'))) (hm : LkM y F' (.code y F'.2.1 F'.2.2.1 ret) As.length) (hl : LkS F.1 idx y) (hd : decode F.2.1 pc = .ok (.invokestatic idx, 3)) (hst : As.reverse ++ st = st0) (hw : (st.map fun v => v.category).sum ≤ 8) (hz : kc + F'.2.2.2.2.1 = kc' ∧ ks + F'.2.2.2.2.2.1 = ks' ∧ kc' ≤ F.2.2.2.2.1 ∧ ks' ≤ F.2.2.2.2.2.1 ∧ F'.2.2.2.1 < F.2.2.2.1) (k : ∀ n', VX G C F pc ls (pic G μ') n' kc' ks' (exN k0)) : V G C F pc ls st0 (pic G μ) n kc ks := by
  obtain ⟨z1, z2, z3, z4, z5⟩ := hz
  refine V_callS (hM n) hm hl hd hst hw ⟨z5, by rw [z1]; exact z3, by rw [z2]; exact z4⟩ (fun E h9 n9 q9 => ?_) (fun r9 h9 n9 q9 => ?_)
  · obtain ⟨k9, m9, e9, e8, e7⟩ := q9
    cases e9
    subst e8
    subst e7
    rw [z1, z2]
    exact k n9
  · obtain ⟨m9, e9, e8⟩ := q9
    cases e9
theorem B_callSX1 {y : MethodName} {ret : Option FieldType} {As : List Value} {idx : Nat} {r : Value} (hM : Rx G y F' (.code y F'.2.1 F'.2.2.1 ret) As μ (.inr (some r, μ'))) (hm : LkM y F' (.code y F'.2.1 F'.2.2.1 ret) As.length) (hl : LkS F.1 idx y) (hd : decode F.2.1 pc = .ok (.invokestatic idx, 3)) (hst : As.reverse ++ st = st0) (hw : (st.map fun v => v.category).sum ≤ 8) (hz : kc + F'.2.2.2.2.1 = kc' ∧ ks + F'.2.2.2.2.2.1 = ks' ∧ kc' ≤ F.2.2.2.2.1 ∧ ks' ≤ F.2.2.2.2.2.1 ∧ F'.2.2.2.1 < F.2.2.2.1) (k : ∀ n', V G C F (pc + 3) ls (r :: st) (pic G μ') n' kc' ks') : V G C F pc ls st0 (pic G μ) n kc ks := by
  obtain ⟨z1, z2, z3, z4, z5⟩ := hz
  refine V_callS (hM n) hm hl hd hst hw ⟨z5, by rw [z1]; exact z3, by rw [z2]; exact z4⟩ (fun E h9 n9 q9 => ?_) (fun r9 h9 n9 q9 => ?_)
  · obtain ⟨k9, m9, e9, e8, e7⟩ := q9
    cases e9
  · obtain ⟨m9, e9, e8⟩ := q9
    cases e9
    subst e8
    rw [z1, z2]
    exact k n9
theorem B_callSX0 {y : MethodName} {ret : Option FieldType} {As : List Value} {idx : Nat} (hM : Rx G y F' (.code y F'.2.1 F'.2.2.1 ret) As μ (.inr (none, μ'))) (hm : LkM y F' (.code y F'.2.1 F'.2.2.1 ret) As.length) (hl : LkS F.1 idx y) (hd : decode F.2.1 pc = .ok (.invokestatic idx, 3)) (hst : As.reverse ++ st = st0) (hw : (st.map fun v => v.category).sum ≤ 8) (hz : kc + F'.2.2.2.2.1 = kc' ∧ ks + F'.2.2.2.2.2.1 = ks' ∧ kc' ≤ F.2.2.2.2.1 ∧ ks' ≤ F.2.2.2.2.2.1 ∧ F'.2.2.2.1 < F.2.2.2.1) (k : ∀ n', V G C F (pc + 3) ls st (pic G μ') n' kc' ks') : V G C F pc ls st0 (pic G μ) n kc ks := by
  obtain ⟨z1, z2, z3, z4, z5⟩ := hz
  refine V_callS (hM n) hm hl hd hst hw ⟨z5, by rw [z1]; exact z3, by rw [z2]; exact z4⟩ (fun E h9 n9 q9 => ?_) (fun r9 h9 n9 q9 => ?_)
  · obtain ⟨k9, m9, e9, e8, e7⟩ := q9
    cases e9
  · obtain ⟨m9, e9, e8⟩ := q9
    cases e9
    subst e8
    rw [z1, z2]
    exact k n9

end Rows6
