/-! ROWS OF CONSTRUCTORS -/
theorem Hp.sub {G : Gl} {h h' : Hm} {n : Nat} {H : Heap} (hH : Hp G h n H) (hh : ∀ b e, h' b = some e → h b = some e) : Hp G h' n H := ⟨hH.1, fun k e hk => hH.2 k e (hh k e hk)⟩
/-- a final field, written in its class's constructor -/
def PtF (own : String) (ci i : Nat) (ty : FieldType) : Prop := ∃ (C : String) (T : u_T) (N : Nat) (tf : Nat → FieldType), classes[ci]? = some (C, T, N) ∧ i < N ∧ (∀ w ∈ u_ws C T N, w ∈ gw) ∧ (∀ k, k < N → parseFieldDescriptor (T k).2.2.1 = some (tf k)) ∧ (∀ a, a < N → ∀ b, b < N → a ≠ b → (T a).2.1 ≠ (T b).2.1) ∧ (T i).2.2.2 = true ∧ (T i).1 = own ∧ parseFieldDescriptor (T i).2.2.1 = some ty
/-- a class whose objects are made here -/
def Nw9 (own : String) (idx ci : Nat) (fs : List Value) (N : Nat) : Prop := ∃ (C : String) (T : u_T) (tf : Nat → FieldType), classes[ci]? = some (C, T, N) ∧ (∀ w ∈ u_ws C T N, w ∈ gw) ∧ (∀ k, k < N → parseFieldDescriptor (T k).2.2.1 = some (tf k)) ∧ Cond.classLink own idx C ∈ gw ∧ Cond.instantiable C N ∈ gw ∧ Cond.initialized C ∈ gw ∧ ∀ j, j < N → defaultValue (tf j) = vp_V fs j
def NmI (C : Cx) : Prop := match C with
  | (R, p, e, s, m, args, below, meth, c, Q) => meth.name = "<init>"
section Rows9
variable {G : Gl} {C : Cx} {F F' : Fi} {pc : Nat} {ls ls' : List (Option Value)} {st st0 : List Value} {h h' : Hm} {n kc ks kc' ks' : Nat} {Qr : Option Value → Hm → Nat → Prop} {Qx : String → Hm → Nat → Prop}
theorem V_sub (hh : ∀ b e, h' b = some e → h b = some e) (k : V G C F pc ls st h' n kc ks) : V G C F pc ls st h n kc ks := by
  obtain ⟨R, p, e, s, m, args, below, meth, c, Q⟩ := C
  intro hO H locs lsA hH hS hL
  exact k hO H locs lsA (hH.sub hh) hS hL
theorem V_new {idx ci N : Nat} {fs : List Value} (hN : Nw9 F.1 idx ci fs N) (hd : decode F.2.1 pc = .ok (.new idx, 3)) (h1 : kc + 1 ≤ F.2.2.2.2.1) (h2 : ks + N ≤ F.2.2.2.2.2.1) (k : V G C F (pc + 3) ls (.ref (G.2.1 + n) :: st) (hup h n (.inr (ci, fs))) (n + 1) (kc + 1) (ks + N)) : V G C F pc ls st h n kc ks := by
  obtain ⟨R, p, e, s, m, args, below, meth, c, Q⟩ := C
  intro hO H locs lsA hH hS hL
  obtain ⟨Cn, T, tf, hc, hin, hty, hcl, hinst, hini, hfs⟩ := hN
  have hts := hO.2.2.2.2.1
  obtain ⟨r1, r2, r3, r4⟩ := hO.2.2.2.2.2.2.1
  have hKn := hO.2.2.2.2.2.1.1.1 ci _ hc
  refine W.newcK hO.1 hO.2.1 hO.2.2.2.1 (hts _ hcl) (hts _ hinst) (hts _ hini) rfl hd (by omega) (by omega) hKn.2.1 hH.1 fun H1 kC hkC e1 z1 o1 => ?_
  have hz := hH.1
  exact k hO H1 locs lsA (hH.new ⟨_, hc, (u_born tf hts hin hKn hkC e1 hty).to hfs⟩ (by omega) (fun q hq => o1 q (by omega))) ⟨Nat.le_trans hS.1 (by omega), fun x h1 h2 => (o1 x (by have := hS.1; omega)).trans (hS.2.1 x h1 h2), hS.2.2⟩ hL
theorem V_newI {len : Nat} {v : Int32} (hv : (¬ v < 0 ∧ v.toNatClampNeg = len) ∧ len * 4 ≤ 536870912) (hw : Cond.arrayClass .int ∈ gw) (hd : decode F.2.1 pc = .ok (.newarray .int, 2)) (h1 : kc + 1 ≤ F.2.2.2.2.1) (h2 : ks + len ≤ F.2.2.2.2.2.1) (k : V G C F (pc + 2) ls (.ref (G.2.1 + n) :: st) (hup h n (.inl (G.2.2.2.1 0, len, .inl (fun _ => 0)))) (n + 1) (kc + 1) (ks + len)) : V G C F pc ls (.int v :: st) h n kc ks := by
  obtain ⟨R, p, e, s, m, args, below, meth, c, Q⟩ := C
  intro hO H locs lsA hH hS hL
  have hts := hO.2.2.2.2.1
  obtain ⟨r1, r2, r3, r4⟩ := hO.2.2.2.2.2.2.1
  have hz := hH.1
  refine va_newaK (g := F0 m pc lsA (.int v :: st)) hO.1 hO.2.1 (atype := .int) (hts _ hw) rfl hd rfl hv.1.1 hv.1.2 hv.2 (by omega) (by omega) rfl fun H1 cA e1 z1 o1 hAr hNm => ?_
  have hcA : cA = G.2.2.2.1 0 := Option.some.inj (hNm.symm.trans (hO.2.2.2.2.2.1.1.2 0 _ rfl).2)
  subst hcA
  have e2 : va_at (gD G) classes (G.2.1 + n, .inl (G.2.2.2.1 0, len, .inl (fun _ => 0))) H1 := by
    show H1[G.2.1 + n]? = some (vp_cell _ _)
    rw [← hz]
    exact e1
  rw [show H.size = G.2.1 + n from hz]
  exact k hO H1 locs lsA (hH.new e2 z1 o1) ⟨Nat.le_trans hS.1 (by omega), fun x h1 h2 => (o1 x (by have := hS.1; omega)).trans (hS.2.1 x h1 h2), hS.2.2⟩ hL
theorem V_newB {len : Nat} {v : Int32} (hv : (¬ v < 0 ∧ v.toNatClampNeg = len) ∧ len * 1 ≤ 536870912) (hw : Cond.arrayClass .byte ∈ gw) (hd : decode F.2.1 pc = .ok (.newarray .byte, 2)) (h1 : kc + 1 ≤ F.2.2.2.2.1) (h2 : ks + len ≤ F.2.2.2.2.2.1) (k : V G C F (pc + 2) ls (.ref (G.2.1 + n) :: st) (hup h n (.inl (G.2.2.2.1 1, len, .inl (fun _ => 0)))) (n + 1) (kc + 1) (ks + len)) : V G C F pc ls (.int v :: st) h n kc ks := by
  obtain ⟨R, p, e, s, m, args, below, meth, c, Q⟩ := C
  intro hO H locs lsA hH hS hL
  have hts := hO.2.2.2.2.1
  obtain ⟨r1, r2, r3, r4⟩ := hO.2.2.2.2.2.2.1
  have hz := hH.1
  refine va_newaK (g := F0 m pc lsA (.int v :: st)) hO.1 hO.2.1 (atype := .byte) (hts _ hw) rfl hd rfl hv.1.1 hv.1.2 hv.2 (by omega) (by omega) rfl fun H1 cA e1 z1 o1 hAr hNm => ?_
  have hcA : cA = G.2.2.2.1 1 := Option.some.inj (hNm.symm.trans (hO.2.2.2.2.2.1.1.2 1 _ rfl).2)
  subst hcA
  have e2 : va_at (gD G) classes (G.2.1 + n, .inl (G.2.2.2.1 1, len, .inl (fun _ => 0))) H1 := by
    show H1[G.2.1 + n]? = some (vp_cell _ _)
    rw [← hz]
    exact e1
  rw [show H.size = G.2.1 + n from hz]
  exact k hO H1 locs lsA (hH.new e2 z1 o1) ⟨Nat.le_trans hS.1 (by omega), fun x h1 h2 => (o1 x (by have := hS.1; omega)).trans (hS.2.1 x h1 h2), hS.2.2⟩ hL
theorem V_newL {len : Nat} {v : Int32} (hv : (¬ v < 0 ∧ v.toNatClampNeg = len) ∧ len * 8 ≤ 536870912) (hw : Cond.arrayClass .long ∈ gw) (hd : decode F.2.1 pc = .ok (.newarray .long, 2)) (h1 : kc + 1 ≤ F.2.2.2.2.1) (h2 : ks + len ≤ F.2.2.2.2.2.1) (k : V G C F (pc + 2) ls (.ref (G.2.1 + n) :: st) (hup h n (.inl (G.2.2.2.1 2, len, .inr (.inl (fun _ => 0))))) (n + 1) (kc + 1) (ks + len)) : V G C F pc ls (.int v :: st) h n kc ks := by
  obtain ⟨R, p, e, s, m, args, below, meth, c, Q⟩ := C
  intro hO H locs lsA hH hS hL
  have hts := hO.2.2.2.2.1
  obtain ⟨r1, r2, r3, r4⟩ := hO.2.2.2.2.2.2.1
  have hz := hH.1
  refine va_newaK (g := F0 m pc lsA (.int v :: st)) hO.1 hO.2.1 (atype := .long) (hts _ hw) rfl hd rfl hv.1.1 hv.1.2 hv.2 (by omega) (by omega) rfl fun H1 cA e1 z1 o1 hAr hNm => ?_
  have hcA : cA = G.2.2.2.1 2 := Option.some.inj (hNm.symm.trans (hO.2.2.2.2.2.1.1.2 2 _ rfl).2)
  subst hcA
  have e2 : va_at (gD G) classes (G.2.1 + n, .inl (G.2.2.2.1 2, len, .inr (.inl (fun _ => 0)))) H1 := by
    show H1[G.2.1 + n]? = some (vp_cell _ _)
    rw [← hz]
    exact e1
  rw [show H.size = G.2.1 + n from hz]
  exact k hO H1 locs lsA (hH.new e2 z1 o1) ⟨Nat.le_trans hS.1 (by omega), fun x h1 h2 => (o1 x (by have := hS.1; omega)).trans (hS.2.1 x h1 h2), hS.2.2⟩ hL
theorem V_newQ {len idx : Nat} {v : Int32} (hv : (¬ v < 0 ∧ v.toNatClampNeg = len) ∧ len * 4 ≤ 536870912) (hw : Cond.classLink F.1 idx "LaceBonds$Land" ∈ gw) (hd : decode F.2.1 pc = .ok (.anewarray idx, 3)) (h1 : kc + 1 ≤ F.2.2.2.2.1) (h2 : ks + len ≤ F.2.2.2.2.2.1) (k : V G C F (pc + 3) ls (.ref (G.2.1 + n) :: st) (hup h n (.inl (G.2.2.2.1 3, len, .inr (.inr (.inr (.inr (fun _ => none))))))) (n + 1) (kc + 1) (ks + len)) : V G C F pc ls (.int v :: st) h n kc ks := by
  obtain ⟨R, p, e, s, m, args, below, meth, c, Q⟩ := C
  intro hO H locs lsA hH hS hL
  have hts := hO.2.2.2.2.1
  obtain ⟨r1, r2, r3, r4⟩ := hO.2.2.2.2.2.2.1
  have hz := hH.1
  obtain ⟨⟨v1, v2⟩, v3⟩ := hv
  subst v2
  refine W.anew (g := F0 m pc lsA (.int v :: st)) hO.1 hO.2.1 hO.2.2.2.1 (hts _ hw) (va_AO.use hO.2.2.2.2.2.1.2.2.2.2.2.2.2.2.2.2.1.2.2) rfl hd rfl v1 v3 (by omega) (by omega) fun cA kA comp f1 f2 f3 f4 => ?_
  obtain ⟨kB, comp2, -, -, -, g4⟩ := (hO.2.2.2.2.2.1.1.2 3 _ rfl).2
  have hcA : cA = G.2.2.2.1 3 := Option.some.inj (f1.symm.trans g4)
  subst hcA
  generalize hH1 : H.push ({ cls := G.2.2.2.1 3, slots := Array.replicate v.toNatClampNeg .null, vm := .none } : Cell) = H1
  have z1 : H1.size = H.size + 1 := by rw [← hH1, Array.size_push]
  have e1 : H1[H.size]? = some (arrV (G.2.2.2.1 3) v.toNatClampNeg (fun _ => .null)) := by rw [← hH1, Array.getElem?_push_size, ← arrV_new]
  have o1 : ∀ q : Nat, q < H.size → H1[q]? = H[q]? := fun q hq => by rw [← hH1, Array.getElem?_push, if_neg (Nat.ne_of_lt hq)]
  have e2 : va_at (gD G) classes (G.2.1 + n, .inl (G.2.2.2.1 3, v.toNatClampNeg, .inr (.inr (.inr (.inr (fun _ => none)))))) H1 := by
    show H1[G.2.1 + n]? = some (vp_cell _ _)
    rw [← hz, vp_cell_q]
    exact e1
  rw [show H.size = G.2.1 + n from hz]
  exact k hO H1 locs lsA (hH.new e2 z1 o1) ⟨Nat.le_trans hS.1 (by omega), fun x h1 h2 => (o1 x (by have := hS.1; omega)).trans (hS.2.1 x h1 h2), hS.2.2⟩ hL
theorem V_aastq {a b ci m9 : Nat} {vs : List Value} {f : Nat → Option Nat} {i : Int32} (hci : ci = 2) (hd : decode F.2.1 pc = .ok (.aastore, 1)) (he : h a = some (.inl (G.2.2.2.1 3, m9, .inr (.inr (.inr (.inr f)))))) (hb : h b = some (.inr (ci, vs))) (hi : vp_in i m9) (k : V G C F (pc + 1) ls st (hup h a (.inl (G.2.2.2.1 3, m9, .inr (.inr (.inr (.inr (va_up f i.toNatClampNeg (some (G.2.1 + b)))))))) ) n kc ks) : V G C F pc ls (.ref (G.2.1 + b) :: .int i :: .ref (G.2.1 + a) :: st) h n kc ks := by
  obtain ⟨R, p, e, s, m, args, below, meth, c, Q⟩ := C
  intro hO H locs lsA hH hS hL
  subst hci
  have hlt : i.toNatClampNeg < m9 := Nat.not_le.mp fun q => hi (Or.inr q)
  have h0 : ¬ i < 0 := fun q => hi (Or.inl q)
  obtain ⟨r', hr', cellV, g1, g2, g3, -⟩ := hH.at hb
  have hcls := (hO.2.2.2.2.2.1.1.1 2 _ rfl).2
  obtain ⟨kA, comp, k1, k2, k3, -⟩ := (hO.2.2.2.2.2.1.1.2 3 _ rfl).2
  have hcomp : comp = (gD G).1 2 := Option.some.inj (k3.symm.trans hcls.1)
  subst hcomp
  obtain ⟨kC, hkC, -⟩ := hcls.2
  refine W.aast hO.1 hO.2.1 (hH.at he) (fun q h => by cases h) (fun h => by cases h) k1 k2 rfl hkC ⟨h0, by show _ < (arrV _ _ _).slots.size; rw [arrV_size]; exact hlt⟩ g1 (fun q h => by rw [g3] at h; cases h) (by rw [g2]; exact hkC) (by rw [g2]; exact va_assign hcls) rfl rfl hd fun H1 e9 z oq => ?_
  refine k hO H1 _ lsA (hH.put he ?_ z oq) (hS.put z oq (Nat.le_add_right _ _)) hL
  show H1[G.2.1 + a]? = some (vp_cell _ _)
  rw [e9]
  rw [vp_cell_q, vp_cell_q, arrV_store]
  congr 2
  funext q
  by_cases hq : q = i.toNatClampNeg
  · subst hq
    simp [updV, va_up, va_rf]
  · simp [updV, va_up, hq]
theorem V_objI {idx a : Nat} (hl : Cond.methodLink F.1 idx objectInit ∈ gw) (hi : Cond.instanceMethod objectInit ∈ gw) (hc : Cond.code objectInit ⟨#[0xb1]⟩ 1 none ∈ gw) (hd : decode F.2.1 pc = .ok (.invokespecial idx, 3)) (hw : (st.map fun v => v.category).sum ≤ 8) (k : V G C F (pc + 3) ls st h n kc ks) : V G C F pc ls (.ref a :: st) h n kc ks := by
  obtain ⟨R, p, e, s, m, args, below, meth, c, Q⟩ := C
  intro hO H locs lsA hH hS hL
  have hts := hO.2.2.2.2.1
  obtain ⟨r1, r2, r3, r4⟩ := hO.2.2.2.2.2.2.1
  exact W.objInit (g := F0 m pc lsA (.ref a :: st)) hO.1 hO.2.1 hO.2.2.2.1 (hts _ hl) (hts _ hi) (hts _ hc) rfl (by rw [hO.2.2.1]; exact hL.1) rfl hd (by omega) (by show 2 * 0 + _ + 12 ≤ R.locals; omega) (k hO H locs lsA hH hS hL)
theorem V_callI {y : MethodName} {As : List Value} {idx a : Nat} (hM : Sd G y F' (.code y F'.2.1 F'.2.2.1 none) (.ref a :: As) h n Qr (fun _ _ _ => False)) (hm : LkM y F' (.code y F'.2.1 F'.2.2.1 none) As.length) (hl : Cond.methodLink F.1 idx y ∈ gw ∧ Cond.instanceMethod y ∈ gw) (hy : y.name = "<init>") (hd : decode F.2.1 pc = .ok (.invokespecial idx, 3)) (hst : As.reverse ++ .ref a :: st = st0) (hw : (st.map fun v => v.category).sum ≤ 8)
    (hr : F'.2.2.2.1 < F.2.2.2.1 ∧ kc + F'.2.2.2.2.1 ≤ F.2.2.2.2.1 ∧ ks + F'.2.2.2.2.2.1 ≤ F.2.2.2.2.2.1)
    (k : ∀ (r : Option Value) (h' : Hm) (n' : Nat), Qr r h' n' → V G C F (pc + 3) ls (r.toList ++ st) h' n' (kc + F'.2.2.2.2.1) (ks + F'.2.2.2.2.2.1)) : V G C F pc ls st0 h n kc ks := by
  obtain ⟨R, p, e, s, m, args, below, meth, c, Q⟩ := C
  intro hO H locs lsA hH hS hL
  subst hst
  obtain ⟨p1, p2⟩ := call9_pre (As := .ref a :: As) hO hH hS
  have hts := hO.2.2.2.2.1
  obtain ⟨r1, r2, r3, r4⟩ := hO.2.2.2.2.2.2.1
  have hm4 := hm.2.2.2.2
  have hGd : GoodIn gw (.code y F'.2.1 F'.2.2.1 none :: gw) := by
    intro w h9
    rcases List.mem_cons.mp h9 with h9 | h9
    · rw [h9]; exact gw_good _ hm.1
    · exact gw_good _ h9
  refine call9 hO hS hL (Qx := fun _ _ _ => False) (run_vx (va_runI (Ts := gw) (nL := F.2.2.1) (As := As) ⟨hO.1, hO.2.1, hO.2.2.1, hO.2.2.2.1, hts⟩ (Sd.met hM) (cwI As.length hts hGd rfl rfl rfl (hts _ hm.2.1) (hts _ hl.1) (hts _ hl.2) hy ⟨hm.2.2.1.1, hm.2.2.1.2, hm.2.2.2.1⟩ ⟨?_, ?_⟩) ⟨p1, p2⟩ rfl rfl hL.1 rfl (lv_room hw) hd ⟨by omega, by omega⟩)) (fun _ _ _ h => h.elim) k
  · show 10 + F'.2.2.2.1 + 1 ≤ R.frames
    omega
  · show 8 + (F'.2.2.1 + 11) + (200 + 64 * F'.2.2.2.1) ≤ R.locals
    omega
theorem V_callIN {y : MethodName} {As : List Value} {idx a : Nat} (hM : Sd G y F' (.code y F'.2.1 F'.2.2.1 none) (.ref a :: As) h n Qr (fun _ _ _ => False)) (hm : LkM y F' (.code y F'.2.1 F'.2.2.1 none) As.length) (hl : (∃ host : String, (F.1, idx, y, host) ∈ nM_l) ∧ Cond.instanceMethod y ∈ gw) (hy : y.name = "<init>") (hd : decode F.2.1 pc = .ok (.invokespecial idx, 3)) (hst : As.reverse ++ .ref a :: st = st0) (hw : (st.map fun v => v.category).sum ≤ 8)
    (hr : F'.2.2.2.1 < F.2.2.2.1 ∧ kc + F'.2.2.2.2.1 ≤ F.2.2.2.2.1 ∧ ks + F'.2.2.2.2.2.1 ≤ F.2.2.2.2.2.1)
    (k : ∀ (r : Option Value) (h' : Hm) (n' : Nat), Qr r h' n' → V G C F (pc + 3) ls (r.toList ++ st) h' n' (kc + F'.2.2.2.2.1) (ks + F'.2.2.2.2.2.1)) : V G C F pc ls st0 h n kc ks := by
  obtain ⟨R, p, e, s, m, args, below, meth, c, Q⟩ := C
  intro hO H locs lsA hH hS hL
  subst hst
  obtain ⟨p1, p2⟩ := call9_pre (As := .ref a :: As) hO hH hS
  have hts := hO.2.2.2.2.1
  obtain ⟨⟨host, hh9⟩, hl2⟩ := id hl
  obtain ⟨r1, r2, r3, r4⟩ := hO.2.2.2.2.2.2.1
  have hm4 := hm.2.2.2.2
  have hGd : GoodIn gw (.code y F'.2.1 F'.2.2.1 none :: gw) := by
    intro w h9
    rcases List.mem_cons.mp h9 with h9 | h9
    · rw [h9]; exact gw_good _ hm.1
    · exact gw_good _ h9
  refine call9 hO hS hL (Qx := fun _ _ _ => False) (run_vx (va_runIN (Ts := gw) (nL := F.2.2.1) (As := As) ⟨hO.1, hO.2.1, hO.2.2.1, hO.2.2.2.1, hts⟩ (Sd.met hM) ⟨va_cnB As.length hts hGd rfl rfl rfl (hO.2.2.2.2.2.1.2.2.1 _ hh9) (hts _ hm.2.1) ⟨hm.2.2.1.1, hm.2.2.1.2, hm.2.2.2.1⟩ ⟨?_, ?_⟩, hy, hts _ hl.2⟩ ⟨p1, p2⟩ rfl rfl hL.1 rfl (lv_room hw) hd ⟨by omega, by omega⟩)) (fun _ _ _ h => h.elim) k
  · show 10 + F'.2.2.2.1 + 1 ≤ R.frames
    omega
  · show 8 + (F'.2.2.1 + 11) + (200 + 64 * F'.2.2.2.1) ≤ R.locals
    omega
theorem V_putF {idx ci i a : Nat} {fs : List Value} {v : Value} {ty : FieldType} (hI : NmI C) (hf : Fl F.1 idx ci i) (hp : PtF F.1 ci i ty) (hd : decode F.2.1 pc = .ok (.putfield idx, 3)) (hn : narrow ty v = v) (hfit : fits ty v = true) (he : h a = some (.inr (ci, fs))) (hl : i < fs.length) (k : V G C F (pc + 3) ls st (hup h a (.inr (ci, fs.set i v))) n kc ks) : V G C F pc ls (v :: .ref (G.2.1 + a) :: st) h n kc ks := by
  obtain ⟨R, p, e, s, m, args, below, meth, c, Q⟩ := C
  intro hO H locs lsA hH hS hL
  obtain ⟨C9, T, N, ref, hc, hi, hin, hlk, hs⟩ := hf
  obtain ⟨C8, T8, N8, tf, hc8, hi8, hin8, hty, hnm, hfin, hdecl, hds⟩ := hp
  have hcc : (C9, T, N) = (C8, T8, N8) := Option.some.inj (hc.symm.trans hc8)
  cases hcc
  have hts := hO.2.2.2.2.1
  have hown := hO.2.2.2.1
  have hK := hO.2.2.2.2.2.1.1
  have hap := va_apart (own := F.1) (cl := classes) (D := gD G) (tys := gT G) hts hin tf hty hnm hK hc
  obtain ⟨r, h1, cell, q1, q2, q3, q4⟩ := hH.at he
  have hr : r = (C9, T, N) := Option.some.inj (h1.symm.trans hc)
  subst hr
  obtain ⟨hS1, hfc, kC, hkC, hkind⟩ := hK.1 ci _ hc
  obtain ⟨cf, kf, fi, f, hi9, hsl⟩ := hS1 i hi
  have hlay := hts _ (hin _ (u_in_lay hi))
  unfold u_lay at hlay
  rw [if_pos hfin] at hlay
  have hst := (u_facts hfc hkC (u_lays hts hin hi) hi9).1
  have hcf : m.cls = cf := by
    obtain ⟨_, _, c', _, _, _, -, -, hf', -, -, -, hown2, -⟩ := Cond.laysFinal_spec hlay
    have e1 : c' = cf := by have := hi9.symm.trans hf'; simp at this; exact this.1.symm
    rw [hdecl] at hown2
    rw [← e1]; exact Option.some.inj (hown.symm.trans hown2)
  have h6 := u_fits hfc hkC hkind (Or.inr hlay) hi9 hds hn hfit
  have hsame : s.fieldFound? ref (T i).2.1 (T i).2.2.1 = some (cf, kf, fi, f) := by
    rcases hs with hs | hs
    · rw [hs]; exact hi9
    · exact u_same (hts _ hs) _ hi9
  refine W.putFinK hO.1 hO.2.1 hown (hts _ hlk) hsame hst hcf hI (by rw [q2]; exact h6) q1 q3 (by rw [hsl]; exact k2_hasslot (q4 i hi)) rfl rfl hd fun H' e1 e2 e3 => ?_
  rw [hsl] at e1 ⊢
  exact k hO H' _ lsA (hH.put he ⟨_, hc, t_OB.to (V := updV (vp_V fs) i v) ⟨_, e1, q2, q3, t_set q4 hap hi v⟩ (fun j _ => vp_updV_set hl v j)⟩ e2 e3) (hS.put e2 e3 (Nat.le_add_right _ _)) hL
theorem V_n {n' : Nat} (e : n = n') (k : V G C F pc ls st h n' kc ks) : V G C F pc ls st h n kc ks := by rw [e]; exact k
theorem V_conv (hh : ∀ b e, h' b = some e → ∃ e', h b = some e' ∧ ∀ H, va_at (gD G) classes (G.2.1 + b, e') H → va_at (gD G) classes (G.2.1 + b, e) H) (k : V G C F pc ls st h' n kc ks) : V G C F pc ls st h n kc ks := by
  obtain ⟨R, p, e, s, m, args, below, meth, c, Q⟩ := C
  intro hO H locs lsA hH hS hL
  refine k hO H locs lsA ⟨hH.1, fun b e1 hb => ?_⟩ hS hL
  obtain ⟨e', h1, h2⟩ := hh b e1 hb
  obtain ⟨h3, h4⟩ := hH.2 b e' h1
  exact ⟨h3, h2 H h4⟩
end Rows9
theorem Sd.ofI {G : Gl} {y : MethodName} {F : Fi} {args : List Value} {h : Hm} {n : Nat} {Qr : Option Value → Hm → Nat → Prop} {Qx : String → Hm → Nat → Prop} {ls : List (Option Value)} (hl : G.1.stackTraces = false) (hy : plainName y.cls = true ∧ y.cls = F.1 ∧ F.2.2.2.2.2.2 = []) (hyn : y.name = "<init>") (hc : args.all (fun v => v.category == 1) = true) (hn : args.length ≤ F.2.2.1) (hls : args.map some ++ List.replicate (F.2.2.1 - args.length) none = ls)
    (body : ∀ C : Cx, Fin9 G C F none Qr Qx → NmI C → V G C F 0 ls [] h n 0 0) : Sd G y F (.code y F.2.1 F.2.2.1 none) args h n Qr Qx := by
  refine vx_ofW (cc := F.2.1) (maxL := F.2.2.1) (ret := none) hy.1 rfl ?_
  intro p e s m args' below meth c s₁ B hml ht hv
  obtain ⟨rfl, hH, hK⟩ := hv
  have hts := atoms_spec (ws := .code y F.2.1 F.2.2.1 none :: gw) B.pre
  have hown : s.vm.findClass F.1 = some m.cls := by rw [← hy.2.1]; exact findClass_of_methodNamed B.named
  have hr := B.returns
  have hin : meth.name = "<init>" := (name_of_methodNamed B.named B.method).1.trans hyn
  rw [lg_entry_eq]
  refine body ((headSpec (.code y F.2.1 F.2.2.1 none :: gw) (rmD F)).room, p, e, s, m, args.toArray, below, meth, c, vx_MQ below (QcD G Qr) (XcD G Qx) args.toArray s F.2.2.2.2.1 F.2.2.2.2.2.1 (gA G)) ⟨rfl, hr⟩ hin ⟨B.exec, B.bytes, hml, hown, fun w hw => hts w (List.mem_cons_of_mem _ hw), hK, ⟨Nat.le_refl _, Nat.le_refl _, Nat.le_refl _, Nat.le_refl _⟩, B.notSynchronized, hl, ?_⟩ s.heap [] _ hH ⟨Nat.le_refl _, fun _ _ _ => rfl, fun _ h => nomatch h⟩ (Lh.entry hc hn hls)
  rw [hy.2.2]
  cases hx : c.exceptionTable.toList with
  | nil => rfl
  | cons x xs => exact absurd (ht x (by rw [hx]; exact List.mem_cons_self)) id
/-! an object in the making: it lies at a, behind it the k cells that its constructor has made -/
def stg (h : Hm) (a ci : Nat) (fs : List Value) (k : Nat) (ar : Nat → va_E) : Hm := fun b => if b = a then some (.inr (ci, fs)) else if a < b ∧ b < a + 1 + k then some (ar (b - (a + 1))) else if b < a then h b else none
theorem stg_at {h : Hm} {a ci : Nat} {fs : List Value} {k : Nat} {ar : Nat → va_E} : stg h a ci fs k ar a = some (.inr (ci, fs)) := by unfold stg; rw [if_pos rfl]
theorem stg_put {h : Hm} {a ci : Nat} {fs fs' : List Value} {k : Nat} {ar : Nat → va_E} : ∀ b e, stg h a ci fs' k ar b = some e → hup (stg h a ci fs k ar) a (.inr (ci, fs')) b = some e := by
  intro b e hb
  unfold hup
  by_cases h1 : b = a
  · rw [if_pos h1]
    unfold stg at hb
    rwa [if_pos h1] at hb
  · rw [if_neg h1]
    unfold stg at hb ⊢
    rw [if_neg h1] at hb ⊢
    exact hb
theorem stg_arr {h : Hm} {a ci : Nat} {fs fs' : List Value} {k : Nat} {ar : Nat → va_E} {e0 : va_E} (h0 : ar k = e0) : ∀ b e, stg h a ci fs' (k + 1) ar b = some e → hup (hup (stg h a ci fs k ar) (a + 1 + k) e0) a (.inr (ci, fs')) b = some e := by
  intro b e hb
  unfold hup
  by_cases h1 : b = a
  · rw [if_pos h1]
    unfold stg at hb
    rwa [if_pos h1] at hb
  · rw [if_neg h1]
    unfold stg at hb
    rw [if_neg h1] at hb
    by_cases h2 : b = a + 1 + k
    · rw [if_pos h2]
      rw [if_pos (by omega), show b - (a + 1) = k by omega, h0] at hb
      exact hb
    · rw [if_neg h2]
      unfold stg
      rw [if_neg h1]
      by_cases h3 : a < b ∧ b < a + 1 + k
      · rw [if_pos h3]
        rwa [if_pos (by omega)] at hb
      · rw [if_neg h3]
        rwa [if_neg (by omega)] at hb
/-- a new object behind a's cells -/
theorem stg_obj {h : Hm} {a ci : Nat} {fs : List Value} {k : Nat} {ar : Nat → va_E} {cj : Nat} {gs : List Value} {arj : Nat → va_E} : ∀ b e, stg (stg h a ci fs k ar) (a + 1 + k) cj gs 0 arj b = some e → hup (stg h a ci fs k ar) (a + 1 + k) (.inr (cj, gs)) b = some e := by
  intro b e hb
  unfold hup
  unfold stg at hb
  by_cases h1 : b = a + 1 + k
  · rw [if_pos h1] at hb ⊢
    exact hb
  · rw [if_neg h1] at hb ⊢
    rw [if_neg (by omega)] at hb
    by_cases h2 : b < a + 1 + k
    · rw [if_pos h2] at hb
      exact hb
    · rw [if_neg h2] at hb
      cases hb
/-- .. when it is made, and its place written down -/
theorem stg_end {h : Hm} {a ci : Nat} {fs fs' : List Value} {k : Nat} {ar : Nat → va_E} {cj mj : Nat} {gs : List Value} {arj : Nat → va_E} (h0 : ar k = .inr (cj, gs)) (h9 : ∀ j, j < mj → ar (k + 1 + j) = arj j) : ∀ b e, stg h a ci fs' (k + 1 + mj) ar b = some e → hup (stg (stg h a ci fs k ar) (a + 1 + k) cj gs mj arj) a (.inr (ci, fs')) b = some e := by
  intro b e hb
  unfold hup
  by_cases h1 : b = a
  · rw [if_pos h1]
    unfold stg at hb
    rwa [if_pos h1] at hb
  · rw [if_neg h1]
    unfold stg at hb
    rw [if_neg h1] at hb
    unfold stg
    by_cases h2 : b = a + 1 + k
    · rw [if_pos h2]
      rw [if_pos (by omega), show b - (a + 1) = k by omega, h0] at hb
      exact hb
    · rw [if_neg h2]
      by_cases h3 : a + 1 + k < b ∧ b < a + 1 + k + 1 + mj
      · rw [if_pos h3]
        rw [if_pos (by omega), show b - (a + 1) = k + 1 + (b - (a + 1 + k + 1)) by omega, h9 _ (by omega)] at hb
        exact hb
      · rw [if_neg h3]
        by_cases h4 : b < a + 1 + k
        · rw [if_pos h4, if_neg h1]
          by_cases h5 : a < b ∧ b < a + 1 + k
          · rw [if_pos h5]
            rwa [if_pos (by omega)] at hb
          · rw [if_neg h5]
            rw [if_neg (by omega)] at hb
            exact hb
        · rw [if_neg (by omega), if_neg (by omega)] at hb
          cases hb
section Rows10
variable {G : Gl} {C : Cx} {F F' : Fi} {pc : Nat} {ls ls' : List (Option Value)} {st st0 : List Value} {h h' : Hm} {n kc ks kc' ks' : Nat} {a ci i idx k : Nat} {fs : List Value} {ar : Nat → va_E} {ty : FieldType}
theorem CI_put {v : Value} (hf : Fl F.1 idx ci i) (hp : Pt9 ci i ty) (hd : decode F.2.1 pc = .ok (.putfield idx, 3)) (hn : narrow ty v = v) (hfit : fits ty v = true) (hl : i < fs.length) (kk : V G C F (pc + 3) ls st (stg h a ci (fs.set i v) k ar) n kc ks) : V G C F pc ls (v :: .ref (G.2.1 + a) :: st) (stg h a ci fs k ar) n kc ks :=
  V_put hf hp hd hn hfit stg_at hl (V_sub stg_put kk)
theorem CI_putF {v : Value} (hI : NmI C) (hf : Fl F.1 idx ci i) (hp : PtF F.1 ci i ty) (hd : decode F.2.1 pc = .ok (.putfield idx, 3)) (hn : narrow ty v = v) (hfit : fits ty v = true) (hl : i < fs.length) (kk : V G C F (pc + 3) ls st (stg h a ci (fs.set i v) k ar) n kc ks) : V G C F pc ls (v :: .ref (G.2.1 + a) :: st) (stg h a ci fs k ar) n kc ks :=
  V_putF hI hf hp hd hn hfit stg_at hl (V_sub stg_put kk)
theorem hup_stg_at {e0 : va_E} : hup (stg h a ci fs k ar) (a + 1 + k) e0 a = some (.inr (ci, fs)) := by unfold hup; rw [if_neg (by omega)]; exact stg_at
theorem CI_arr {len : Nat} {v : Int32} (hI : NmI C) (hv : (¬ v < 0 ∧ v.toNatClampNeg = len) ∧ len * 4 ≤ 536870912) (hw : Cond.arrayClass .int ∈ gw) (har : ar k = .inl (G.2.2.2.1 0, len, .inl (fun _ => 0))) (hf : Fl F.1 idx ci i) (hp : PtF F.1 ci i (.array .int)) (d0 : decode F.2.1 pc = .ok (.newarray .int, 2)) (d1 : decode F.2.1 (pc + 2) = .ok (.putfield idx, 3)) (hl : i < fs.length) (h1 : kc + 1 ≤ F.2.2.2.2.1) (h2 : ks + len ≤ F.2.2.2.2.2.1) (kk : V G C F (pc + 5) ls st (stg h a ci (fs.set i (.ref (G.2.1 + (a + 1 + k)))) (k + 1) ar) (a + 1 + (k + 1)) (kc + 1) (ks + len)) : V G C F pc ls (.int v :: .ref (G.2.1 + a) :: st) (stg h a ci fs k ar) (a + 1 + k) kc ks :=
  V_newI hv hw d0 h1 h2 (V_putF hI hf hp d1 rfl rfl hup_stg_at hl (V_sub (stg_arr har) kk))
theorem CI_arrB {len : Nat} {v : Int32} (hI : NmI C) (hv : (¬ v < 0 ∧ v.toNatClampNeg = len) ∧ len * 1 ≤ 536870912) (hw : Cond.arrayClass .byte ∈ gw) (har : ar k = .inl (G.2.2.2.1 1, len, .inl (fun _ => 0))) (hf : Fl F.1 idx ci i) (hp : PtF F.1 ci i (.array .byte)) (d0 : decode F.2.1 pc = .ok (.newarray .byte, 2)) (d1 : decode F.2.1 (pc + 2) = .ok (.putfield idx, 3)) (hl : i < fs.length) (h1 : kc + 1 ≤ F.2.2.2.2.1) (h2 : ks + len ≤ F.2.2.2.2.2.1) (kk : V G C F (pc + 5) ls st (stg h a ci (fs.set i (.ref (G.2.1 + (a + 1 + k)))) (k + 1) ar) (a + 1 + (k + 1)) (kc + 1) (ks + len)) : V G C F pc ls (.int v :: .ref (G.2.1 + a) :: st) (stg h a ci fs k ar) (a + 1 + k) kc ks :=
  V_newB hv hw d0 h1 h2 (V_putF hI hf hp d1 rfl rfl hup_stg_at hl (V_sub (stg_arr har) kk))
end Rows10
