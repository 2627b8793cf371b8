def hup (h : Hm) (k : Nat) (e : va_E) : Hm := fun j => if j = k then some e else h j
theorem Hp.at {G : Gl} {h : Hm} {n k : Nat} {H : Heap} {e : va_E} (hH : Hp G h n H) (hk : h k = some e) : va_at (gD G) classes (G.2.1 + k, e) H := (hH.2 k e hk).2
theorem Hp.one {G : Gl} {h : Hm} {n k : Nat} {H : Heap} {e : va_E} (hH : Hp G h n H) (hk : h k = some e) : va_P (gD G) classes [(G.2.1 + k, e)] H := by
  intro j q hj
  cases j with
  | zero => cases hj; exact hH.at hk
  | succ j => cases hj
theorem Hp.put {G : Gl} {h : Hm} {n k : Nat} {H H1 : Heap} {e0 e : va_E} (hH : Hp G h n H) (hk : h k = some e0) (he : va_at (gD G) classes (G.2.1 + k, e) H1) (z : H1.size = H.size) (oq : ∀ q : Nat, q ≠ G.2.1 + k → H1[q]? = H[q]?) : Hp G (hup h k e) n H1 := by
  refine ⟨z.trans hH.1, fun j e1 hj => ?_⟩
  unfold hup at hj
  by_cases hjk : j = k
  · rw [if_pos hjk] at hj
    cases hj
    subst hjk
    exact ⟨(hH.2 j e0 hk).1, he⟩
  · rw [if_neg hjk] at hj
    obtain ⟨a1, a2⟩ := hH.2 j e1 hj
    exact ⟨a1, a2.kept (oq (G.2.1 + j) (by omega))⟩
theorem Hp.new {G : Gl} {h : Hm} {n : Nat} {H H1 : Heap} {e : va_E} (hH : Hp G h n H) (he : va_at (gD G) classes (G.2.1 + n, e) H1) (z : H1.size = H.size + 1) (o : ∀ q : Nat, q < H.size → H1[q]? = H[q]?) : Hp G (hup h n e) (n + 1) H1 := by
  have hz := hH.1
  refine ⟨by omega, fun j e1 hj => ?_⟩
  unfold hup at hj
  by_cases hjk : j = n
  · rw [if_pos hjk] at hj
    cases hj
    subst hjk
    exact ⟨by omega, he⟩
  · rw [if_neg hjk] at hj
    obtain ⟨a1, a2⟩ := hH.2 j e1 hj
    exact ⟨by omega, a2.kept (o _ a2.lt)⟩
theorem Hp.skip {G : Gl} {h : Hm} {n : Nat} {H H1 : Heap} (hH : Hp G h n H) (z : H.size ≤ H1.size) (o : ∀ q : Nat, q < H.size → H1[q]? = H[q]?) : Hp G h (n + (H1.size - H.size)) H1 := by
  have hz := hH.1
  refine ⟨by omega, fun j e1 hj => ?_⟩
  obtain ⟨a1, a2⟩ := hH.2 j e1 hj
  exact ⟨by omega, a2.kept (o _ a2.lt)⟩
/-- a field of a class, as an instruction of 'own' names it -/
def Fl (own : String) (idx ci i : Nat) : Prop := ∃ (C : String) (T : u_T) (N : Nat) (ref : String), classes[ci]? = some (C, T, N) ∧ i < N ∧ (∀ w ∈ u_ws C T N, w ∈ gw) ∧ Cond.fieldLink own idx ref (T i).2.1 (T i).2.2.1 ∈ gw ∧ (ref = (T i).1 ∨ Cond.sameField ref (T i).1 (T i).2.1 (T i).2.2.1 ∈ gw)
/-- a private field of a nest mate -/
def FlN (own : String) (idx ci i : Nat) : Prop := ∃ (C : String) (T : u_T) (N : Nat) (host : String), classes[ci]? = some (C, T, N) ∧ i < N ∧ (∀ w ∈ u_ws C T N, w ∈ gw) ∧ (own, idx, (T i).1, (T i).2.1, (T i).2.2.1, host) ∈ nF_l
/-- a field that may be written: not final, of type ty -/
def Pt9 (ci i : Nat) (ty : FieldType) : Prop := ∃ (C : String) (T : u_T) (N : Nat) (tf : Nat → FieldType), classes[ci]? = some (C, T, N) ∧ (∀ k, k < N → parseFieldDescriptor (T k).2.2.1 = some (tf k)) ∧ (∀ a, a < N → ∀ b, b < N → a ≠ b → (T a).2.1 ≠ (T b).2.1) ∧ (T i).2.2.2 = false ∧ parseFieldDescriptor (T i).2.2.1 = some ty
section Rows2
variable {G : Gl} {C : Cx} {F : Fi} {pc : Nat} {ls ls' : List (Option Value)} {st : List Value} {h : Hm} {n kc ks : Nat}
theorem V_get {idx ci i a : Nat} {fs : List Value} {v : Value} (hf : Fl F.1 idx ci i) (hd : decode F.2.1 pc = .ok (.getfield idx, 3)) (he : h a = some (.inr (ci, fs))) (hv : fs[i]? = some v) (k : V G C F (pc + 3) ls (v :: st) h n kc ks) : V G C F pc ls (.ref (G.2.1 + a) :: st) h n kc ks := by
  obtain ⟨R, p, e, s, m, args, below, meth, c, Q⟩ := C
  intro hO H locs lsA hH hS hL
  obtain ⟨C9, T, N, ref, hc, hi, hin, hl, hs⟩ := hf
  refine va_get (cl := classes) (D := gD G) (tys := gT G) hO.1 hO.2.1 hO.2.2.2.2.1 hin hO.2.2.2.1 hO.2.2.2.2.2.1.1 (hH.one he) 0 rfl hc i hi (hO.2.2.2.2.1 _ hl) (fun x h9 => ?_) hv hd (k hO H locs lsA hH hS hL)
  rcases hs with hs | hs
  · rw [hs]; exact h9
  · exact u_same (hO.2.2.2.2.1 _ hs) x h9
theorem V_getN {idx ci i a : Nat} {fs : List Value} {v : Value} (hf : FlN F.1 idx ci i) (hd : decode F.2.1 pc = .ok (.getfield idx, 3)) (he : h a = some (.inr (ci, fs))) (hv : fs[i]? = some v) (k : V G C F (pc + 3) ls (v :: st) h n kc ks) : V G C F pc ls (.ref (G.2.1 + a) :: st) h n kc ks := by
  obtain ⟨R, p, e, s, m, args, below, meth, c, Q⟩ := C
  intro hO H locs lsA hH hS hL
  obtain ⟨C9, T, N, host, hc, hi, hin, hl⟩ := hf
  exact va_getN (cl := classes) (D := gD G) (tys := gT G) hO.1 hO.2.1 hO.2.2.2.2.1 hin hO.2.2.2.1 hO.2.2.2.2.2.1.1 (hH.one he) 0 rfl hc i hi (va_Nw.use rfl (hO.2.2.2.2.2.1.2.2.2.1 _ hl)) (fun x h9 => h9) hv hd (k hO H locs lsA hH hS hL)
theorem V_put {idx ci i a : Nat} {fs : List Value} {v : Value} {ty : FieldType} (hf : Fl F.1 idx ci i) (hp : Pt9 ci i ty) (hd : decode F.2.1 pc = .ok (.putfield idx, 3)) (hn : narrow ty v = v) (hfit : fits ty v = true) (he : h a = some (.inr (ci, fs))) (hl : i < fs.length) (k : V G C F (pc + 3) ls st (hup h a (.inr (ci, fs.set i v))) n kc ks) : V G C F pc ls (v :: .ref (G.2.1 + a) :: st) h n kc ks := by
  obtain ⟨R, p, e, s, m, args, below, meth, c, Q⟩ := C
  intro hO H locs lsA hH hS hL
  obtain ⟨C9, T, N, ref, hc, hi, hin, hlk, hs⟩ := hf
  obtain ⟨C8, T8, N8, tf, hc8, hty, hnm, hfin, hds⟩ := hp
  have hcc : (C9, T, N) = (C8, T8, N8) := Option.some.inj (hc.symm.trans hc8)
  cases hcc
  have hts := hO.2.2.2.2.1
  have hK := hO.2.2.2.2.2.1.1
  have hap := va_apart (own := F.1) (cl := classes) (D := gD G) (tys := gT G) hts hin tf hty hnm hK hc
  obtain ⟨r, h1, cell, q1, q2, q3, q4⟩ := hH.at he
  have hr : r = (C9, T, N) := Option.some.inj (h1.symm.trans hc)
  subst hr
  obtain ⟨hS1, hfc, kC, hkC, hkind⟩ := hK.1 ci _ hc
  obtain ⟨cf, kf, fi, f, hi9, hsl⟩ := hS1 i hi
  have hlay := hts _ (hin _ (u_in_lay hi))
  unfold u_lay at hlay
  rw [if_neg (by rw [hfin]; decide)] at hlay
  have hst := (u_facts hfc hkC (u_lays hts hin hi) hi9).1
  have h6 := u_store hfc hkC hkind hlay hi9 hds hn hfit
  have hsame : s.fieldFound? ref (T i).2.1 (T i).2.2.1 = some (cf, kf, fi, f) := by
    rcases hs with hs | hs
    · rw [hs]; exact hi9
    · exact u_same (hts _ hs) _ hi9
  refine W.putK hO.1 hO.2.1 (f := f) ⟨hO.2.2.2.1, hts _ hlk, ⟨_, _, _, hsame⟩, hst⟩ (by rw [q2]; exact h6) q1 q3 (by rw [hsl]; exact k2_hasslot (q4 i hi)) rfl rfl hd fun H' e1 e2 e3 => ?_
  rw [hsl] at e1 ⊢
  exact k hO H' _ lsA (hH.put he ⟨_, hc, t_OB.to (V := updV (vp_V fs) i v) ⟨_, e1, q2, q3, t_set q4 hap hi v⟩ (fun j _ => vp_updV_set hl v j)⟩ e2 e3) (hS.put e2 e3 (Nat.le_add_right _ _)) hL
theorem V_iald {a m9 : Nat} {f : Nat → Int32} {i : Int32} (hd : decode F.2.1 pc = .ok (.iaload, 1)) (he : h a = some (.inl (G.2.2.2.1 0, m9, .inl f))) (hi : vp_in i m9) (k : V G C F (pc + 1) ls (.int (f i.toNatClampNeg) :: st) h n kc ks) : V G C F pc ls (.int i :: .ref (G.2.1 + a) :: st) h n kc ks := by
  obtain ⟨R, p, e, s, m, args, below, meth, c, Q⟩ := C
  intro hO H locs lsA hH hS hL
  exact va_iald (cl := classes) (D := gD G) (tys := gT G) hO.1 hO.2.1 hO.2.2.2.2.2.1.1 (hH.one he) 0 0 rfl rfl hi hd (k hO H locs lsA hH hS hL)
theorem V_bald {a m9 : Nat} {f : Nat → Int32} {i : Int32} (hd : decode F.2.1 pc = .ok (.baload, 1)) (he : h a = some (.inl (G.2.2.2.1 1, m9, .inl f))) (hi : vp_in i m9) (k : V G C F (pc + 1) ls (.int (f i.toNatClampNeg) :: st) h n kc ks) : V G C F pc ls (.int i :: .ref (G.2.1 + a) :: st) h n kc ks := by
  obtain ⟨R, p, e, s, m, args, below, meth, c, Q⟩ := C
  intro hO H locs lsA hH hS hL
  exact va_bald (cl := classes) (D := gD G) (tys := gT G) hO.1 hO.2.1 hO.2.2.2.2.2.1.1 (hH.one he) 0 1 rfl rfl hi hd (k hO H locs lsA hH hS hL)
theorem V_lald {a m9 : Nat} {f : Nat → Int64} {i : Int32} (hd : decode F.2.1 pc = .ok (.laload, 1)) (he : h a = some (.inl (G.2.2.2.1 2, m9, .inr (.inl f)))) (hi : vp_in i m9) (k : V G C F (pc + 1) ls (.long (f i.toNatClampNeg) :: st) h n kc ks) : V G C F pc ls (.int i :: .ref (G.2.1 + a) :: st) h n kc ks := by
  obtain ⟨R, p, e, s, m, args, below, meth, c, Q⟩ := C
  intro hO H locs lsA hH hS hL
  exact va_lald (cl := classes) (D := gD G) (tys := gT G) hO.1 hO.2.1 hO.2.2.2.2.2.1.1 (hH.one he) 0 2 rfl rfl hi hd (k hO H locs lsA hH hS hL)
theorem V_aald {a m9 : Nat} {f : Nat → Option Nat} {i : Int32} {b : Nat} (hd : decode F.2.1 pc = .ok (.aaload, 1)) (he : h a = some (.inl (G.2.2.2.1 3, m9, .inr (.inr (.inr (.inr f)))))) (hi : vp_in i m9) (hb : f i.toNatClampNeg = some b) (k : V G C F (pc + 1) ls (.ref b :: st) h n kc ks) : V G C F pc ls (.int i :: .ref (G.2.1 + a) :: st) h n kc ks := by
  obtain ⟨R, p, e, s, m, args, below, meth, c, Q⟩ := C
  intro hO H locs lsA hH hS hL
  refine va_aldq (cl := classes) (D := gD G) (tys := gT G) hO.1 hO.2.1 hO.2.2.2.2.2.1.1 (hH.one he) 0 3 rfl rfl hi hd ?_
  rw [hb]
  exact k hO H locs lsA hH hS hL
theorem V_iast {a m9 : Nat} {f : Nat → Int32} {i x : Int32} (hd : decode F.2.1 pc = .ok (.iastore, 1)) (he : h a = some (.inl (G.2.2.2.1 0, m9, .inl f))) (hi : vp_in i m9) (k : V G C F (pc + 1) ls st (hup h a (.inl (G.2.2.2.1 0, m9, .inl (upd f i.toNatClampNeg x)))) n kc ks) : V G C F pc ls (.int x :: .int i :: .ref (G.2.1 + a) :: st) h n kc ks := by
  obtain ⟨R, p, e, s, m, args, below, meth, c, Q⟩ := C
  intro hO H locs lsA hH hS hL
  refine W.iast hO.1 hO.2.1 (hH.at he) ((hO.2.2.2.2.2.1.1.2 0 _ rfl).1 m9 (fun j => .int (f j))) (fun q => by cases q) (by show ¬ (i < 0 ∨ (arrV _ _ _).slots.size ≤ _); rw [arrV_size]; exact hi) rfl rfl hd fun H1 e9 z oq => ?_
  refine k hO H1 _ lsA (hH.put he ?_ z oq) (hS.put z oq (Nat.le_add_right _ _)) hL
  show H1[G.2.1 + a]? = some (vp_cell _ _)
  rw [e9]
  rw [vp_cell_i, vp_cell_i, arrV_store]
  congr 2
  funext q
  by_cases hq : q = i.toNatClampNeg
  · subst hq
    simp [updV, upd]
  · simp [updV, upd, hq]
theorem V_bast {a m9 : Nat} {f : Nat → Int32} {i x : Int32} (hd : decode F.2.1 pc = .ok (.bastore, 1)) (he : h a = some (.inl (G.2.2.2.1 1, m9, .inl f))) (hi : vp_in i m9) (k : V G C F (pc + 1) ls st (hup h a (.inl (G.2.2.2.1 1, m9, .inl (upd f i.toNatClampNeg x.toInt8.toInt32)))) n kc ks) : V G C F pc ls (.int x :: .int i :: .ref (G.2.1 + a) :: st) h n kc ks := by
  obtain ⟨R, p, e, s, m, args, below, meth, c, Q⟩ := C
  intro hO H locs lsA hH hS hL
  refine W.bast hO.1 hO.2.1 (hH.at he) ((hO.2.2.2.2.2.1.1.2 1 _ rfl).1 m9 (fun j => .int (f j))) (fun q => by cases q) (by show ¬ (i < 0 ∨ (arrV _ _ _).slots.size ≤ _); rw [arrV_size]; exact hi) rfl rfl hd fun H1 e9 z oq => ?_
  refine k hO H1 _ lsA (hH.put he ?_ z oq) (hS.put z oq (Nat.le_add_right _ _)) hL
  show H1[G.2.1 + a]? = some (vp_cell _ _)
  rw [e9]
  rw [vp_cell_i, vp_cell_i, arrV_store]
  congr 2
  funext q
  by_cases hq : q = i.toNatClampNeg
  · subst hq
    simp [updV, upd, vp_nar_byte]
    rfl
  · simp [updV, upd, hq]
theorem V_last {a m9 : Nat} {f : Nat → Int64} {i : Int32} {x : Int64} (hd : decode F.2.1 pc = .ok (.lastore, 1)) (he : h a = some (.inl (G.2.2.2.1 2, m9, .inr (.inl f)))) (hi : vp_in i m9) (k : V G C F (pc + 1) ls st (hup h a (.inl (G.2.2.2.1 2, m9, .inr (.inl (vp_updL f i.toNatClampNeg x))))) n kc ks) : V G C F pc ls (.long x :: .int i :: .ref (G.2.1 + a) :: st) h n kc ks := by
  obtain ⟨R, p, e, s, m, args, below, meth, c, Q⟩ := C
  intro hO H locs lsA hH hS hL
  refine W.last hO.1 hO.2.1 (hH.at he) ((hO.2.2.2.2.2.1.1.2 2 _ rfl).1 m9 (fun j => .long (f j))) (fun q => by cases q) (by show ¬ (i < 0 ∨ (arrV _ _ _).slots.size ≤ _); rw [arrV_size]; exact hi) rfl rfl hd fun H1 e9 z oq => ?_
  refine k hO H1 _ lsA (hH.put he ?_ z oq) (hS.put z oq (Nat.le_add_right _ _)) hL
  show H1[G.2.1 + a]? = some (vp_cell _ _)
  rw [e9]
  rw [vp_cell_l, vp_cell_l, arrV_store]
  congr 2
  funext q
  by_cases hq : q = i.toNatClampNeg
  · subst hq
    simp [updV, vp_updL]
  · simp [updV, vp_updL, hq]
theorem V_alen {a m9 : Nat} {f : Nat → Int32} {v : Int32} (hd : decode F.2.1 pc = .ok (.arraylength, 1)) (he : h a = some (.inl (G.2.2.2.1 0, m9, .inl f))) (hv : Int32.ofNat m9 = v) (k : V G C F (pc + 1) ls (.int v :: st) h n kc ks) : V G C F pc ls (.ref (G.2.1 + a) :: st) h n kc ks := by
  obtain ⟨R, p, e, s, m, args, below, meth, c, Q⟩ := C
  intro hO H locs lsA hH hS hL
  exact va_alen (cl := classes) (D := gD G) (tys := gT G) hO.1 hO.2.1 hO.2.2.2.2.2.1.1 (hH.one he) 0 0 rfl rfl hv hd (k hO H locs lsA hH hS hL)
end Rows2
