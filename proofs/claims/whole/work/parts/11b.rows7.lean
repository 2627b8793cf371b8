/-! inherited methods, switches -/
def nin (x : Int32) : List Int32 → Prop
  | [] => True
  | k :: ks => ¬ x = k ∧ nin x ks
theorem nin_mem {x : Int32} : ∀ {ks : List Int32}, nin x ks → ∀ k ∈ ks, ¬ x = k
  | [], _, k, h => absurd h List.not_mem_nil
  | a :: ks, h, k, hk => by
    rcases List.mem_cons.mp hk with h9 | h9
    · rw [h9]; exact h.1
    · exact nin_mem h.2 k h9
/-- a callee that the receiver's class inherits, or overrides -/
def LkU (own : String) (idx : Nat) (C owner : String) (x y : MethodName) : Prop := Cond.methodLink own idx x ∈ gw ∧ Cond.sameMethod x.cls owner x.name x.desc ∈ gw ∧ Cond.selects C x y ∈ gw ∧ Cond.instanceMethod y ∈ gw ∧ (owner ≠ "java/lang/invoke/MethodHandle" ∧ owner ≠ "java/lang/invoke/VarHandle") ∧ (y = ⟨owner, x.name, x.desc⟩ ∨ (⟨owner, x.name, x.desc⟩ : MethodName) ∈ nD_l) ∧ x.desc = y.desc
section Rows7
variable {G : Gl} {C : Cx} {F F' : Fi} {pc : Nat} {ls ls' : List (Option Value)} {st st0 : List Value} {μ μ' : Mem} {h : Hm} {n kc ks kc' ks' : Nat} {Qr : Option Value → Hm → Nat → Prop} {Qx : String → Hm → Nat → Prop}
theorem V_callU {x y : MethodName} {ret : Option FieldType} {As : List Value} {idx a ci N : Nat} {T : u_T} {fs : List Value} {CC owner : String} (hM : Sd G y F' (.code y F'.2.1 F'.2.2.1 ret) (.ref (G.2.1 + a) :: As) h n Qr (fun _ _ _ => False)) (hm : LkM y F' (.code y F'.2.1 F'.2.2.1 ret) As.length) (hl : LkU F.1 idx CC owner x y) (hc : classes[ci]? = some (CC, T, N)) (he : h a = some (.inr (ci, fs))) (hd : decode F.2.1 pc = .ok (.invokevirtual idx, 3)) (hst : As.reverse ++ .ref (G.2.1 + a) :: st = st0) (hw : (st.map fun v => v.category).sum ≤ 8)
    (hr : F'.2.2.2.1 < F.2.2.2.1 ∧ kc + F'.2.2.2.2.1 ≤ F.2.2.2.2.1 ∧ ks + F'.2.2.2.2.2.1 ≤ F.2.2.2.2.2.1)
    (k : ∀ (r : Option Value) (h' : Hm) (n' : Nat), Qr r h' n' → V G C F (pc + 3) ls (r.toList ++ st) h' n' (kc + F'.2.2.2.2.1) (ks + F'.2.2.2.2.2.1)) : V G C F pc ls st0 h n kc ks := by
  obtain ⟨R, p, e, s, m, args, below, meth, c, Q⟩ := C
  intro hO H locs lsA hH hS hL
  subst hst
  obtain ⟨p1, p2⟩ := call9_pre (As := .ref (G.2.1 + a) :: As) hO hH hS
  have hts := hO.2.2.2.2.1
  obtain ⟨r1, r2, r3, r4⟩ := hO.2.2.2.2.2.2.1
  have hm4 := hm.2.2.2.2
  have hGd : GoodIn gw (.code y F'.2.1 F'.2.2.1 ret :: gw) := by
    intro w h9
    rcases List.mem_cons.mp h9 with h9 | h9
    · rw [h9]; exact gw_good _ hm.1
    · exact gw_good _ h9
  refine call9 hO hS hL (Qx := fun _ _ _ => False) (run_vx (va_runU (Ts := gw) (nL := F.2.2.1) (As := As) (ret := ret) (C := CC) (owner := owner) (x := x) ⟨hO.1, hO.2.1, hO.2.2.1, hO.2.2.2.1, hts⟩ (Sd.met hM) ⟨⟨rfl, rfl, ?_, ?_, pay_in hts hGd, List.mem_cons_self⟩, hts _ hm.1, hts _ hm.2.1, hl.2.2.2.2.1, fun sig h8 => ?_, hts _ hl.1, hts _ hl.2.1, ?_, hts _ hl.2.2.1, hts _ hl.2.2.2.1⟩ ⟨p1, va_recv (cl := classes) (D := gD G) (tys := gT G) hO.2.2.2.2.2.1.1 (hH.one he) (q0 := 0) hc rfl, p2⟩ rfl rfl hL.1 rfl (lv_room hw) hd ⟨by omega, by omega⟩)) (fun _ _ _ h => h.elim) k
  · show 10 + F'.2.2.2.1 + 1 ≤ R.frames
    omega
  · show 8 + (F'.2.2.1 + 11) + (200 + 64 * F'.2.2.2.1) ≤ R.locals
    omega
  · have h7 := hm.2.2.2.1
    rw [← hl.2.2.2.2.2.2, h8] at h7
    exact (Option.some.inj h7).symm
  · rcases hl.2.2.2.2.2.1 with h9 | h9
    · rw [← h9]; exact va_Decl.of (hts _ hl.2.2.2.1) (hts _ hm.1)
    · exact va_Decl.abs (hO.2.2.2.2.2.1.2.2.2.2.2.2.2.1 _ h9)
theorem B_callU0 {x y : MethodName} {ret : Option FieldType} {As : List Value} {idx a ci N : Nat} {T : u_T} {CC owner : String} (hM : Rt G y F' ret (.ref (G.2.1 + a) :: As) μ none μ') (hk : kdL[a]? = some (0, ci)) (hc : classes[ci]? = some (CC, T, N)) (hm : LkM y F' (.code y F'.2.1 F'.2.2.1 ret) As.length) (hl : LkU F.1 idx CC owner x y) (hd : decode F.2.1 pc = .ok (.invokevirtual idx, 3)) (hst : As.reverse ++ .ref (G.2.1 + a) :: st = st0) (hw : (st.map fun v => v.category).sum ≤ 8) (hz : F'.2.2.2.2.1 = 0 ∧ F'.2.2.2.2.2.1 = 0 ∧ kc ≤ F.2.2.2.2.1 ∧ ks ≤ F.2.2.2.2.2.1 ∧ F'.2.2.2.1 < F.2.2.2.1) (k : ∀ n', V G C F (pc + 3) ls st (pic G μ') n' kc ks) : V G C F pc ls st0 (pic G μ) n kc ks := by
  obtain ⟨z1, z2, z3, z4, z5⟩ := hz
  refine V_callU (hM n) hm hl hc (pic_at hk) hd hst hw ⟨z5, by rw [z1]; exact z3, by rw [z2]; exact z4⟩ (fun r' h' n' h9 => ?_)
  obtain ⟨rfl, rfl⟩ := h9
  rw [z1, z2]
  exact k n'
/-- a switch at a known key -/
theorem V_tabC {dflt lo hi : Int} {offs : Array Int} {len : Nat} {x q : Int32} {off : Int} {tgt : Nat} (hd : decode F.2.1 pc = .ok (.tableswitch dflt lo hi offs, len)) (hx : x = q) (h9 : (¬ q.toInt < lo ∧ ¬ hi < q.toInt) ∧ offs[(q.toInt - lo).toNat]? = some off) (ht : (pc : Int) + off = (tgt : Int)) (k : V G C F tgt ls st h n kc ks) : V G C F pc ls (.int x :: st) h n kc ks := by
  subst hx
  exact V_tableIn hd h9.1.1 h9.1.2 h9.2 ht k
/-- .. at none of them -/
theorem V_tabD {dflt lo hi : Int} {offs : Array Int} {len : Nat} {x : Int32} {ks9 : List Int32} {tgt : Nat} (hd : decode F.2.1 pc = .ok (.tableswitch dflt lo hi offs, len)) (hn : nin x ks9) (hk : (List.range (hi + 1 - lo).toNat).map (fun j : Nat => Int32.ofInt (lo + (j : Int))) = ks9) (ht : (pc : Int) + dflt = (tgt : Int)) (k : V G C F tgt ls st h n kc ks) : V G C F pc ls (.int x :: st) h n kc ks := by
  refine V_tableOut hd ?_ ht k
  by_cases h1 : x.toInt < lo
  · exact Or.inl h1
  · by_cases h2 : hi < x.toInt
    · exact Or.inr h2
    · refine absurd ?_ (nin_mem hn x ?_)
      · rfl
      · rw [← hk]
        refine List.mem_map.mpr ⟨(x.toInt - lo).toNat, List.mem_range.mpr (by omega), ?_⟩
        rw [show lo + (((x.toInt - lo).toNat : Nat) : Int) = x.toInt by omega]
        exact Int32.ofInt_toInt x
theorem V_lkC {dflt : Int} {ps : Array (Int × Int)} {len : Nat} {x q : Int32} {off : Int} {tgt : Nat} (hd : decode F.2.1 pc = .ok (.lookupswitch dflt ps, len)) (hx : x = q) (h9 : (ps.toList.zip (ps.toList.drop 1)).all (fun (a, next) => a.1 < next.1) = true ∧ Op.lookupswitch.offset ps.toList dflt q.toInt = off) (ht : (pc : Int) + off = (tgt : Int)) (k : V G C F tgt ls st h n kc ks) : V G C F pc ls (.int x :: st) h n kc ks := by
  subst hx
  exact V_lookup hd h9.1 h9.2 ht k
theorem lk_none {dflt : Int} {x : Int32} : ∀ (ps : List (Int × Int)), nin x (ps.map (fun a => Int32.ofInt a.1)) → Op.lookupswitch.offset ps dflt x.toInt = dflt
  | [], _ => rfl
  | (a, o) :: r, h9 => by
    rw [Op.lookupswitch.offset_cons, if_neg (fun h8 => h9.1 (by rw [h8]; exact (Int32.ofInt_toInt x).symm))]
    exact lk_none r h9.2
theorem V_lkD {dflt : Int} {ps : Array (Int × Int)} {len : Nat} {x : Int32} {ks9 : List Int32} {tgt : Nat} (hd : decode F.2.1 pc = .ok (.lookupswitch dflt ps, len)) (hn : nin x ks9) (h9 : (ps.toList.zip (ps.toList.drop 1)).all (fun (a, next) => a.1 < next.1) = true ∧ ps.toList.map (fun a => Int32.ofInt a.1) = ks9) (ht : (pc : Int) + dflt = (tgt : Int)) (k : V G C F tgt ls st h n kc ks) : V G C F pc ls (.int x :: st) h n kc ks := V_lookup hd h9.1 (lk_none ps.toList (by rw [h9.2]; exact hn)) ht k
theorem V_throwSW {k0 ik ix ic : Nat} {cls : String} {ret : Option FieldType} (hT : Tk F.1 ik ix ic cls) (hQ : Fin9 G C F ret Qr Qx) (hh : F.2.2.2.2.2.2 = []) (d0 : decode F.2.1 pc = .ok (.new ik, 3)) (d3 : decode F.2.1 (pc + 3) = .ok (.dup, 1)) (d4 : decode F.2.1 (pc + 4) = .ok (.ldc_w ix, 3)) (d6 : decode F.2.1 (pc + 7) = .ok (.invokespecial ic, 3)) (d9 : decode F.2.1 (pc + 10) = .ok (.athrow, 1)) (hw : (st.map fun v => v.category).sum ≤ 8) (h1 : kc + 1 ≤ F.2.2.2.2.1) (h2 : ks + 6 ≤ F.2.2.2.2.2.1) (hq : ∀ n', Qx cls h n') : V G C F pc ls st h n kc ks := by
  obtain ⟨R, p, e, s, m, args, below, meth, c, Q⟩ := C
  intro hO H locs lsA hH hS hL
  obtain ⟨rfl, hr⟩ := hQ
  obtain ⟨t1, t2, t3, ⟨tx, i, t4⟩, t5, t6, t7⟩ := hT
  have ht := hO.2.2.2.2.2.2.2.2.2
  rw [hh] at ht
  have hts := hO.2.2.2.2.1
  obtain ⟨r1, r2, r3, r4⟩ := hO.2.2.2.2.2.2.1
  have hKx := hO.2.2.2.2.2.1.2.2
  refine vx_throwSW (A := gA G) (names := ["java/lang/RuntimeException", "java/lang/Exception"]) hO.1 hO.2.1 hO.2.2.2.2.2.2.2.2.1 hO.2.2.2.1 t1 (by decide) (hts _ t2) (hts _ t3) (hKx.2.2.1 _ t4) (vx_hat (fun w hw9 => hts _ (t5 w hw9)) t6 (fun w hw9 => ?_)) t7 hKx.2.2.2.2.2.2.1 hKx.2.2.2.2.2.2.2.1 hS (hL.1.trans hO.2.2.1.symm) d0 d3 d4 d6 d9 (fun x hx => by rw [ht] at hx; cases hx) (by show 2 + 3 < R.frames; omega) (by show _ + (13 * (2 + 1) + 43) ≤ R.locals; omega) (by omega) (by omega) hO.2.2.2.2.2.2.2.1 (fun t hvm hz ho => ?_) hS.2.2 h1 h2
  · rcases List.mem_append.mp hw9 with h9 | h9
    · obtain ⟨q, hq9, rfl⟩ := List.mem_map.mp h9
      exact va_Nw.use rfl (hKx.2.2.2.2.1 q hq9)
    · obtain ⟨q, hq9, rfl⟩ := List.mem_map.mp h9
      exact va_Nw.use rfl (hKx.2.2.2.2.2.1 q hq9)
  · exact ⟨h, _, hq _, hH.skip hz ho, Nat.le_trans hS.1 hz, fun q h8 h9 => (ho q (Nat.lt_of_lt_of_le h8 hS.1)).trans (hS.2.1 q h8 h9)⟩
theorem B_throwW {k0 ik ix ic : Nat} {cls : String} {ret : Option FieldType} (hK : FinX G C F ret (.inl (k0, μ))) (hT : Tk F.1 ik ix ic cls) (hk : exN k0 = cls) (hh : F.2.2.2.2.2.2 = []) (d0 : decode F.2.1 pc = .ok (.new ik, 3)) (d3 : decode F.2.1 (pc + 3) = .ok (.dup, 1)) (d4 : decode F.2.1 (pc + 4) = .ok (.ldc_w ix, 3)) (d6 : decode F.2.1 (pc + 7) = .ok (.invokespecial ic, 3)) (d9 : decode F.2.1 (pc + 10) = .ok (.athrow, 1)) (hw : (st.map fun v => v.category).sum ≤ 8) (h1 : kc + 1 ≤ F.2.2.2.2.1) (h2 : ks + 6 ≤ F.2.2.2.2.2.1) : V G C F pc ls st (pic G μ) n kc ks := V_throwSW (k0 := k0) hT hK hh d0 d3 d4 d6 d9 hw h1 h2 (fun _ => ⟨k0, μ, rfl, hk.symm, rfl⟩)
end Rows7
