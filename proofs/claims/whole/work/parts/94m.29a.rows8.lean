/-! the law's own rows: its script, calls of its methods that catch -/
def ScX (G : Gl) (C : Cx) (b L : Nat) (xs : Nat → Int32) : Prop := match C with
  | (R, p, e, s, m, args, below, meth, c, Q) => va_X b L xs s s.heap ∧ b < s.heap.size ∧ b < G.2.1
def RtH (G : Gl) (y : MethodName) (F : Fi) (ret : Option FieldType) (args : List Value) (μ : Mem) (r : Option Value) (μ' : Mem) : Prop := ∀ n, Sd G y F (.codeWith y F.2.1 F.2.2.1 ret F.2.2.2.2.2.2) args (pic G μ) n (fun r' h' _ => r' = r ∧ h' = pic G μ') (fun _ _ _ => False)
theorem elimL {α β γ : Type} {f : α → γ} {g : β → γ} {v : α} {r : γ} (h : Sum.elim f g (.inl v) = r) : f v = r := h
section Rows8
variable {G : Gl} {C : Cx} {F F' : Fi} {pc : Nat} {ls : List (Option Value)} {st st0 : List Value} {μ μ' : Mem} {h : Hm} {n kc ks kc' ks' : Nat} {Qr : Option Value → Hm → Nat → Prop} {Qx : String → Hm → Nat → Prop}
theorem V_sld {b L : Nat} {xs : Nat → Int32} {i v : Int32} (hX : ScX G C b L xs) (h9 : sc9 L xs i = some v) (hd : decode F.2.1 pc = .ok (.iaload, 1)) (k : V G C F (pc + 1) ls (.int v :: st) h n kc ks) : V G C F pc ls (.int i :: .ref b :: st) h n kc ks := by
  obtain ⟨R, p, e, s, m, args, below, meth, c, Q⟩ := C
  intro hO H locs lsA hH hS hL
  obtain ⟨x1, x2, x3⟩ := hX
  unfold sc9 at h9
  by_cases hc : i < 0 ∨ L ≤ i.toNatClampNeg
  · rw [if_pos hc] at h9; cases h9
  · rw [if_neg hc] at h9
    have h8 := Option.some.inj h9
    subst h8
    exact va_sld (A := gA G) hO.1 hO.2.1 x1 x2 (Nat.not_le.mpr x3) hS hc hd (k hO H locs lsA hH hS hL)
theorem V_slen {b L : Nat} {xs : Nat → Int32} (hX : ScX G C b L xs) (hd : decode F.2.1 pc = .ok (.arraylength, 1)) (k : V G C F (pc + 1) ls (.int (Int32.ofNat L) :: st) h n kc ks) : V G C F pc ls (.ref b :: st) h n kc ks := by
  obtain ⟨R, p, e, s, m, args, below, meth, c, Q⟩ := C
  intro hO H locs lsA hH hS hL
  obtain ⟨x1, x2, x3⟩ := hX
  exact va_slen (A := gA G) hO.1 hO.2.1 x1 x2 (Nat.not_le.mpr x3) hS hd (k hO H locs lsA hH hS hL)
theorem V_callSH {y : MethodName} {ret : Option FieldType} {As : List Value} {idx : Nat} (hM : Sd G y F' (.codeWith y F'.2.1 F'.2.2.1 ret F'.2.2.2.2.2.2) As h n Qr Qx) (hm : LkM y F' (.codeWith y F'.2.1 F'.2.2.1 ret F'.2.2.2.2.2.2) As.length) (hl : LkS F.1 idx y) (hd : decode F.2.1 pc = .ok (.invokestatic idx, 3)) (hst : As.reverse ++ st = st0) (hw : (st.map fun v => v.category).sum ≤ 8)
    (hr : F'.2.2.2.1 < F.2.2.2.1 ∧ kc + F'.2.2.2.2.1 ≤ F.2.2.2.2.1 ∧ ks + F'.2.2.2.2.2.1 ≤ F.2.2.2.2.2.1)
    (kx : ∀ (E : String) (h' : Hm) (n' : Nat), Qx E h' n' → VX G C F pc ls h' n' (kc + F'.2.2.2.2.1) (ks + F'.2.2.2.2.2.1) E)
    (k : ∀ (r : Option Value) (h' : Hm) (n' : Nat), Qr r h' n' → V G C F (pc + 3) ls (r.toList ++ st) h' n' (kc + F'.2.2.2.2.1) (ks + F'.2.2.2.2.2.1)) : V G C F pc ls st0 h n kc ks := by
  obtain ⟨R, p, e, s, m, args, below, meth, c, Q⟩ := C
  intro hO H locs lsA hH hS hL
  subst hst
  obtain ⟨p1, p2⟩ := call9_pre (As := As) hO hH hS
  have hts := hO.2.2.2.2.1
  obtain ⟨r1, r2, r3, r4⟩ := hO.2.2.2.2.2.2.1
  have hm4 := hm.2.2.2.2
  refine call9 hO hS hL (vx_runSX (Ts := gw) (nL := F.2.2.1) (As := As) (ret := ret) ⟨hO.1, hO.2.1, hO.2.2.1, hO.2.2.2.1, hts⟩ hM (vx_cwSW As.length hts (fun w hw9 => ?_) rfl rfl rfl ⟨hm.2.2.1.1, hm.2.2.1.2, hm.2.2.2.1⟩ ⟨?_, ?_⟩) ⟨p1, p2⟩ rfl rfl hL.1 rfl (lv_room hw) hd ⟨by omega, by omega⟩) kx k
  · rcases List.mem_append.mp hw9 with h9 | h9
    · simp only [List.mem_cons, List.not_mem_nil, or_false] at h9
      rcases h9 with h9 | h9 | h9
      · rw [h9]; exact gw_good _ hl.1
      · rw [h9]; exact gw_good _ hl.2
      · rw [h9]; exact gw_good _ hm.2.1
    · rcases List.mem_cons.mp h9 with h9 | h9
      · rw [h9]; exact gw_good _ hm.1
      · exact gw_good _ h9
  · show 10 + F'.2.2.2.1 + 1 ≤ R.frames
    omega
  · show 8 + (F'.2.2.1 + 11) + (200 + 64 * F'.2.2.2.1) ≤ R.locals
    omega
theorem B_callSH {y : MethodName} {ret : Option FieldType} {As : List Value} {idx : Nat} {r : Value} (hM : RtH G y F' ret As μ (some r) μ') (hm : LkM y F' (.codeWith y F'.2.1 F'.2.2.1 ret F'.2.2.2.2.2.2) As.length) (hl : LkS F.1 idx y) (hd : decode F.2.1 pc = .ok (.invokestatic idx, 3)) (hst : As.reverse ++ st = st0) (hw : (st.map fun v => v.category).sum ≤ 8) (hz : kc + F'.2.2.2.2.1 = kc' ∧ ks + F'.2.2.2.2.2.1 = ks' ∧ kc' ≤ F.2.2.2.2.1 ∧ ks' ≤ F.2.2.2.2.2.1 ∧ F'.2.2.2.1 < F.2.2.2.1) (k : ∀ n', V G C F (pc + 3) ls (r :: st) (pic G μ') n' kc' ks') : V G C F pc ls st0 (pic G μ) n kc ks := by
  obtain ⟨z1, z2, z3, z4, z5⟩ := hz
  refine V_callSH (hM n) hm hl hd hst hw ⟨z5, by rw [z1]; exact z3, by rw [z2]; exact z4⟩ (fun _ _ _ h => h.elim) (fun r' h' n' h9 => ?_)
  obtain ⟨rfl, rfl⟩ := h9
  rw [z1, z2]
  exact k n'
end Rows8
