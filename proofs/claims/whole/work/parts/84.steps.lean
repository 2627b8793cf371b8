/-! STEPS OF BOTH -/
def Ef (μ μ' : Mem) : Prop := ∀ k, k ≠ 1 → μ' k = μ k
def Eg (ν ν' : Mem) : Prop := (∀ k, k ≠ 264 → ν' k = ν k) ∧ ∀ i, i ≠ 10 → i ≠ 12 → ν' 264 i = ν 264 i
theorem Ef.refl {μ : Mem} : Ef μ μ := fun _ _ => rfl
theorem Ef.trans {μ μ1 μ2 : Mem} (h1 : Ef μ μ1) (h2 : Ef μ1 μ2) : Ef μ μ2 := fun k hk => (h2 k hk).trans (h1 k hk)
theorem Eg.refl {ν : Mem} : Eg ν ν := ⟨fun _ _ => rfl, fun _ _ _ => rfl⟩
theorem Eg.trans {ν ν1 ν2 : Mem} (h1 : Eg ν ν1) (h2 : Eg ν1 ν2) : Eg ν ν2 := ⟨fun k hk => (h2.1 k hk).trans (h1.1 k hk), fun i h h' => (h2.2 i h h').trans (h1.2 i h h')⟩
theorem ef3 {μ : Mem} {v : Int32} : Ef μ (mset μ 1 3 v) := fun k hk => mset_ne hk
theorem ef4 {μ : Mem} {v : Int32} : Ef μ (mset μ 1 4 v) := fun k hk => mset_ne hk
theorem egPB {ν : Mem} {p b : Nat} : Eg ν (setPB ν p b) := ⟨fun k hk => setPB_o hk, fun i h h' => setPB_i h h'⟩
/-- the class at a, the model at p, which skips to a -/
def RT (c : Nat) (B : Nat → Nat) (μ0 ν0 μ ν : Mem) (a p : Nat) : Prop := Cr c B μ0 μ a ∧ Mb ν0 ν ∧ ν 264 10 = nI p ∧ p ≤ c ∧ sk c B p = a
/-- the model has passed the letters at a -/
def RLt (c : Nat) (B : Nat → Nat) (μ0 ν0 μ ν : Mem) (a : Nat) : Prop := Cr c B μ0 μ a ∧ Mb ν0 ν ∧ ν 264 10 = nI (run c B 97 122 a) ∧ ν 264 12 = nI a
section Ss
variable {α β : Type} {c : Nat} {B : Nat → Nat} {μ0 ν0 μ ν : Mem} {a p w : Nat} {P : α → β → Prop}
theorem S_num (H : Tb c B μ0 ν0) (h : RT c B μ0 ν0 μ ν a p) {lo hi : Int32} {kc : Int32 × Mem → Option α} {km : Int32 × Mem → Option β} (ok : ∀ (v : Nat) (μ' ν' : Mem) (a' p' : Nat), v ≤ 999 → outb (nI v) lo hi = false → a + 1 ≤ a' → RT c B μ0 ν0 μ' ν' a' p' → Ef μ μ' → Eg ν ν' → ν' 264 12 = nI a → Sim (kc (nI v, μ')) (km (nI v, ν')) P) (no : ∀ (μ' ν' : Mem), Cw c μ0 μ' a → Mb ν0 ν' → ν' 264 12 = nI a → Ef μ μ' → Eg ν ν' → Sim (kc (lo, μ')) (km (-1, ν')) P) : Sim (Option.bind (f_X8_takeNumber μ lo hi) kc) (Option.bind (f_X12_number ν lo hi) km) P := by
  obtain ⟨hC, hM, hp, hpc, ha⟩ := h
  have hac := hC.2.2.1
  refine Sim.l (X8_num H hC lo hi) (Sim.r (X12_num H hM hp hpc ha lo hi) ?_)
  by_cases q : numOk c B lo hi a = true
  · rw [if_pos q, if_pos q]
    obtain ⟨v1, v2, v3⟩ := num_val q
    have hle := run_le (B := B) (lo := 48) (hi := 57) hac
    have hge := sk_ge (c := c) (B := B) (i := dgE c B a)
    exact ok _ _ _ (sk c B (dgE c B a)) (dgE c B a) v1 v2 (by omega) ⟨hC.mv H hle, hM.pb, setPB_10, hle, rfl⟩ ef3 egPB setPB_12
  · rw [if_neg q, if_neg q]
    exact no _ _ (hC.rf hac) hM.pb setPB_12 ef4 egPB
theorem Cr.need (H : Tb c B μ0 ν0) (h : Cr c B μ0 μ a) {s : Nat} (hs : s < 79) (hw : wok s = true) : f_X8_needWord μ s = some (if isW c B s a = true then mset μ 1 3 (nI (sk c B (a + wlen s))) else mset μ 1 4 (nI a)) := by
  unfold f_X8_needWord f_X8_needWord_j16
  refine bs (X8_word H h hs hw) ?_
  by_cases q : isW c B s a = true
  · refine it q ?_
    rw [if_pos q, if_pos q]
  · refine ie q ?_
    dsimp only
    rw [if_neg q, if_neg q, h.2.1]
    exact bs (X8_refuse h _) rfl
theorem isW_le {s : Nat} (hac : a ≤ c) (h : isW c B s a = true) : a + wlen s ≤ c := by
  rw [← isW_end h]
  exact run_le hac
theorem S_after (H : Tb c B μ0 ν0) (h : RT c B μ0 ν0 μ ν a p) {s s' : Nat} {lo hi : Int32} (hs : s < 79) (hw : wok s = true) (hs' : s' < 79) (hw' : wok s' = true) (e1 : lenS_l.getD s' 0 = lenS_l.getD s 0) (e2 : bytS_l.getD s' [] = bytS_l.getD s []) {kc : Int32 × Mem → Option α} {km : Int32 × Mem → Option β} (ok : ∀ (v : Nat) (μ' ν' : Mem) (a' p' : Nat), v ≤ 999 → outb (nI v) lo hi = false → RT c B μ0 ν0 μ' ν' a' p' → Ef μ μ' → Eg ν ν' → Sim (kc (nI v, μ')) (km (nI v, ν')) P) (no : ∀ (x : Int32) (μ' ν' : Mem) (w : Nat), Cw c μ0 μ' w → Mb ν0 ν' → ν' 264 12 = nI w → Ef μ μ' → Eg ν ν' → Sim (kc (x, μ')) (km (-1, ν')) P) : Sim (Option.bind (f_X8_needWord μ s) fun q => Option.bind (f_X8_takeNumber q lo hi) kc) (Option.bind (f_X12_after ν s' lo hi) km) P := by
  obtain ⟨hC, hM, hp, hpc, ha⟩ := h
  have hac := hC.2.2.1
  have hid : isW c B s' a = isW c B s a := isW_id e1 e2
  refine Sim.l (hC.need H hs hw) ?_
  unfold f_X12_after f_X12_after_j22
  have hl : f_X12_letters ν = some (setPB ν (run c B 97 122 a) a) := by
    have := X12_letters H hM hp hpc
    rwa [ha] at this
  have hwd : f_X12_isWord (setPB ν (run c B 97 122 a) a) s' = some (isW c B s a) := by
    rw [← hid]
    exact X12_isWord H hM.pb setPB_10 setPB_12 hac hs' hw'
  rw [hl, sb9, hwd, sb9]
  by_cases q : isW c B s a = true
  · rw [if_pos q, if_pos q]
    have hle := isW_le hac q
    have hR : RT c B μ0 ν0 (mset μ 1 3 (nI (sk c B (a + wlen s)))) (setPB ν (run c B 97 122 a) a) (sk c B (a + wlen s)) (a + wlen s) := ⟨hC.mv H hle, hM.pb, by rw [setPB_10, isW_end q], hle, rfl⟩
    have key := S_num (P := P) H hR (lo := lo) (hi := hi) (kc := kc) (km := km) (fun v μ' ν' a' p' h1 h2 _ h4 h5 h6 _ => ok v μ' ν' a' p' h1 h2 h4 (ef3.trans h5) (egPB.trans h6)) (fun μ' ν' h1 h2 h3 h4 h5 => no lo μ' ν' _ h1 h2 h3 (ef3.trans h4) (egPB.trans h5))
    obtain ⟨x, y, k1, k2, k3⟩ := key
    refine ⟨x, y, k1, ?_, k3⟩
    rw [← k2]
    cases f_X12_number (setPB ν (run c B 97 122 a) a) lo hi <;> rfl
  · rw [if_neg q, if_neg q]
    refine Sim.lo (X8_numW H (hC.rf hac) lo hi) (fun r hr => ?_)
    obtain ⟨x, μ'⟩ := r
    exact no x μ' _ a hr.1 hM.pb setPB_12 (ef4.trans hr.2) egPB
/-! when the text is wrong already, the class only runs on -/
theorem wN (H : Tb c B μ0 ν0) (h : Cw c μ0 μ w) {lo hi : Int32} {k : Int32 × Mem → Option α} {Q : α → Prop} (g : ∀ (x : Int32) (μ' : Mem), Cw c μ0 μ' w → (∀ b, b ≠ 1 → μ' b = μ b) → Ok (k (x, μ')) Q) : Ok (Option.bind (f_X8_takeNumber μ lo hi) k) Q := (X8_numW H h lo hi).b fun r hr => g r.1 r.2 hr.1 hr.2
theorem wW (H : Tb c B μ0 ν0) (h : Cw c μ0 μ w) {s : Nat} {k : Mem → Option α} {Q : α → Prop} (g : Ok (k μ) Q) : Ok (Option.bind (f_X8_needWord μ s) k) Q := Ok.s (X8_needW H h s) g
theorem wR (H : Tb c B μ0 ν0) (h : Cw c μ0 μ w) {k : Bool → Option α} {Q : α → Prop} (g : Ok (k false) Q) : Ok (Option.bind (f_X8_isRight μ) k) Q := Ok.s (X8_rightW H h) g
theorem wF (H : Tb c B μ0 ν0) (h : Cw c μ0 μ w) {v : Int32} {k : Mem → Option α} {Q : α → Prop} (g : Ok (k μ) Q) : Ok (Option.bind (f_X8_refuse μ v) k) Q := Ok.s (X8_refuseW H h v) g
theorem wT (H : Tb c B μ0 ν0) (h : Cw c μ0 μ w) {s : Nat} {k : Bool × Mem → Option α} {Q : α → Prop} (g : Ok (k (false, μ)) Q) : Ok (Option.bind (f_X8_takesWord μ s) k) Q := Ok.s (X8_wordW H h s) g
end Ss
