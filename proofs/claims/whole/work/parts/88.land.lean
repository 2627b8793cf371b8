/-! LINES OF THE LAND -/
def K65 (ν0 ν : Mem) : Prop := ν 265 1 = ν0 265 1 ∧ ν 265 2 = ν0 265 2 ∧ ∀ j, 370 ≤ j → ν 265 j = ν0 265 j
def LRel (ν0 : Mem) (n : Nat) (f : Int32) (L : Ld) (μ ν : Mem) : Prop := CL n f μ 18 L ∧ ML n f (ν 265) L ∧ WF n L ∧ K65 ν0 ν
def PL (c : Nat) (B : Nat → Nat) (μ0 ν0 : Mem) (f : Int32) (μ' : Mem) (q : Bool × Mem) : Prop := (q.1 = true ∧ ∃ n L a p, RT c B μ0 ν0 μ' q.2 a p ∧ LRel ν0 n f L μ' q.2) ∨ (q.1 = false ∧ ∃ w, Cw c μ0 μ' w ∧ Mb ν0 q.2 ∧ q.2 264 12 = nI w ∧ K65 ν0 q.2)
theorem LRel.eg {ν0 μ μ' ν ν' : Mem} {n : Nat} {f : Int32} {L : Ld} (h : LRel ν0 n f L μ ν) (e : Ef μ μ') (g : Eg ν ν') : LRel ν0 n f L μ' ν' := by
  obtain ⟨h1, h2, h3, h4⟩ := h
  have e65 : ν' 265 = ν 265 := g.1 265 (by decide)
  refine ⟨h1.fr fun j hj => e _ (by omega), by rw [e65]; exact h2, h3, ?_⟩
  unfold K65
  rw [e65]
  exact h4
theorem PL.no {c : Nat} {B : Nat → Nat} {μ0 ν0 μ' ν' : Mem} {f : Int32} {w : Nat} (h1 : Cw c μ0 μ' w) (h2 : Mb ν0 ν') (h3 : ν' 264 12 = nI w) (h4 : K65 ν0 ν') : PL c B μ0 ν0 f μ' (false, ν') := Or.inr ⟨rfl, w, h1, h2, h3, h4⟩
theorem rng0 {v h : Nat} (hv : v < 2 ^ 31) (hh : h < 2 ^ 31) (o : outb (nI v) 0 (nI h) = false) : v ≤ h := (nI_leI hv hh).mp (outb_f o).2
theorem rng1 {v h : Nat} (hv : v < 2 ^ 31) (hh : h < 2 ^ 31) (o : outb (nI v) 1 (nI h) = false) : 1 ≤ v ∧ v ≤ h := by
  refine ⟨?_, (nI_leI hv hh).mp (outb_f o).2⟩
  rcases Nat.eq_zero_or_pos v with q | q
  · subst q
    exact absurd (show nI 0 < 1 by decide) (outb_f o).1
  · exact q
theorem rngP {v n : Nat} (hv : v < 2 ^ 30) (hn : n < 2 ^ 30) (o : outb (nI v) 0 (nI n - 1) = false) : v < n := by
  obtain ⟨p, hp, e⟩ := outb_ix hn o
  have := (nI_eq (by omega) (by omega)).mp e
  omega
theorem WF.fine {n : Nat} {L : Ld} (h : WF n L) {x : Nat} {v : Int32} (hx : x ≤ 99) (e : v = nI x) : WF n (upd2 L 0 3 v) := by
  obtain ⟨h1, h2, h3, h4, h5, h6, h7⟩ := h
  refine ⟨?_, ?_, ⟨x, hx, by rw [upd2_at]; exact e⟩, fun p hp => ?_, fun l hl => ?_, fun k hk => ?_, fun q hq => ?_⟩
  · rw [upd2_n (by omega)]; exact h1
  · rw [upd2_n (by omega)]; exact h2
  · exact (h4 p hp).congr fun k k1 k2 => upd2_n (by omega)
  · exact (h5 l hl).congr fun k k1 k2 => upd2_n (by omega)
  · exact (h6 k hk).congr fun j j1 j2 => upd2_n (by omega)
  · rw [upd2_n (by omega)]; exact h7 q hq
theorem WF.mudU {n : Nat} {L : Ld} (h : WF n L) {q x : Nat} {v : Int32} (hx : x ≤ 9) (e : v = nI x) : WF n (upd2 L 12 q v) := by
  obtain ⟨h1, h2, h3, h4, h5, h6, h7⟩ := h
  refine ⟨?_, ?_, ?_, fun p hp => ?_, fun l hl => ?_, fun k hk => ?_, fun r hr => ?_⟩
  · rw [upd2_n (by omega)]; exact h1
  · rw [upd2_n (by omega)]; exact h2
  · rw [upd2_n (by omega)]; exact h3
  · exact (h4 p hp).congr fun k k1 k2 => upd2_n (by omega)
  · exact (h5 l hl).congr fun k k1 k2 => upd2_n (by omega)
  · exact (h6 k hk).congr fun j j1 j2 => upd2_n (by omega)
  · by_cases c : r = q
    · subst c
      exact ⟨x, hx, by rw [upd2_at]; exact e⟩
    · rw [upd2_n (by omega)]; exact h7 r hr
theorem upd2_2 {L : Ld} {k i : Nat} {v w : Int32} : upd2 (upd2 L k i v) k i w = upd2 L k i w := by
  funext k' i'
  unfold upd2
  by_cases e : k' = k ∧ i' = i
  · rw [if_pos e, if_pos e]
  · rw [if_neg e, if_neg e, if_neg e]
section Ln
variable {α β : Type} {c : Nat} {B : Nat → Nat} {μ0 ν0 μ ν : Mem} {a p w n : Nat} {f : Int32} {L : Ld} {P : α → β → Prop}
theorem S_need (H : Tb c B μ0 ν0) (h : RT c B μ0 ν0 μ ν a p) {s s' : Nat} {lo hi : Int32} (hs : s < 79) (hw : wok s = true) (hs' : s' < 79) (hw' : wok s' = true) (e1 : lenS_l.getD s' 0 = lenS_l.getD s 0) (e2 : bytS_l.getD s' [] = bytS_l.getD s []) {kc : Mem → Option α} {km : Int32 × Mem → Option β} (yes : ∀ (μ' ν' : Mem) (a' p' : Nat), RT c B μ0 ν0 μ' ν' a' p' → Ef μ μ' → Eg ν ν' → Sim (kc μ') (Option.bind (f_X12_number ν' lo hi) km) P) (no : ∀ (μ' ν' : Mem) (w : Nat), Cw c μ0 μ' w → Mb ν0 ν' → ν' 264 12 = nI w → Ef μ μ' → Eg ν ν' → Sim (kc μ') (km (-1, ν')) P) : Sim (Option.bind (f_X8_needWord μ s) kc) (Option.bind (f_X12_after ν s' lo hi) km) P := by
  obtain ⟨hC, hM, hp, hpc, ha⟩ := h
  have hac := hC.2.2.1
  have hid : isW c B s' a = isW c B s a := isW_id e1 e2
  refine Sim.l (hC.need H hs hw) ?_
  unfold f_X12_after f_X12_after_j22
  have hl : f_X12_letters ν = some (setPB ν (run c B 97 122 a) a) := by
    have := X12_letters H hM hp hpc
    rwa [ha] at this
  have hwd : f_X12_isWord (setPB ν (run c B 97 122 a) a) s' = some (isW c B s a) := by
    rw [← hid]
    exact X12_isWord H hM.pb setPB_10 setPB_12 hac hs' hw'
  rw [hl, sb9, hwd, sb9]
  by_cases q : isW c B s a = true
  · rw [if_pos q, if_pos q]
    have hle := isW_le hac q
    have hR : RT c B μ0 ν0 (mset μ 1 3 (nI (sk c B (a + wlen s)))) (setPB ν (run c B 97 122 a) a) (sk c B (a + wlen s)) (a + wlen s) := ⟨hC.mv H hle, hM.pb, by rw [setPB_10, isW_end q], hle, rfl⟩
    obtain ⟨x, y, k1, k2, k3⟩ := yes _ _ _ _ hR ef3 egPB
    refine ⟨x, y, k1, ?_, k3⟩
    rw [← k2]
    cases f_X12_number (setPB ν (run c B 97 122 a) a) lo hi <;> rfl
  · rw [if_neg q, if_neg q]
    exact no _ _ a (hC.rf hac) hM.pb setPB_12 ef4 egPB
theorem S_other (H : Tb c B μ0 ν0) (h : RT c B μ0 ν0 μ ν a p) (hn : n ≤ 6) (hp : μ 18 0 = nI n) {t u : Int32} {kc : Int32 × Mem → Option α} {km : Int32 × Mem → Option β} (ok : ∀ (v : Nat) (μ' ν' : Mem) (a' p' : Nat), v < n → nI v ≠ t → nI v ≠ u → RT c B μ0 ν0 μ' ν' a' p' → Ef μ μ' → Eg ν ν' → Sim (kc (nI v, μ')) (km (nI v, ν')) P) (bad : ∀ (v : Nat) (μ' ν' : Mem), v < n → (nI v = t ∨ nI v = u) → Cw c μ0 μ' a → Mb ν0 ν' → ν' 264 12 = nI a → Ef μ μ' → Eg ν ν' → Sim (kc (nI v, μ')) (km (nI v, ν')) P) (no : ∀ (μ' ν' : Mem), Cw c μ0 μ' a → Mb ν0 ν' → ν' 264 12 = nI a → Ef μ μ' → Eg ν ν' → Sim (kc (0, μ')) (km (-1, ν')) P) : Sim (Option.bind (f_X3_takeOther μ t u) kc) (Option.bind (f_X12_number ν 0 (nI n - 1)) km) P := by
  unfold f_X3_takeOther f_X3_takeOther_j39 f_X3_takeOther_j47
  rw [hp, Option.bind_assoc]
  have hac := h.1.2.2.1
  have h3 := h.1.2.1
  refine S_num H h (fun v μ' ν' a' p' h1 h2 h3' h4 h5 h6 h7 => ?_) (fun μ' ν' h1 h2 h3' h4 h5 => ?_)
  · have hvn := rngP (n := n) (by omega) (by omega) h2
    dsimp only
    rw [h3]
    by_cases c1 : nI v = t
    · rw [if_pos c1]
      refine Sim.l (bs (X8_refuse h4.1 (nI a)) rfl) ?_
      exact bad v _ ν' hvn (Or.inl c1) (h4.1.rf hac) h4.2.1 h7 (h5.trans ef4) h6
    · rw [if_neg c1]
      by_cases c2 : nI v = u
      · rw [if_pos c2]
        refine Sim.l (bs (X8_refuse h4.1 (nI a)) rfl) ?_
        exact bad v _ ν' hvn (Or.inr c2) (h4.1.rf hac) h4.2.1 h7 (h5.trans ef4) h6
      · rw [if_neg c2]
        exact ok v μ' ν' a' p' hvn c1 c2 h4 h5 h6
  · dsimp only
    have hn0 := no μ' ν' h1 h2 h3' h4 h5
    by_cases c1 : (0 : Int32) = t
    · rw [if_pos c1]
      exact Sim.l (bs (X8_refuseW H h1 _) rfl) hn0
    · rw [if_neg c1]
      by_cases c2 : (0 : Int32) = u
      · rw [if_pos c2]
        exact Sim.l (bs (X8_refuseW H h1 _) rfl) hn0
      · rw [if_neg c2]
        exact hn0
theorem wO (H : Tb c B μ0 ν0) (h : Cw c μ0 μ w) {t u : Int32} {k : Int32 × Mem → Option α} {Q : α → Prop} (g : ∀ (x : Int32) (μ' : Mem), Cw c μ0 μ' w → Ok (k (x, μ')) Q) : Ok (Option.bind (f_X3_takeOther μ t u) k) Q := by
  unfold f_X3_takeOther f_X3_takeOther_j39 f_X3_takeOther_j47
  rw [Option.bind_assoc]
  refine wN H h fun x μ1 h1 _ => ?_
  dsimp only
  by_cases c1 : x = t
  · rw [if_pos c1]
    exact Ok.s (bs (X8_refuseW H h1 _) rfl) (g x μ1 h1)
  · rw [if_neg c1]
    by_cases c2 : x = u
    · rw [if_pos c2]
      exact Ok.s (bs (X8_refuseW H h1 _) rfl) (g x μ1 h1)
    · rw [if_neg c2]
      exact g x μ1 h1
/-- a number that is written down at once -/
theorem S_rdn (H : Tb c B μ0 ν0) (h : RT c B μ0 ν0 μ ν a p) {j : Nat} (hj : j < 2068) {hi : Int32} {kc : Int32 × Mem → Option α} {km : Bool × Mem → Option β} (ok : ∀ (v : Nat) (μ' ν' : Mem) (a' p' : Nat), v ≤ 999 → outb (nI v) 0 hi = false → RT c B μ0 ν0 μ' ν' a' p' → Ef μ μ' → Eg ν ν' → Sim (kc (nI v, μ')) (km (true, mset ν' 265 j (nI v))) P) (no : ∀ (μ' ν' : Mem), Cw c μ0 μ' a → Mb ν0 ν' → ν' 264 12 = nI a → Ef μ μ' → Eg ν ν' → Sim (kc (0, μ')) (km (false, ν')) P) : Sim (Option.bind (f_X8_takeNumber μ 0 hi) kc) (Option.bind (f_X12_readNumber ν (nI j) hi) km) P := by
  unfold f_X12_readNumber f_X12_readNumber_j26
  rw [Option.bind_assoc]
  refine S_num H h (fun v μ' ν' a' p' h1 h2 _ h4 h5 h6 _ => ?_) (fun μ' ν' h1 h2 h3 h4 h5 => ?_)
  · dsimp only
    rw [if_pos (nI_pos' (by omega))]
    refine Sim.r (bs (wr_nI hj (by decide)) rfl) ?_
    rw [if_neg (nI_pos (by omega))]
    exact ok v μ' ν' a' p' h1 h2 h4 h5 h6
  · dsimp only
    rw [if_neg (by decide)]
    refine Sim.r (bs (rd_nI hj (by decide)) (bs (wr_nI hj (by decide)) rfl)) ?_
    rw [mset_self, if_pos (by decide)]
    exact no μ' ν' h1 h2 h3 h4 h5
end Ln
