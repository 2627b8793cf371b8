/-! NUMBERS, LOOPS -/
theorem loopN_d {σ τ : Type} {g : σ → Option (σ ⊕ τ)} {t : τ} (s : Nat → σ) (e : Nat) (hs : ∀ i, i < e → g (s i) = some (.inl (s (i + 1)))) (he : g (s e) = some (.inr t)) : ∀ (d i k : Nat), i + d = e → d < k → loopN k g (s i) = some t := by
  intro d
  induction d with
  | zero =>
    intro i k h1 h2
    cases k with
    | zero => omega
    | succ k =>
      have hi : i = e := by omega
      subst hi
      unfold loopN
      rw [he]
      rfl
  | succ d ih =>
    intro i k h1 h2
    cases k with
    | zero => omega
    | succ k =>
      unfold loopN
      rw [hs i (by omega)]
      exact ih (i + 1) k (by omega) (by omega)
/-- a loop whose states are known -/
theorem bind_loop {σ τ ρ : Type} {g : σ → Option (σ ⊕ τ)} {f : τ → Option ρ} {r : Option ρ} {s0 : σ} (s : Nat → σ) (e : Nat) (t : τ) (h0 : s 0 = s0) (hs : ∀ i, i < e → g (s i) = some (.inl (s (i + 1)))) (he : g (s e) = some (.inr t)) (hlt : e < 10000) (hr : f t = r) : Option.bind (loopN 10000 g s0) f = r := by
  rw [← h0, loopN_d s e hs he e 0 10000 (by omega) hlt]
  exact hr
theorem loopN_i {σ τ : Type} {g : σ → Option (σ ⊕ τ)} (I : Nat → σ → Prop) (P : τ → Prop) (e : Nat) (hs : ∀ i s, i < e → I i s → (∃ s', g s = some (.inl s') ∧ I (i + 1) s') ∨ (∃ t, g s = some (.inr t) ∧ P t)) (he : ∀ s, I e s → ∃ t, g s = some (.inr t) ∧ P t) : ∀ (d i k : Nat) (s : σ), i + d = e → d < k → I i s → ∃ t, loopN k g s = some t ∧ P t := by
  intro d
  induction d with
  | zero =>
    intro i k s h1 h2 h3
    cases k with
    | zero => omega
    | succ k =>
      have hi : i = e := by omega
      subst hi
      obtain ⟨t, h4, h5⟩ := he s h3
      refine ⟨t, ?_, h5⟩
      unfold loopN
      rw [h4]
      rfl
  | succ d ih =>
    intro i k s h1 h2 h3
    cases k with
    | zero => omega
    | succ k =>
      rcases hs i s (by omega) h3 with ⟨s', h4, h5⟩ | ⟨t, h4, h5⟩
      · obtain ⟨t, h6, h7⟩ := ih (i + 1) k s' (by omega) (by omega) h5
        refine ⟨t, ?_, h7⟩
        unfold loopN
        rw [h4]
        exact h6
      · refine ⟨t, ?_, h5⟩
        unfold loopN
        rw [h4]
        rfl
/-- a loop with an invariant, that may be left early -/
theorem inv_loop {σ τ : Type} {g : σ → Option (σ ⊕ τ)} {s0 : σ} (I : Nat → σ → Prop) (P : τ → Prop) (e : Nat) (h0 : I 0 s0) (hs : ∀ i s, i < e → I i s → (∃ s', g s = some (.inl s') ∧ I (i + 1) s') ∨ (∃ t, g s = some (.inr t) ∧ P t)) (he : ∀ s, I e s → ∃ t, g s = some (.inr t) ∧ P t) (hlt : e < 10000) : ∃ t, loopN 10000 g s0 = some t ∧ P t := loopN_i I P e hs he e 0 10000 s0 (by omega) hlt h0
theorem bind_some' {α β : Type} {o : Option α} {a : α} {f : α → Option β} (h : o = some a) : Option.bind o f = f a := by rw [h]; rfl
theorem bs {α β : Type} {o : Option α} {a : α} {f : α → Option β} {r : Option β} (h : o = some a) (k : f a = r) : Option.bind o f = r := by rw [h]; exact k
theorem it {α : Type} {c : Prop} {d : Decidable c} {a b r : α} (h : c) (k : a = r) : (@ite α c d a b) = r := by rw [if_pos h]; exact k
theorem ie {α : Type} {c : Prop} {d : Decidable c} {a b r : α} (h : ¬ c) (k : b = r) : (@ite α c d a b) = r := by rw [if_neg h]; exact k
/-- it comes to something that keeps P -/
def Ok {α : Type} (o : Option α) (P : α → Prop) : Prop := ∃ a, o = some a ∧ P a
theorem Ok.b {α β : Type} {o : Option α} {f : α → Option β} {P : α → Prop} {Q : β → Prop} (h : Ok o P) (k : ∀ a, P a → Ok (f a) Q) : Ok (Option.bind o f) Q := by
  obtain ⟨a, e, p⟩ := h; rw [e]; exact k a p
theorem Ok.s {α β : Type} {o : Option α} {a : α} {f : α → Option β} {Q : β → Prop} (h : o = some a) (k : Ok (f a) Q) : Ok (Option.bind o f) Q := by
  rw [h]; exact k
theorem Ok.r {α : Type} {a : α} {P : α → Prop} (h : P a) : Ok (some a) P := ⟨a, rfl, h⟩
theorem Ok.t {α : Type} {c : Prop} {d : Decidable c} {a b : Option α} {P : α → Prop} (h : c) (k : Ok a P) : Ok (@ite (Option α) c d a b) P := by rw [if_pos h]; exact k
theorem Ok.e {α : Type} {c : Prop} {d : Decidable c} {a b : Option α} {P : α → Prop} (h : ¬ c) (k : Ok b P) : Ok (@ite (Option α) c d a b) P := by rw [if_neg h]; exact k
theorem Ok.w {α : Type} {o : Option α} {P Q : α → Prop} (h : Ok o P) (k : ∀ a, P a → Q a) : Ok o Q := by
  obtain ⟨a, e, p⟩ := h; exact ⟨a, e, k a p⟩
theorem Ok.of {α : Type} {o : Option α} {a : α} {P : α → Prop} (h : o = some a) (p : P a) : Ok o P := ⟨a, h, p⟩
def LoopP {σ τ : Type} (I : Nat → σ → Prop) (P : τ → Prop) (e i : Nat) (r : σ ⊕ τ) : Prop := match r with
  | .inl s => i < e ∧ I (i + 1) s
  | .inr t => P t
theorem Ok.c {σ τ : Type} {I : Nat → σ → Prop} {P : τ → Prop} {e i : Nat} {s : σ} (h : i < e) (k : I (i + 1) s) : Ok (some (Sum.inl s)) (LoopP (τ := τ) I P e i) := ⟨_, rfl, h, k⟩
theorem Ok.d {σ τ : Type} {I : Nat → σ → Prop} {P : τ → Prop} {e i : Nat} {t : τ} (k : P t) : Ok (some (Sum.inr t)) (LoopP (σ := σ) I P e i) := ⟨_, rfl, k⟩
theorem loopN_ok {σ τ : Type} {g : σ → Option (σ ⊕ τ)} (I : Nat → σ → Prop) (P : τ → Prop) (e : Nat) (hs : ∀ i s, i ≤ e → I i s → Ok (g s) (LoopP I P e i)) : ∀ (d i k : Nat) (s : σ), i + d = e → d < k → I i s → Ok (loopN k g s) P := by
  intro d
  induction d with
  | zero =>
    intro i k s h1 h2 h3
    cases k with
    | zero => omega
    | succ k =>
      obtain ⟨r, e1, e2⟩ := hs i s (by omega) h3
      cases r with
      | inl s' => exact absurd e2.1 (by omega)
      | inr t =>
        refine ⟨t, ?_, e2⟩
        unfold loopN
        rw [e1]
        rfl
  | succ d ih =>
    intro i k s h1 h2 h3
    cases k with
    | zero => omega
    | succ k =>
      obtain ⟨r, e1, e2⟩ := hs i s (by omega) h3
      cases r with
      | inl s' =>
        obtain ⟨t, h6, h7⟩ := ih (i + 1) k s' (by omega) (by omega) e2.2
        refine ⟨t, ?_, h7⟩
        unfold loopN
        rw [e1]
        exact h6
      | inr t =>
        refine ⟨t, ?_, e2⟩
        unfold loopN
        rw [e1]
        rfl
theorem Ok.loop {σ τ ρ : Type} {g : σ → Option (σ ⊕ τ)} {f : τ → Option ρ} {s0 : σ} {Q : ρ → Prop} (I : Nat → σ → Prop) (P : τ → Prop) (e : Nat) (he : e < 10000) (h0 : I 0 s0) (hs : ∀ i s, i ≤ e → I i s → Ok (g s) (LoopP I P e i)) (k : ∀ t, P t → Ok (f t) Q) : Ok (Option.bind (loopN 10000 g s0) f) Q :=
  (loopN_ok I P e hs e 0 10000 s0 (by omega) (by omega) h0).b k
/-- only cells of S change -/
def Fr (S : Nat → Prop) (μ μ' : Mem) : Prop := ∀ k, ¬ S k → μ' k = μ k
theorem Fr.refl {S : Nat → Prop} {μ : Mem} : Fr S μ μ := fun _ _ => rfl
theorem Fr.trans {S : Nat → Prop} {μ μ1 μ2 : Mem} (h1 : Fr S μ μ1) (h2 : Fr S μ1 μ2) : Fr S μ μ2 := fun k hk => (h2 k hk).trans (h1 k hk)
theorem Fr.mono {S S' : Nat → Prop} {μ μ1 : Mem} (h1 : Fr S μ μ1) (h : ∀ k, S k → S' k) : Fr S' μ μ1 := fun k hk => h1 k (fun q => hk (h k q))
theorem Fr.set {S : Nat → Prop} {μ : Mem} {a i : Nat} {v : Int32} (h : S a) : Fr S μ (mset μ a i v) := fun k hk => mset_ne (fun q => hk (q ▸ h))
theorem Fr.put {S : Nat → Prop} {μ μ1 : Mem} {a i : Nat} {v : Int32} (h : Fr S μ μ1) (ha : S a) : Fr S μ (mset μ1 a i v) := h.trans (Fr.set ha)
-- bits
def pw (i : Nat) : Int32 := 1 <<< (nI i &&& 31)
def obits (P : Nat → Bool) : Nat → Int32
  | 0 => 0
  | i + 1 => if P i = true then obits P i ||| pw i else obits P i
theorem obits_congr {P Q : Nat → Bool} : ∀ {n : Nat}, (∀ i, i < n → P i = Q i) → obits P n = obits Q n
  | 0, _ => rfl
  | n + 1, h => by
    unfold obits
    rw [h n (by omega), obits_congr (n := n) (fun i hi => h i (by omega))]
def osum (f : Nat → Int32) : Nat → Int32
  | 0 => 0
  | i + 1 => osum f i + f i
theorem osum_congr {f g : Nat → Int32} : ∀ {n : Nat}, (∀ i, i < n → f i = g i) → osum f n = osum g n
  | 0, _ => rfl
  | n + 1, h => by
    unfold osum
    rw [h n (by omega), osum_congr (n := n) (fun i hi => h i (by omega))]
theorem or_zero (x : Int32) : x ||| 0 = x := by simp
theorem two_nI (n : Nat) : (2 : Int32) * nI n = nI (2 * n) := pk_mul 2 n
def iter {α : Type} (g : Nat → α → α) : Nat → α → α
  | 0, a => a
  | i + 1, a => g i (iter g i a)
/-! THE ABSTRACT LAND: L 0 scalars (people, texts, day, fine, seed), 1..5 of people (purse, pace, place, goal, tired), 6..11 of laces (how, holder, amount, knot, term, surety), 12 mud, 13 the log's size, 14..17 its rows; the falls stand beside it -/
abbrev Ld : Type := Nat → Nat → Int32
def zz (L : Ld) : Nat := (L 13 0).toNatClampNeg
def dm (n z k i : Nat) : Prop := (k = 0 ∧ i < 5) ∨ (1 ≤ k ∧ k ≤ 5 ∧ i < n) ∨ (6 ≤ k ∧ k ≤ 11 ∧ i < 2 * n) ∨ (k = 12 ∧ i < 20) ∨ (k = 13 ∧ i = 0) ∨ (14 ≤ k ∧ k ≤ 17 ∧ i < z)
def cpart (j : Nat) (v : Int32) : Int32 := match j with
  | 0 => v >>> (16 &&& 31)
  | 1 => (v >>> (12 &&& 31)) &&& 15
  | 2 => (v >>> (10 &&& 31)) &&& 3
  | _ => v &&& 1023
def crow (x i : Nat) : Nat := (x + 119 - i) % 60
def craw (μ : Mem) (a : Nat) : Ld := fun k i => if k ≤ 12 then μ (a + k) i else if k = 13 then μ (a + 13) 2 else cpart (k - 14) (μ (a + 14) (crow (μ (a + 13) 1).toNatClampNeg i))
def sidx (i : Nat) : Nat := if i = 0 then 0 else if i = 1 then 1 else if i = 2 then 3 else if i = 3 then 4 else 7
def midx (k i : Nat) : Nat := if k = 0 then sidx i else if k ≤ 5 then 28 + 5 * i + (k - 1) else if k ≤ 11 then 58 + 6 * i + (k - 6) else if k = 12 then 8 + i else if k = 13 then 6 else 130 + 4 * i + (k - 14)
def upd2 (L : Ld) (k i : Nat) (v : Int32) : Ld := fun k' i' => if k' = k ∧ i' = i then v else L k' i'
theorem upd2_at {L : Ld} {k i : Nat} {v : Int32} : upd2 L k i v k i = v := by unfold upd2; rw [if_pos ⟨rfl, rfl⟩]
theorem upd2_k {L : Ld} {k i k' i' : Nat} {v : Int32} (h : k' ≠ k) : upd2 L k i v k' i' = L k' i' := by unfold upd2; rw [if_neg (fun q => h q.1)]
theorem upd2_i {L : Ld} {k i k' i' : Nat} {v : Int32} (h : i' ≠ i) : upd2 L k i v k' i' = L k' i' := by unfold upd2; rw [if_neg (fun q => h q.2)]
theorem upd2_n {L : Ld} {k i k' i' : Nat} {v : Int32} (h : k' ≠ k ∨ i' ≠ i) : upd2 L k i v k' i' = L k' i' := h.elim upd2_k upd2_i
def PersonW (p : Nat) (L : Ld) : Prop := (∃ x, x ≤ 999 ∧ L 1 p = nI x) ∧ (∃ x, 1 ≤ x ∧ x ≤ 9 ∧ L 2 p = nI x) ∧ (∃ x, x ≤ 19 ∧ L 3 p = nI x) ∧ (∃ x, x ≤ 19 ∧ L 4 p = nI x) ∧ ∃ x, x ≤ 9 ∧ L 5 p = nI x
def InShoe (l : Nat) (L : Ld) : Prop := L 6 l = 0 ∧ L 7 l = -1 ∧ L 8 l = 0 ∧ L 9 l = 0 ∧ L 10 l = 0 ∧ L 11 l = -1
def Pledged (n l : Nat) (L : Ld) : Prop := L 6 l = 1 ∧ ∃ h, h < n ∧ h ≠ l / 2 ∧ L 7 l = nI h ∧ (∃ x, 1 ≤ x ∧ x ≤ 999 ∧ L 8 l = nI x) ∧ (∃ x, x ≤ 9 ∧ L 9 l = nI x) ∧ (∃ x, x ≤ 9999 ∧ L 10 l = nI x) ∧ (L 11 l = -1 ∨ ∃ s, s < n ∧ s ≠ l / 2 ∧ s ≠ h ∧ L 11 l = nI s)
def LostW (n l : Nat) (L : Ld) : Prop := L 6 l = 2 ∧ ∃ h, h < n ∧ h ≠ l / 2 ∧ L 7 l = nI h ∧ L 8 l = 0 ∧ L 9 l = 0 ∧ L 10 l = 0 ∧ L 11 l = -1
def LaceW (n l : Nat) (L : Ld) : Prop := InShoe l L ∨ Pledged n l L ∨ LostW n l L
def RowW (k : Nat) (L : Ld) : Prop := (∃ x, x ≤ 9999 ∧ L 14 k = nI x) ∧ (∃ x, x < 12 ∧ L 15 k = nI x) ∧ (∃ x, x ≤ 2 ∧ L 16 k = nI x) ∧ ∃ x, x ≤ 999 ∧ L 17 k = nI x
def SzW (n : Nat) (L : Ld) : Prop := n ≤ 6 ∧ L 0 0 = nI n ∧ L 13 0 = nI (zz L) ∧ zz L ≤ 60
def WF (n : Nat) (L : Ld) : Prop := (∃ x, x ≤ 12 ∧ L 0 1 = nI x) ∧ (∃ x, x ≤ 9999 ∧ L 0 2 = nI x) ∧ (∃ x, x ≤ 99 ∧ L 0 3 = nI x) ∧ (∀ p, p < n → PersonW p L) ∧ (∀ l, l < 2 * n → LaceW n l L) ∧ (∀ k, k < zz L → RowW k L) ∧ ∀ q, q < 20 → ∃ x, x ≤ 9 ∧ L 12 q = nI x
/-- the class's land at a is L; its falls: f -/
def CL (n : Nat) (f : Int32) (μ : Mem) (a : Nat) (L : Ld) : Prop := (∀ k i, dm n (zz L) k i → craw μ a k i = L k i) ∧ SzW n L ∧ μ a 5 = f ∧ ∃ x, x < 60 ∧ μ (a + 13) 1 = nI x
/-- the model's world is L -/
def ML (n : Nat) (f : Int32) (w : Nat → Int32) (L : Ld) : Prop := (∀ k i, dm n (zz L) k i → w (midx k i) = L k i) ∧ SzW n L ∧ w 5 = f
theorem dm0 {n z i : Nat} (h : i < 5) : dm n z 0 i := Or.inl ⟨rfl, h⟩
theorem dmP {n z k i : Nat} (h1 : 1 ≤ k) (h2 : k ≤ 5) (h : i < n) : dm n z k i := Or.inr (Or.inl ⟨h1, h2, h⟩)
theorem dmL {n z k i : Nat} (h1 : 6 ≤ k) (h2 : k ≤ 11) (h : i < 2 * n) : dm n z k i := Or.inr (Or.inr (Or.inl ⟨h1, h2, h⟩))
theorem dmM {n z i : Nat} (h : i < 20) : dm n z 12 i := Or.inr (Or.inr (Or.inr (Or.inl ⟨rfl, h⟩)))
theorem dmS {n z : Nat} : dm n z 13 0 := Or.inr (Or.inr (Or.inr (Or.inr (Or.inl ⟨rfl, rfl⟩))))
theorem dmR {n z k i : Nat} (h1 : 14 ≤ k) (h2 : k ≤ 17) (h : i < z) : dm n z k i := Or.inr (Or.inr (Or.inr (Or.inr (Or.inr ⟨h1, h2, h⟩))))
section ClMl
variable {n : Nat} {f : Int32} {μ μ' : Mem} {a : Nat} {L : Ld} {w w' : Nat → Int32}
theorem CL.n6 (h : CL n f μ a L) : n ≤ 6 := h.2.1.1
theorem ML.n6 (h : ML n f w L) : n ≤ 6 := h.2.1.1
theorem CL.sz (h : CL n f μ a L) : SzW n L := h.2.1
theorem ML.sz (h : ML n f w L) : SzW n L := h.2.1
theorem CL.at (h : CL n f μ a L) {k i : Nat} (hk : k ≤ 12) (hd : dm n (zz L) k i) : μ (a + k) i = L k i := by
  rw [← h.1 k i hd]
  unfold craw
  rw [if_pos hk]
theorem ML.at (h : ML n f w L) {k i : Nat} (hd : dm n (zz L) k i) : w (midx k i) = L k i := h.1 k i hd
theorem CL.atP (h : CL n f μ a L) {k i : Nat} (h1 : 1 ≤ k ∧ k ≤ 5) (hi : i < n) : μ (a + k) i = L k i := h.at (by omega) (dmP h1.1 h1.2 hi)
theorem CL.atL (h : CL n f μ a L) {k i : Nat} (h1 : 6 ≤ k ∧ k ≤ 11) (hi : i < 2 * n) : μ (a + k) i = L k i := h.at (by omega) (dmL h1.1 h1.2 hi)
theorem CL.atM (h : CL n f μ a L) {i : Nat} (hi : i < 20) : μ (a + 12) i = L 12 i := h.at (by omega) (dmM hi)
theorem CL.at0 (h : CL n f μ a L) {i : Nat} (hi : i < 5) : μ a i = L 0 i := h.at (k := 0) (by omega) (dm0 hi)
theorem CL.ppl (h : CL n f μ a L) : μ a 0 = nI n := by rw [h.at0 (by decide)]; exact h.2.1.2.1
theorem CL.siz (h : CL n f μ a L) : μ (a + 13) 2 = nI (zz L) := by
  have h1 := h.1 13 0 dmS
  unfold craw at h1
  rw [if_neg (by decide), if_pos rfl] at h1
  rw [h1]; exact h.2.1.2.2.1
theorem ML.atP (h : ML n f w L) {k i : Nat} (h1 : 1 ≤ k ∧ k ≤ 5) (hi : i < n) : w (28 + 5 * i + (k - 1)) = L k i := by
  rw [← h.at (dmP h1.1 h1.2 hi)]; unfold midx; rw [if_neg (by omega), if_pos h1.2]
theorem ML.atL (h : ML n f w L) {k i : Nat} (h1 : 6 ≤ k ∧ k ≤ 11) (hi : i < 2 * n) : w (58 + 6 * i + (k - 6)) = L k i := by
  rw [← h.at (dmL h1.1 h1.2 hi)]; unfold midx; rw [if_neg (by omega), if_neg (by omega), if_pos h1.2]
theorem ML.atM (h : ML n f w L) {i : Nat} (hi : i < 20) : w (8 + i) = L 12 i := by
  rw [← h.at (dmM hi)]; rfl
theorem ML.at0 (h : ML n f w L) {i : Nat} (hi : i < 5) : w (sidx i) = L 0 i := by
  rw [← h.at (dm0 hi)]; rfl
theorem ML.ppl (h : ML n f w L) : w 0 = nI n := by rw [← h.2.1.2.1, ← h.at0 (i := 0) (by decide)]; rfl
theorem ML.siz (h : ML n f w L) : w 6 = nI (zz L) := by rw [← h.2.1.2.2.1, ← h.at (dmS)]; rfl
theorem ML.atR (h : ML n f w L) {k i : Nat} (h1 : 14 ≤ k ∧ k ≤ 17) (hi : i < zz L) : w (130 + 4 * i + (k - 14)) = L k i := by
  rw [← h.at (dmR h1.1 h1.2 hi)]; unfold midx; rw [if_neg (by omega), if_neg (by omega), if_neg (by omega), if_neg (by omega), if_neg (by omega)]
theorem CL.atR (h : CL n f μ a L) {k i : Nat} (h1 : 14 ≤ k ∧ k ≤ 17) (hi : i < zz L) : cpart (k - 14) (μ (a + 14) (crow (μ (a + 13) 1).toNatClampNeg i)) = L k i := by
  rw [← h.1 k i (dmR h1.1 h1.2 hi)]; unfold craw; rw [if_neg (by omega), if_neg (by omega)]
theorem CL.fr (h : CL n f μ a L) (hf : ∀ j, j ≤ 14 → μ' (a + j) = μ (a + j)) : CL n f μ' a L := by
  obtain ⟨h1, h2, h3, h4⟩ := h
  refine ⟨fun k i hd => ?_, h2, ?_, ?_⟩
  · rw [← h1 k i hd]
    unfold craw
    rw [hf 13 (by decide), hf 14 (by decide)]
    by_cases hk : k ≤ 12
    · rw [if_pos hk, if_pos hk, hf k (by omega)]
    · rw [if_neg hk, if_neg hk]
  · have := hf 0 (by decide)
    rw [show μ' a = μ a from this]; exact h3
  · rw [hf 13 (by decide)]; exact h4
theorem ML.fr (h : ML n f w L) (hf : ∀ j, j < 370 → w' j = w j) : ML n f w' L := by
  obtain ⟨h1, h2, h3⟩ := h
  have hz := h2.2.2.2
  have hn := h2.1
  refine ⟨fun k i hd => ?_, h2, ?_⟩
  · rw [← h1 k i hd]
    refine hf _ ?_
    unfold midx sidx
    rcases hd with q | q | q | q | q | q
    · rw [if_pos q.1]
      have := q.2
      split
      · decide
      · split
        · decide
        · split
          · decide
          · split <;> decide
    · rw [if_neg (by omega), if_pos (by omega)]; omega
    · rw [if_neg (by omega), if_neg (by omega), if_pos (by omega)]; omega
    · rw [if_neg (by omega), if_neg (by omega), if_neg (by omega), if_pos (by omega)]; omega
    · rw [if_neg (by omega), if_neg (by omega), if_neg (by omega), if_neg (by omega), if_pos (by omega)]; omega
    · rw [if_neg (by omega), if_neg (by omega), if_neg (by omega), if_neg (by omega), if_neg (by omega)]; omega
  · rw [hf 5 (by decide)]; exact h3
theorem zz_upd {k i : Nat} {v : Int32} (hk : k ≠ 13) : zz (upd2 L k i v) = zz L := by unfold zz; rw [upd2_k (fun q => hk q.symm)]
theorem SzW.upd (h : SzW n L) {k i : Nat} {v : Int32} (hk : k ≠ 13) (h0 : ¬ (k = 0 ∧ i = 0)) : SzW n (upd2 L k i v) := by
  refine ⟨h.1, ?_, ?_, ?_⟩
  · rw [upd2_n (by omega)]; exact h.2.1
  · rw [zz_upd hk, upd2_k (fun q => hk q.symm)]; exact h.2.2.1
  · rw [zz_upd hk]; exact h.2.2.2
/-- one number of the class's land -/
theorem CL.set (h : CL n f μ a L) {k i : Nat} {v : Int32} (hk : k ≤ 12) (h0 : ¬ (k = 0 ∧ (i = 0 ∨ i = 5))) : CL n f (mset μ (a + k) i v) a (upd2 L k i v) := by
  obtain ⟨h1, h2, h3, h4⟩ := h
  refine ⟨fun k' i' hd => ?_, h2.upd (by omega) (by omega), ?_, ?_⟩
  · rw [zz_upd (by omega)] at hd
    have h5 := h1 k' i' hd
    unfold craw at h5 ⊢
    rw [mset_ne (show a + 13 ≠ a + k by omega), mset_ne (show a + 14 ≠ a + k by omega)]
    by_cases hk' : k' ≤ 12
    · rw [if_pos hk'] at h5 ⊢
      by_cases e : k' = k
      · subst e
        by_cases e2 : i' = i
        · subst e2; rw [mset_at, upd2_at]
        · rw [mset_atn e2, upd2_i e2, h5]
      · rw [mset_ne (by omega), upd2_k e, h5]
    · rw [if_neg hk'] at h5 ⊢
      rw [upd2_k (by omega), h5]
  · by_cases e : k = 0
    · subst e
      rw [show a + 0 = a from rfl, mset_atn (by omega)]; exact h3
    · rw [mset_ne (by omega)]; exact h3
  · rw [mset_ne (by omega)]; exact h4
theorem sidx_lt {i : Nat} (h : i < 5) : sidx i = 0 ∨ sidx i = 1 ∨ sidx i = 3 ∨ sidx i = 4 ∨ sidx i = 7 := by
  unfold sidx
  split
  · exact Or.inl rfl
  · split
    · exact Or.inr (Or.inl rfl)
    · split
      · exact Or.inr (Or.inr (Or.inl rfl))
      · split
        · exact Or.inr (Or.inr (Or.inr (Or.inl rfl)))
        · exact Or.inr (Or.inr (Or.inr (Or.inr rfl)))
theorem sidx_inj : ∀ i, i < 5 → ∀ j, j < 5 → sidx i = sidx j → i = j := by decide
theorem midx_eq {z k i : Nat} (hd : dm n z k i) : (k = 0 ∧ i < 5 ∧ midx k i = sidx i) ∨ (1 ≤ k ∧ k ≤ 5 ∧ i < n ∧ midx k i = 28 + 5 * i + (k - 1)) ∨ (6 ≤ k ∧ k ≤ 11 ∧ i < 2 * n ∧ midx k i = 58 + 6 * i + (k - 6)) ∨ (k = 12 ∧ i < 20 ∧ midx k i = 8 + i) ∨ (k = 13 ∧ i = 0 ∧ midx k i = 6) ∨ (14 ≤ k ∧ k ≤ 17 ∧ i < z ∧ midx k i = 130 + 4 * i + (k - 14)) := by
  unfold midx
  rcases hd with q | q | q | q | q | q
  · rw [if_pos q.1]; exact Or.inl ⟨q.1, q.2, rfl⟩
  · rw [if_neg (by omega), if_pos (by omega)]; exact Or.inr (Or.inl ⟨q.1, q.2.1, q.2.2, rfl⟩)
  · rw [if_neg (by omega), if_neg (by omega), if_pos (by omega)]; exact Or.inr (Or.inr (Or.inl ⟨q.1, q.2.1, q.2.2, rfl⟩))
  · rw [if_neg (by omega), if_neg (by omega), if_neg (by omega), if_pos (by omega)]; exact Or.inr (Or.inr (Or.inr (Or.inl ⟨q.1, q.2, rfl⟩)))
  · rw [if_neg (by omega), if_neg (by omega), if_neg (by omega), if_neg (by omega), if_pos (by omega)]; exact Or.inr (Or.inr (Or.inr (Or.inr (Or.inl ⟨q.1, q.2, rfl⟩))))
  · rw [if_neg (by omega), if_neg (by omega), if_neg (by omega), if_neg (by omega), if_neg (by omega)]; exact Or.inr (Or.inr (Or.inr (Or.inr (Or.inr ⟨q.1, q.2.1, q.2.2, rfl⟩))))
theorem midx_inj {z k i k' i' : Nat} (hn : n ≤ 6) (hd : dm n z k i) (hd' : dm n z k' i') (e : midx k i = midx k' i') : k = k' ∧ i = i' := by
  rcases midx_eq hd with q | q | q | q | q | q
  · rcases midx_eq hd' with r | r | r | r | r | r
    · exact ⟨by omega, sidx_inj i q.2.1 i' r.2.1 (by omega)⟩
    all_goals (have := sidx_lt q.2.1; omega)
  · rcases midx_eq hd' with r | r | r | r | r | r
    · have := sidx_lt r.2.1; omega
    all_goals omega
  · rcases midx_eq hd' with r | r | r | r | r | r
    · have := sidx_lt r.2.1; omega
    all_goals omega
  · rcases midx_eq hd' with r | r | r | r | r | r
    · have := sidx_lt r.2.1; omega
    all_goals omega
  · rcases midx_eq hd' with r | r | r | r | r | r
    · have := sidx_lt r.2.1; omega
    all_goals omega
  · rcases midx_eq hd' with r | r | r | r | r | r
    · have := sidx_lt r.2.1; omega
    all_goals omega
theorem midx_n5 {z k i : Nat} (hd : dm n z k i) : midx k i ≠ 5 ∧ midx k i ≠ 2 := by
  rcases midx_eq hd with q | q | q | q | q | q
  · have := sidx_lt q.2.1; omega
  all_goals omega
theorem midx_lt {z k i : Nat} (hn : n ≤ 6) (hz : z ≤ 60) (hd : dm n z k i) : midx k i < 370 := by
  rcases midx_eq hd with q | q | q | q | q | q
  · have := sidx_lt q.2.1; omega
  all_goals omega
/-- one number of the model's -/
theorem ML.set (h : ML n f w L) {k i j : Nat} {v : Int32} (hd : dm n (zz L) k i) (hk : k ≠ 13) (h0 : ¬ (k = 0 ∧ i = 0)) (hj : midx k i = j) : ML n f (upd w j v) (upd2 L k i v) := by
  obtain ⟨h1, h2, h3⟩ := h
  subst hj
  refine ⟨fun k' i' hd' => ?_, h2.upd hk h0, ?_⟩
  · rw [zz_upd hk] at hd'
    by_cases e : k' = k ∧ i' = i
    · obtain ⟨rfl, rfl⟩ := e
      rw [pk_us, upd2_at]
    · rw [pk_un (fun q => e (midx_inj h2.1 hd' hd q)), h1 k' i' hd', upd2_n (by omega)]
  · rw [pk_un (fun q => (midx_n5 hd).1 q.symm)]; exact h3
end ClMl
