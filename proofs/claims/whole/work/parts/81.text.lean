/-! TWO PROGRAMS SIDE BY SIDE -/
def Sim {α β : Type} (o : Option α) (m : Option β) (P : α → β → Prop) : Prop := ∃ a b, o = some a ∧ m = some b ∧ P a b
section Si
variable {α β γ δ : Type}
theorem Sim.d {a : α} {b : β} {P : α → β → Prop} (h : P a b) : Sim (some a) (some b) P := ⟨a, b, rfl, rfl, h⟩
theorem Sim.l {o : Option γ} {a : γ} {f : γ → Option α} {m : Option β} {P : α → β → Prop} (h : o = some a) (k : Sim (f a) m P) : Sim (Option.bind o f) m P := by rw [h]; exact k
theorem Sim.r {m : Option γ} {b : γ} {g : γ → Option β} {o : Option α} {P : α → β → Prop} (h : m = some b) (k : Sim o (g b) P) : Sim o (Option.bind m g) P := by rw [h]; exact k
theorem Sim.lt {c : Prop} {d : Decidable c} {x y : Option α} {m : Option β} {P : α → β → Prop} (h : c) (k : Sim x m P) : Sim (@ite (Option α) c d x y) m P := by rw [if_pos h]; exact k
theorem Sim.le {c : Prop} {d : Decidable c} {x y : Option α} {m : Option β} {P : α → β → Prop} (h : ¬ c) (k : Sim y m P) : Sim (@ite (Option α) c d x y) m P := by rw [if_neg h]; exact k
theorem Sim.rt {c : Prop} {d : Decidable c} {x y : Option β} {o : Option α} {P : α → β → Prop} (h : c) (k : Sim o x P) : Sim o (@ite (Option β) c d x y) P := by rw [if_pos h]; exact k
theorem Sim.re {c : Prop} {d : Decidable c} {x y : Option β} {o : Option α} {P : α → β → Prop} (h : ¬ c) (k : Sim o y P) : Sim o (@ite (Option β) c d x y) P := by rw [if_neg h]; exact k
theorem Sim.b {o : Option γ} {m : Option δ} {f : γ → Option α} {g : δ → Option β} {Q : γ → δ → Prop} {P : α → β → Prop} (h : Sim o m Q) (k : ∀ a b, Q a b → Sim (f a) (g b) P) : Sim (Option.bind o f) (Option.bind m g) P := by
  obtain ⟨a, b, e1, e2, q⟩ := h
  rw [e1, e2]
  exact k a b q
theorem Sim.lo {o : Option γ} {f : γ → Option α} {m : Option β} {Q : γ → Prop} {P : α → β → Prop} (h : Ok o Q) (k : ∀ a, Q a → Sim (f a) m P) : Sim (Option.bind o f) m P := by
  obtain ⟨a, e, q⟩ := h
  rw [e]
  exact k a q
theorem Sim.ro {m : Option γ} {g : γ → Option β} {o : Option α} {Q : γ → Prop} {P : α → β → Prop} (h : Ok m Q) (k : ∀ b, Q b → Sim o (g b) P) : Sim o (Option.bind m g) P := by
  obtain ⟨b, e, q⟩ := h
  rw [e]
  exact k b q
theorem Sim.w {o : Option α} {m : Option β} {P Q : α → β → Prop} (h : Sim o m P) (k : ∀ a b, P a b → Q a b) : Sim o m Q := by
  obtain ⟨a, b, e1, e2, p⟩ := h
  exact ⟨a, b, e1, e2, k a b p⟩
theorem Sim.fl {o : Option α} {b : β} {Q : α → Prop} {P : α → β → Prop} (h : Ok o Q) (k : ∀ a, Q a → P a b) : Sim o (some b) P := by
  obtain ⟨a, e, q⟩ := h
  exact ⟨a, b, e, rfl, k a q⟩
end Si
/-! THE TEXT -/
def rnE (P : Nat → Bool) : Nat → Nat → Nat
  | 0, i => i
  | d + 1, i => if P i = true then rnE P d (i + 1) else i
theorem rnE_t {P : Nat → Bool} {d i : Nat} (h : P i = true) : rnE P (d + 1) i = rnE P d (i + 1) := if_pos h
theorem rnE_f {P : Nat → Bool} {d i : Nat} (h : ¬ P i = true) : rnE P (d + 1) i = i := if_neg h
theorem rnE_ge {P : Nat → Bool} : ∀ d i, i ≤ rnE P d i
  | 0, _ => Nat.le_refl _
  | d + 1, i => by
    by_cases c : P i = true
    · rw [rnE_t c]; have := rnE_ge (P := P) d (i + 1); omega
    · rw [rnE_f c]; exact Nat.le_refl _
theorem rnE_in {P : Nat → Bool} : ∀ d i j, i ≤ j → j < rnE P d i → P j = true
  | 0, i, j, h1, h2 => absurd h2 (show ¬ j < i by omega)
  | d + 1, i, j, h1, h2 => by
    by_cases c : P i = true
    · rw [rnE_t c] at h2
      by_cases e : j = i
      · subst e; exact c
      · exact rnE_in d (i + 1) j (by omega) h2
    · rw [rnE_f c] at h2; omega
theorem rnE_out {P : Nat → Bool} {c : Nat} (hc : ∀ j, c ≤ j → ¬ P j = true) : ∀ d i, c ≤ i + d → ¬ P (rnE P d i) = true
  | 0, i, h => hc i (by omega)
  | d + 1, i, h => by
    by_cases e : P i = true
    · rw [rnE_t e]; exact rnE_out hc d (i + 1) (by omega)
    · rw [rnE_f e]; exact e
def inR (c : Nat) (B : Nat → Nat) (lo hi i : Nat) : Bool := decide (i < c) && (decide (lo ≤ B i) && decide (B i ≤ hi))
theorem inR_iff {c : Nat} {B : Nat → Nat} {lo hi i : Nat} : inR c B lo hi i = true ↔ i < c ∧ lo ≤ B i ∧ B i ≤ hi := by
  unfold inR
  rw [Bool.and_eq_true, Bool.and_eq_true]
  exact ⟨fun ⟨p, q, r⟩ => ⟨of_decide_eq_true p, of_decide_eq_true q, of_decide_eq_true r⟩, fun ⟨p, q, r⟩ => ⟨decide_eq_true p, decide_eq_true q, decide_eq_true r⟩⟩
/-- the end of a run of bytes -/
def run (c : Nat) (B : Nat → Nat) (lo hi i : Nat) : Nat := rnE (inR c B lo hi) 400 i
def sk (c : Nat) (B : Nat → Nat) (i : Nat) : Nat := run c B 32 32 i
section Tx
variable {c : Nat} {B : Nat → Nat} {lo hi i : Nat}
theorem run_ge : i ≤ run c B lo hi i := rnE_ge _ _
theorem run_in {j : Nat} (h1 : i ≤ j) (h2 : j < run c B lo hi i) : j < c ∧ lo ≤ B j ∧ B j ≤ hi := inR_iff.mp (rnE_in _ _ _ h1 h2)
theorem run_le (h : i ≤ c) : run c B lo hi i ≤ c := by
  rcases Nat.lt_or_ge i (run c B lo hi i) with q | q
  · have := (run_in (c := c) (B := B) (lo := lo) (hi := hi) (i := i) (j := run c B lo hi i - 1) (by omega) (by omega)).1
    omega
  · have := run_ge (c := c) (B := B) (lo := lo) (hi := hi) (i := i)
    omega
theorem run_out (hc : c ≤ 400) : inR c B lo hi (run c B lo hi i) = false := by
  have := rnE_out (P := inR c B lo hi) (c := c) (fun j hj q => by have := (inR_iff.mp q).1; omega) 400 i (by omega)
  unfold run
  simpa using this
theorem run_stop (h : inR c B lo hi i = false) : run c B lo hi i = i := rnE_f (by rw [h]; decide)
theorem run_step (hc : c ≤ 400) (h : inR c B lo hi i = true) : run c B lo hi i = run c B lo hi (i + 1) := by
  -- both end at the first byte that is none
  have a1 := run_ge (c := c) (B := B) (lo := lo) (hi := hi) (i := i)
  have a2 := run_ge (c := c) (B := B) (lo := lo) (hi := hi) (i := i + 1)
  have o1 := run_out (B := B) (lo := lo) (hi := hi) (i := i) hc
  have o2 := run_out (B := B) (lo := lo) (hi := hi) (i := i + 1) hc
  have n1 : run c B lo hi i ≠ i := fun q => by rw [q, h] at o1; cases o1
  rcases Nat.lt_trichotomy (run c B lo hi i) (run c B lo hi (i + 1)) with q | q | q
  · have := run_in (c := c) (B := B) (lo := lo) (hi := hi) (i := i + 1) (j := run c B lo hi i) (by omega) q
    rw [inR_iff.mpr this] at o1; cases o1
  · exact q
  · have := run_in (c := c) (B := B) (lo := lo) (hi := hi) (i := i) (j := run c B lo hi (i + 1)) (by omega) q
    rw [inR_iff.mpr this] at o2; cases o2
theorem sk_sk (hc : c ≤ 400) : sk c B (sk c B i) = sk c B i := run_stop (run_out hc)
theorem sk_le (h : i ≤ c) : sk c B i ≤ c := run_le h
theorem sk_ge : i ≤ sk c B i := run_ge
end Tx
def wlen (s : Nat) : Nat := lenS_l.getD s 0
def wch (s k : Nat) : Nat := ((bytS_l.getD s []).getD k 0).toNatClampNeg
def wok (s : Nat) : Bool := decide (s < 29) || (decide (52 ≤ s) && decide (s < 79))
theorem sch_ok : ∀ s, s < 79 → wok s = true → wlen s ≤ 6 ∧ 1 ≤ wlen s ∧ slen s = nI (wlen s) ∧ ∀ k, k < wlen s → schar s (nI k) = some (nI (wch s k)) ∧ wch s k < 128 := by decide +kernel
def eqW (B : Nat → Nat) (s a : Nat) : Nat → Bool
  | 0 => true
  | k + 1 => eqW B s a k && decide (B (a + k) = wch s k)
theorem eqW_f {B : Nat → Nat} {s a k : Nat} (h : eqW B s a k = false) : ∀ d, eqW B s a (k + d) = false
  | 0 => h
  | d + 1 => by show (eqW B s a (k + d) && _) = false; rw [eqW_f h d]; rfl
/-- the word s stands at a -/
def isW (c : Nat) (B : Nat → Nat) (s a : Nat) : Bool := decide (run c B 97 122 a - a = wlen s) && eqW B s a (wlen s)
theorem isW_id {c : Nat} {B : Nat → Nat} {s s' a : Nat} (h1 : lenS_l.getD s 0 = lenS_l.getD s' 0) (h2 : bytS_l.getD s [] = bytS_l.getD s' []) : isW c B s a = isW c B s' a := by
  have e : ∀ k, eqW B s a k = eqW B s' a k := fun k => by
    induction k with
    | zero => rfl
    | succ k ih =>
      show (eqW B s a k && decide (B (a + k) = wch s k)) = (eqW B s' a k && decide (B (a + k) = wch s' k))
      rw [ih]
      unfold wch
      rw [h2]
  unfold isW wlen
  rw [h1, e]
/-- the number that stands at a -/
def valN (B : Nat → Nat) (a : Nat) : Nat → Nat
  | 0 => 0
  | k + 1 => 10 * valN B a k + B (a + k) - 48
def dgE (c : Nat) (B : Nat → Nat) (a : Nat) : Nat := run c B 48 57 a
def numOk (c : Nat) (B : Nat → Nat) (lo hi : Int32) (a : Nat) : Bool := decide (1 ≤ dgE c B a - a) && decide (dgE c B a - a ≤ 3) && !outb (nI (valN B a (dgE c B a - a))) lo hi
theorem valN_lt {c : Nat} {B : Nat → Nat} {a : Nat} : ∀ k, k ≤ 3 → a + k ≤ dgE c B a → valN B a k < 10 ^ k
  | 0, _, _ => (by decide : 0 < 1)
  | k + 1, h3, h => by
    have ih := valN_lt (c := c) (B := B) (a := a) k (by omega) (by omega)
    have := run_in (c := c) (B := B) (lo := 48) (hi := 57) (i := a) (j := a + k) (by omega) (by unfold dgE at h; omega)
    show 10 * valN B a k + B (a + k) - 48 < 10 ^ (k + 1)
    rw [Nat.pow_succ]
    omega
theorem numOk_iff {c : Nat} {B : Nat → Nat} {lo hi : Int32} {a : Nat} : numOk c B lo hi a = true ↔ (1 ≤ dgE c B a - a ∧ dgE c B a - a ≤ 3) ∧ outb (nI (valN B a (dgE c B a - a))) lo hi = false := by
  unfold numOk
  rw [Bool.and_eq_true, Bool.and_eq_true]
  exact ⟨fun ⟨⟨p, q⟩, r⟩ => ⟨⟨of_decide_eq_true p, of_decide_eq_true q⟩, by simpa using r⟩, fun ⟨⟨p, q⟩, r⟩ => ⟨⟨decide_eq_true p, decide_eq_true q⟩, by simp [r]⟩⟩
