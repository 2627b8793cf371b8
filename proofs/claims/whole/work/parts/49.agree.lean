/-! WHAT BOTH ANSWER -/
def St (n : Nat) (f : Int32) (L : Ld) (T : Tx) (μ : Mem) : Prop := CL n f μ 3 L ∧ ML n f (μ 265) L ∧ WF n L ∧ LC μ 48 T ∧ LM (μ 265) T ∧ WT T
def scC (k : Nat) : Prop := (18 ≤ k ∧ k ≤ 32) ∨ (54 ≤ k ∧ k ≤ 63) ∨ (256 ≤ k ∧ k ≤ 263) ∨ k = 275
def scM (k : Nat) : Prop := k = 264 ∨ k = 267 ∨ k = 268 ∨ (271 ≤ k ∧ k ≤ 274)
def KC (μ μ' : Mem) : Prop := Fr scC μ μ'
def KM (μ μ' : Mem) : Prop := Fr scM μ μ' ∧ ∀ i, i = 6 ∨ i = 7 ∨ i = 9 ∨ i = 14 → μ' 264 i = μ 264 i
theorem KM.refl {μ : Mem} : KM μ μ := ⟨Fr.refl, fun _ _ => rfl⟩
theorem KM.trans {μ μ1 μ2 : Mem} (h1 : KM μ μ1) (h2 : KM μ1 μ2) : KM μ μ2 := ⟨h1.1.trans h2.1, fun i hi => (h2.2 i hi).trans (h1.2 i hi)⟩
theorem KM.fr {S : Nat → Prop} {μ μ1 μ2 : Mem} (h1 : KM μ μ1) (h2 : Fr S μ1 μ2) (hS : ∀ k, S k → scM k ∧ k ≠ 264) : KM μ μ2 := ⟨h1.1.trans (h2.mono fun k hk => (hS k hk).1), fun i hi => by rw [h2 264 (fun q => (hS _ q).2 rfl)]; exact h1.2 i hi⟩
theorem KM.thr {μ : Mem} {v : Int32} : KM μ (mset μ 264 0 v) := ⟨Fr.set (by unfold scM; omega), fun i hi => mset_atn (by omega)⟩
theorem St.kc {n : Nat} {f : Int32} {L : Ld} {T : Tx} {μ μ' : Mem} (h : St n f L T μ) (k : KC μ μ') : St n f L T μ' := by
  obtain ⟨h1, h2, h3, h4, h5, h6⟩ := h
  have e : μ' 265 = μ 265 := k 265 (by unfold scC; omega)
  exact ⟨h1.fr fun j hj => k _ (by unfold scC; omega), by rw [e]; exact h2, h3, h4.fr fun j hj => k _ (by unfold scC; omega), by rw [e]; exact h5, h6⟩
theorem St.km {n : Nat} {f : Int32} {L : Ld} {T : Tx} {μ μ' : Mem} (h : St n f L T μ) (k : KM μ μ') : St n f L T μ' := by
  obtain ⟨h1, h2, h3, h4, h5, h6⟩ := h
  have e : μ' 265 = μ 265 := k.1 265 (by unfold scM; omega)
  exact ⟨h1.fr fun j hj => k.1 _ (by unfold scM; omega), by rw [e]; exact h2, h3, h4.fr fun j hj => k.1 _ (by unfold scM; omega), by rw [e]; exact h5, h6⟩
/-- the class's answer: thrown as k, or (k = 0) v -/
def XR (k : Nat) (v : Int32) (R : Mem → Prop) (r : (Nat × Mem) ⊕ (Int32 × Mem)) : Prop := match r with
  | .inl e => e.1 = k ∧ k ≠ 0 ∧ R e.2
  | .inr q => k = 0 ∧ q.1 = v ∧ R q.2
theorem XR.no {μ : Mem} {k : Nat} {v : Int32} {R : Mem → Prop} (hk : k ≠ 0) (h : R μ) : Ok (some (Sum.inl (k, μ))) (XR k v R) := ⟨_, rfl, rfl, hk, h⟩
theorem XR.yes {μ : Mem} {v w : Int32} {R : Mem → Prop} (e : w = v) (h : R μ) : Ok (some (Sum.inr (w, μ))) (XR 0 v R) := ⟨_, rfl, rfl, e, h⟩
/-- .. as the law's code c keeps it -/
def CR (c v : Int32) (R : Mem → Prop) (q : Int32 × Mem) : Prop := q.1 = c ∧ (c = 0 → q.2 275 0 = v) ∧ R q.2
def MR (ν : Mem) (c v : Int32) (R : Mem → Prop) (q : Int32 × Mem) : Prop := q.2 264 0 = c ∧ (c = 0 → q.1 = v) ∧ q.2 275 = ν 275 ∧ R q.2
/-- both answer alike -/
def Ag (o : Option (Int32 × Mem)) (m : Mem → Option (Int32 × Mem)) (E : Mem → Prop) : Prop := ∃ (c v : Int32) (R : Mem → Prop), Ok o (CR c v R) ∧ ∀ ν, R ν → Ok (m ν) (MR ν c v E)
/-- .. and nothing of what lasts has changed -/
def AgQ (μ : Mem) (o : Option (Int32 × Mem)) (m : Mem → Option (Int32 × Mem)) : Prop := ∃ (c v : Int32), Ok o (CR c v (KC μ)) ∧ ∀ ν, KC μ ν → Ok (m ν) (MR ν c v (KM ν))
theorem wrap {k : Nat} {v c : Int32} {μ : Mem} {o : Option ((Nat × Mem) ⊕ (Int32 × Mem))} {w : (Nat × Mem) ⊕ (Int32 × Mem) → Option (Int32 × Mem)} (h : Ok o (XR k v (KC μ))) (h0 : k = 0 → c = 0) (hk : k ≠ 0 → c ≠ 0 ∧ ∀ ν, w (.inl (k, ν)) = some (c, ν)) (hv : ∀ ν x, w (.inr (x, ν)) = Option.bind (wr ν 275 1 0 x) fun ν2 => some (0, ν2)) : Ok (Option.bind o w) (CR c v (KC μ)) := by
  refine h.b fun r hr => ?_
  cases r with
  | inl e =>
    obtain ⟨e1, e2⟩ := e
    obtain ⟨rfl, hk2, hR⟩ := hr
    dsimp only at hk2 hR ⊢
    obtain ⟨g1, g2⟩ := hk hk2
    rw [g2]
    exact Ok.r ⟨rfl, fun q => absurd q g1, hR⟩
  | inr q =>
    obtain ⟨x, ν⟩ := q
    obtain ⟨rfl, rfl, hR⟩ := hr
    dsimp only at hR ⊢
    rw [hv]
    refine Ok.s (wr_k 0 rfl (by decide) (by decide)) (Ok.r ⟨(h0 rfl).symm, fun _ => (show mset ν 275 0 x 275 0 = x from mset_at), ?_⟩)
    exact hR.put (by unfold scC; omega)
theorem wrap1 {k a : Nat} {v c : Int32} {μ : Mem} {o : Option ((Nat × Mem) ⊕ (Int32 × Mem))} (ha : k = 0 ∨ k = a) (hc : c = if k = 0 then 0 else 1) (h : Ok o (XR k v (KC μ))) : Ok (Option.bind o fun q1 => Sum.elim (fun e9 : Nat × Mem => if e9.1 = a then (some ((1 : Int32), e9.2)) else none) (fun v2 : Int32 × Mem => Option.bind (wr v2.2 275 1 0 v2.1) fun μ3 => some ((0 : Int32), μ3)) q1) (CR c v (KC μ)) := by
  subst hc
  refine wrap h (fun q => if_pos q) (fun q => ?_) (fun ν x => rfl)
  obtain rfl : k = a := by omega
  rw [if_neg q]
  exact ⟨by decide, fun ν => if_pos rfl⟩
theorem wrap2 {k a b : Nat} {v c : Int32} {μ : Mem} {o : Option ((Nat × Mem) ⊕ (Int32 × Mem))} (ha : k = 0 ∨ k = a ∨ k = b) (hc : c = if k = 0 then 0 else if k = a then 1 else 2) (h : Ok o (XR k v (KC μ))) : Ok (Option.bind o fun q1 => Sum.elim (fun e9 : Nat × Mem => if e9.1 = a then (some ((1 : Int32), e9.2)) else if e9.1 = b then (some ((2 : Int32), e9.2)) else none) (fun v2 : Int32 × Mem => Option.bind (wr v2.2 275 1 0 v2.1) fun μ3 => some ((0 : Int32), μ3)) q1) (CR c v (KC μ)) := by
  subst hc
  refine wrap h (fun q => if_pos q) (fun q => ?_) (fun ν x => rfl)
  rw [if_neg q]
  by_cases e : k = a
  · rw [if_pos e]
    exact ⟨by decide, fun ν => if_pos e⟩
  · rw [if_neg e]
    obtain rfl : k = b := by omega
    exact ⟨by decide, fun ν => (if_neg e).trans (if_pos rfl)⟩
/-! bounds -/
def outb (x lo hi : Int32) : Bool := if x < lo then (true : Bool) else (if x ≤ hi then (false : Bool) else true)
theorem X11_out {μ : Mem} {x lo hi : Int32} : f_X11_isOutside μ x lo hi = some (outb x lo hi) := rfl
theorem X12_in {μ : Mem} {x lo hi : Int32} : f_X12_in μ x lo hi = some (!outb x lo hi) := by
  unfold f_X12_in outb
  by_cases c : x < lo
  · rw [if_pos c, if_pos c]; rfl
  · rw [if_neg c, if_neg c]
    by_cases d : x ≤ hi
    · rw [if_pos d, if_neg (Int32.not_lt.mpr d)]; rfl
    · rw [if_neg d, if_pos (Int32.not_le.mp d)]; rfl
theorem outb_f {x lo hi : Int32} (h : outb x lo hi = false) : ¬ x < lo ∧ x ≤ hi := by
  unfold outb at h
  by_cases c : x < lo
  · rw [if_pos c] at h; cases h
  · rw [if_neg c] at h
    by_cases d : x ≤ hi
    · exact ⟨c, d⟩
    · rw [if_neg d] at h; cases h
theorem outb_ix {x : Int32} {n : Nat} (hn : n < 2 ^ 30) (h : outb x 0 (nI n - 1) = false) : ∃ p, p < n ∧ x = nI p := by
  obtain ⟨h1, h2⟩ := outb_f h
  cases n with
  | zero =>
    have q1 := Int32.le_iff_toInt_le.mp (Int32.not_lt.mp h1)
    have q2 := Int32.le_iff_toInt_le.mp h2
    have e1 : ((0 : Int32)).toInt = 0 := by decide
    have e2 : (nI 0 - 1).toInt = -1 := by decide
    omega
  | succ n =>
    rw [nI_p1] at h2
    obtain ⟨j, hj, e⟩ := nI_of2 (nI_toInt (by omega)) h1 h2
    exact ⟨j, by omega, e⟩
theorem outb_rng {x : Int32} {b : Nat} {k : Int32} (hk : k = nI b) (hb : b < 2 ^ 31) (h : outb x 0 k = false) : ∃ j, j ≤ b ∧ x = nI j := by
  subst hk
  obtain ⟨h1, h2⟩ := outb_f h
  exact nI_of2 (nI_toInt hb) h1 h2
theorem outb_1 {x : Int32} {b : Nat} {k : Int32} (hk : k = nI b) (hb : b < 2 ^ 31) (h : outb x 1 k = false) : ∃ j, 1 ≤ j ∧ j ≤ b ∧ x = nI j := by
  subst hk
  obtain ⟨h1, h2⟩ := outb_f h
  have h0 : ¬ x < 0 := fun q => h1 (by
    have q1 := Int32.lt_iff_toInt_lt.mp q
    have e1 : ((0 : Int32)).toInt = 0 := by decide
    have e2 : ((1 : Int32)).toInt = 1 := by decide
    exact Int32.lt_iff_toInt_lt.mpr (by omega))
  obtain ⟨j, hj, rfl⟩ := nI_of2 (nI_toInt hb) h0 h2
  refine ⟨j, ?_, hj, rfl⟩
  rcases Nat.eq_zero_or_pos j with q | q
  · subst q; exact absurd (show nI 0 < 1 by decide) h1
  · exact q
section Need
variable {n : Nat} {f : Int32} {μ : Mem} {L : Ld} {T : Tx}
theorem St.n6 (h : St n f L T μ) : n ≤ 6 := h.1.n6
theorem X11_needPerson (h : CL n f μ 3 L) (x : Int32) : f_X11_needPerson μ x = some (if outb x 0 (nI n - 1) = true then .inl (2, μ) else .inr μ) := by
  unfold f_X11_needPerson
  rw [h.ppl, X11_out, sb9]
  split <;> rfl
theorem X11_needLace (h : CL n f μ 3 L) (x : Int32) : f_X11_needLace μ x = some (if outb x 0 (nI (2 * n) - 1) = true then .inl (2, μ) else .inr μ) := by
  unfold f_X11_needLace
  rw [h.ppl, two_nI, X11_out, sb9]
  split <;> rfl
theorem X11_needPlace (x : Int32) : f_X11_needPlace μ x = some (if outb x 0 19 = true then .inl (2, μ) else .inr μ) := by
  unfold f_X11_needPlace
  rw [X11_out, sb9]
  split <;> rfl
theorem X11_needAhead (x : Int32) : f_X11_needAhead μ x = some (if outb x 0 60 = true then .inl (1, μ) else .inr μ) := by
  unfold f_X11_needAhead
  rw [X11_out, sb9]
  split <;> rfl
theorem nb (b : Bool) : (if (!b) = true then (false : Bool) else true) = b := by cases b <;> rfl
theorem X12_noPerson (h : ML n f (μ 265) L) (x : Int32) : f_X12_noPerson μ x = some (outb x 0 (nI n - 1)) := by
  unfold f_X12_noPerson
  rw [X12_people h, sb9, X12_in, sb9, nb]
theorem X12_noLace (h : ML n f (μ 265) L) (x : Int32) : f_X12_noLace μ x = some (outb x 0 (nI (2 * n) - 1)) := by
  unfold f_X12_noLace
  rw [X12_laces h, sb9, X12_in, sb9, nb]
theorem X12_noPlace (x : Int32) : f_X12_noPlace μ x = some (outb x 0 19) := by
  unfold f_X12_noPlace
  rw [X12_in, sb9, nb]
theorem X12_thrT (k : Int32) : f_X12_throwsIf μ true k = some (true, mset μ 264 0 k) := rfl
theorem X12_thrF (k : Int32) : f_X12_throwsIf μ false k = some (false, μ) := rfl
theorem elimL' {α β γ : Type} {f : α → Option γ} {g : β → Option γ} {v : α} {P : γ → Prop} (h : Ok (f v) P) : Ok (Sum.elim f g (.inl v)) P := h
theorem elimR' {α β γ : Type} {f : α → Option γ} {g : β → Option γ} {v : β} {P : γ → Prop} (h : Ok (g v) P) : Ok (Sum.elim f g (.inr v)) P := h
/-- the argument is refused: by both -/
theorem St.c (h : St n f L T μ) : CL n f μ 3 L := h.1
theorem St.m (h : St n f L T μ) : ML n f (μ 265) L := h.2.1
theorem St.w (h : St n f L T μ) : WF n L := h.2.2.1
theorem St.lc (h : St n f L T μ) : LC μ 48 T := h.2.2.2.1
theorem St.lm (h : St n f L T μ) : LM (μ 265) T := h.2.2.2.2.1
theorem St.wt (h : St n f L T μ) : WT T := h.2.2.2.2.2
theorem St.m0 (h : St n f L T μ) {ν : Mem} (k : KC μ ν) : St n f L T (mset ν 264 0 0) := (h.kc k).km KM.thr
theorem thr0 {ν : Mem} {v : Int32} : mset ν 264 0 v 264 0 = v := mset_at
theorem t275 {ν : Mem} {i : Nat} {v : Int32} : mset ν 264 i v 275 = ν 275 := mset_ne (by decide)
theorem KC.refl : KC μ μ := Fr.refl
/-- the model's answer, of memory and value -/
theorem mrI {ν ν' : Mem} {c v w : Int32} (h1 : ν' 264 0 = c) (h2 : c = 0 → w = v) (h3 : ν' 275 = ν 275) (h4 : KM ν ν') : Ok (some (w, ν')) (MR ν c v (KM ν)) := Ok.r ⟨h1, h2, h3, h4⟩
theorem mrT {ν : Mem} {c v w : Int32} (hc : c ≠ 0) : Ok (some (w, mset (mset ν 264 0 0) 264 0 c)) (MR ν c v (KM ν)) := mrI mset_at (fun q => absurd q hc) (t275.trans t275) (KM.thr.trans KM.thr)
theorem mrV {ν : Mem} {v w : Int32} (e : w = v) : Ok (some (w, mset ν 264 0 0)) (MR ν 0 v (KM ν)) := mrI mset_at (fun _ => e) t275 KM.thr
/-- .. when it has changed cells of S beside -/
theorem mrS {S : Nat → Prop} {ν ν' : Mem} {v w : Int32} (e : w = v) (hF : Fr S (mset ν 264 0 0) ν') (hS : ∀ k, S k → scM k ∧ k ≠ 264) : Ok (some (w, ν')) (MR ν 0 v (KM ν)) := by
  have h5 : ∀ k, S k → k ≠ 275 := fun k hk q => by have := (hS k hk).1; unfold scM at this; omega
  exact mrI (by rw [hF 264 (fun q => (hS _ q).2 rfl)]; exact mset_at) (fun _ => e) (by rw [hF 275 (fun q => h5 _ q rfl)]; exact t275) (KM.thr.fr hF hS)
end Need
