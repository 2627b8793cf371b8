/-! ACTS -/
def cM (k : Nat) : Prop := scC k ∨ sA 3 k ∨ sR k
def mM (k : Nat) : Prop := scM k ∨ k = 265 ∨ k = 269
def keep3 (ν ν' : Mem) : Prop := ∀ i, i = 6 ∨ i = 9 ∨ i = 14 → ν' 264 i = ν 264 i
def AgM (t : Nat) (μ : Mem) (o : Option (Int32 × Mem)) (m : Mem → Option (Int32 × Mem)) : Prop := ∃ (c v : Int32) (n' : Nat) (f' : Int32) (L' : Ld) (r' : Nat) (R' : Nat → Rec9), WF n' L' ∧ (∀ j, j < r' → WF (R' j).1 (R' j).2.2) ∧ Ok o (CR c v (fun ν => CL n' f' ν 3 L' ∧ RC ν r' R' ∧ Fr cM μ ν)) ∧ ∀ ν, Fr cM μ ν → Ok (m ν) (MR ν c v (fun ν' => ML n' f' (ν' 265) L' ∧ RM ν' t r' R' ∧ Ms mM ν ν' ∧ keep3 ν ν'))
theorem mrG {ν ν' : Mem} {c v w : Int32} {E : Mem → Prop} (h1 : ν' 264 0 = c) (h2 : c = 0 → w = v) (h3 : ν' 275 = ν 275) (h4 : E ν') : Ok (some (w, ν')) (MR ν c v E) := Ok.r ⟨h1, h2, h3, h4⟩
theorem wrapG {k : Nat} {v c : Int32} {P : Mem → Prop} {o : Option ((Nat × Mem) ⊕ (Int32 × Mem))} {w : (Nat × Mem) ⊕ (Int32 × Mem) → Option (Int32 × Mem)} (h : Ok o (XR k v P)) (hP : ∀ ν x, P ν → P (mset ν 275 0 x)) (h0 : k = 0 → c = 0) (hk : k ≠ 0 → c ≠ 0 ∧ ∀ ν, w (.inl (k, ν)) = some (c, ν)) (hv : ∀ ν x, w (.inr (x, ν)) = Option.bind (wr ν 275 1 0 x) fun ν2 => some (0, ν2)) : Ok (Option.bind o w) (CR c v P) := by
  refine h.b fun r hr => ?_
  cases r with
  | inl e =>
    obtain ⟨e1, e2⟩ := e
    obtain ⟨rfl, hk2, hR⟩ := hr
    dsimp only at hk2 hR ⊢
    obtain ⟨g1, g2⟩ := hk hk2
    rw [g2]
    exact Ok.r ⟨rfl, fun q => absurd q g1, hR⟩
  | inr q =>
    obtain ⟨x, ν⟩ := q
    obtain ⟨rfl, rfl, hR⟩ := hr
    dsimp only at hR ⊢
    rw [hv]
    exact Ok.s (wr_k 0 rfl (by decide) (by decide)) (Ok.r ⟨(h0 rfl).symm, fun _ => (show mset ν 275 0 x 275 0 = x from mset_at), hP _ _ hR⟩)
theorem wrapG1 {k a : Nat} {v c : Int32} {P : Mem → Prop} {o : Option ((Nat × Mem) ⊕ (Int32 × Mem))} (ha : k = 0 ∨ k = a) (hc : c = if k = 0 then 0 else 1) (hP : ∀ ν x, P ν → P (mset ν 275 0 x)) (h : Ok o (XR k v P)) : Ok (Option.bind o fun q1 => Sum.elim (fun e9 : Nat × Mem => if e9.1 = a then (some ((1 : Int32), e9.2)) else none) (fun v2 : Int32 × Mem => Option.bind (wr v2.2 275 1 0 v2.1) fun μ3 => some ((0 : Int32), μ3)) q1) (CR c v P) := by
  subst hc
  refine wrapG h hP (fun q => if_pos q) (fun q => ?_) (fun ν x => rfl)
  obtain rfl : k = a := by omega
  rw [if_neg q]
  exact ⟨by decide, fun ν => if_pos rfl⟩
theorem wrapG2 {k a b : Nat} {v c : Int32} {P : Mem → Prop} {o : Option ((Nat × Mem) ⊕ (Int32 × Mem))} (ha : k = 0 ∨ k = a ∨ k = b) (hc : c = if k = 0 then 0 else if k = a then 1 else 2) (hP : ∀ ν x, P ν → P (mset ν 275 0 x)) (h : Ok o (XR k v P)) : Ok (Option.bind o fun q1 => Sum.elim (fun e9 : Nat × Mem => if e9.1 = a then (some ((1 : Int32), e9.2)) else if e9.1 = b then (some ((2 : Int32), e9.2)) else none) (fun v2 : Int32 × Mem => Option.bind (wr v2.2 275 1 0 v2.1) fun μ3 => some ((0 : Int32), μ3)) q1) (CR c v P) := by
  subst hc
  refine wrapG h hP (fun q => if_pos q) (fun q => ?_) (fun ν x => rfl)
  rw [if_neg q]
  by_cases e : k = a
  · rw [if_pos e]
    exact ⟨by decide, fun ν => if_pos e⟩
  · rw [if_neg e]
    obtain rfl : k = b := by omega
    exact ⟨by decide, fun ν => (if_neg e).trans (if_pos rfl)⟩
theorem wrapG3 {k a b d : Nat} {v c : Int32} {P : Mem → Prop} {o : Option ((Nat × Mem) ⊕ (Int32 × Mem))} (ha : k = 0 ∨ k = a ∨ k = b ∨ k = d) (hc : c = if k = 0 then 0 else if k = a then 1 else if k = b then 2 else 3) (hP : ∀ ν x, P ν → P (mset ν 275 0 x)) (h : Ok o (XR k v P)) : Ok (Option.bind o fun q1 => Sum.elim (fun e9 : Nat × Mem => if e9.1 = a then (some ((1 : Int32), e9.2)) else if e9.1 = b then (some ((2 : Int32), e9.2)) else if e9.1 = d then (some ((3 : Int32), e9.2)) else none) (fun v2 : Int32 × Mem => Option.bind (wr v2.2 275 1 0 v2.1) fun μ3 => some ((0 : Int32), μ3)) q1) (CR c v P) := by
  subst hc
  refine wrapG h hP (fun q => if_pos q) (fun q => ?_) (fun ν x => rfl)
  rw [if_neg q]
  by_cases e : k = a
  · rw [if_pos e]
    exact ⟨by decide, fun ν => if_pos e⟩
  · rw [if_neg e]
    by_cases e2 : k = b
    · rw [if_pos e2]
      exact ⟨by decide, fun ν => (if_neg e).trans (if_pos e2)⟩
    · rw [if_neg e2]
      obtain rfl : k = d := by omega
      exact ⟨by decide, fun ν => (if_neg e).trans ((if_neg e2).trans (if_pos rfl))⟩
section Ac
variable {n : Nat} {f : Int32} {μ : Mem} {L : Ld} {T : Tx} {a r : Nat} {R : Nat → Rec9}
theorem pcM {n' r' : Nat} {f' : Int32} {L' : Ld} {R' : Nat → Rec9} : ∀ ν x, (CL n' f' ν 3 L' ∧ RC ν r' R' ∧ Fr cM μ ν) → (CL n' f' (mset ν 275 0 x) 3 L' ∧ RC (mset ν 275 0 x) r' R' ∧ Fr cM μ (mset ν 275 0 x)) := fun ν x h =>
  ⟨h.1.fr fun j hj => mset_ne (by omega), h.2.1.fr fun k h1 h2 => mset_ne (by omega), h.2.2.put (Or.inl (by unfold scC; omega))⟩
/-- the state with its ring -/
def SR (n : Nat) (f : Int32) (L : Ld) (T : Tx) (r : Nat) (R : Nat → Rec9) (μ : Mem) : Prop := St n f L T μ ∧ RC μ r R ∧ RM μ (T 0 0) r R ∧ ∀ j, j < r → WF (R j).1 (R j).2.2
theorem cm_no {ν : Mem} (hk : Fr cM μ ν) {k : Nat} (h : 264 ≤ k) (h2 : k ≠ 275) : ν k = μ k := hk k (by unfold cM scC sA sR; omega)
/-- the model's half, at a memory where only the class has written -/
theorem SR.half (h : SR n f L T r R μ) {ν : Mem} (hk : Fr cM μ ν) : ML n f (mset ν 264 0 0 265) L ∧ LM (mset ν 264 0 0 265) T ∧ RM (mset ν 264 0 0) (T 0 0) r R := by
  have e65 : mset ν 264 0 0 265 = μ 265 := (mset_ne (by decide)).trans (cm_no hk (by decide) (by decide))
  refine ⟨by rw [e65]; exact h.1.m, by rw [e65]; exact h.1.lm, h.2.2.1.fr ?_ ?_⟩
  · rw [mset_atn (by decide), cm_no hk (by decide) (by decide)]
  · rw [mset_ne (by decide), cm_no hk (by decide) (by decide)]
theorem mm_thr {ν : Mem} {v : Int32} : Ms mM ν (mset ν 264 0 v) := ⟨Fr.set (Or.inl (by unfold scM; omega)), by rw [mset_ne (by decide)], fun j _ => by rw [mset_ne (by decide)]⟩
theorem k3_thr {ν : Mem} {v : Int32} : keep3 ν (mset ν 264 0 v) := fun i hi => mset_atn (by omega)
/-- nothing done: thrown as c (or answered), by both -/
theorem noC (h : SR n f L T r R μ) {k : Nat} (hk : k ≠ 0) {v : Int32} : Ok (some (Sum.inl (k, μ))) (XR k v (fun ν => CL n f ν 3 L ∧ RC ν r R ∧ Fr cM μ ν)) := XR.no hk ⟨h.1.c, h.2.1, Fr.refl⟩
theorem noM (h : SR n f L T r R μ) {ν : Mem} (hk : Fr cM μ ν) {c v w : Int32} (hc : c ≠ 0) : Ok (some (w, mset (mset ν 264 0 0) 264 0 c)) (MR ν c v (fun ν' => ML n f (ν' 265) L ∧ RM ν' (T 0 0) r R ∧ Ms mM ν ν' ∧ keep3 ν ν')) := by
  obtain ⟨h1, h2, h3⟩ := h.half hk
  have g1 : ML n f (mset (mset ν 264 0 0) 264 0 c 265) L := by rw [mset_ne (by decide)]; exact h1
  have g2 : RM (mset (mset ν 264 0 0) 264 0 c) (T 0 0) r R := h3.fr (by rw [mset_atn (show 7 ≠ 0 by decide)]) (by rw [mset_ne (show 269 ≠ 264 by decide)])
  exact mrG mset_at (fun q => absurd q hc) (t275.trans t275) ⟨g1, g2, mm_thr.trans mm_thr, fun i hi => (k3_thr i hi).trans (k3_thr i hi)⟩
/-- done by the model, from ν0 (nothing thrown yet) on -/
theorem yesM {ν ν' : Mem} {n' r' t : Nat} {f' : Int32} {L' : Ld} {R' : Nat → Rec9} {v w : Int32} (e : w = v) (hM : ML n' f' (ν' 265) L') (hR : RM ν' t r' R') (hS : Ms mM (mset ν 264 0 0) ν') (h0 : ν' 264 0 = 0) (hk : keep3 (mset ν 264 0 0) ν') : Ok (some (w, ν')) (MR ν 0 v (fun ν' => ML n' f' (ν' 265) L' ∧ RM ν' t r' R' ∧ Ms mM ν ν' ∧ keep3 ν ν')) :=
  Ok.r ⟨h0, fun _ => e, (hS.1 275 (by unfold mM scM; omega)).trans t275, hM, hR, mm_thr.trans hS, fun i hi => (hk i hi).trans (k3_thr i hi)⟩
theorem RM.s65 {S : Nat → Prop} {ν ν' : Mem} {t : Nat} (h : RM ν t r R) (hm : Ms S ν ν') (hS : ∀ k, S k → k = 265 ∨ k = 272) : RM ν' t r R := h.fr (by rw [hm.1 264 (fun q => by have := hS _ q; omega)]) (hm.1 269 (fun q => by have := hS _ q; omega))
theorem mm65 {S : Nat → Prop} {ν ν' : Mem} (hm : Ms S ν ν') (hS : ∀ k, S k → k = 265 ∨ k = 272) : Ms mM ν ν' ∧ ν' 264 = ν 264 := ⟨hm.mono fun k hk => by have := hS k hk; unfold mM scM; omega, hm.1 264 (fun q => by have := hS _ q; omega)⟩
/-- the model remembers -/
theorem remM (h : SR n f L T r R μ) {ν : Mem} (hk : Fr cM μ ν) : Ok (f_X12_remembers (mset ν 264 0 0)) (fun ν1 => ML n f (ν1 265) L ∧ LM (ν1 265) T ∧ RM ν1 (T 0 0) (min 12 (r + 1)) (pushR (n, f, L) R) ∧ Ms mM (mset ν 264 0 0) ν1 ∧ ν1 264 0 = 0 ∧ keep3 (mset ν 264 0 0) ν1) := by
  obtain ⟨h1, h2, h3⟩ := h.half hk
  refine (X12_remembers h3 h1 h2.1).w fun ν1 hv => ?_
  have e65 : ν1 265 = mset ν 264 0 0 265 := hv.2.1 265 (by unfold sT; omega)
  exact ⟨by rw [e65]; exact h1, by rw [e65]; exact h2, hv.1, ⟨hv.2.1.mono fun k hk => by unfold sT at hk; unfold mM scM; omega, by rw [e65], fun j _ => by rw [e65]⟩, by rw [hv.2.2 0 (by decide)]; exact mset_at, fun i hi => hv.2.2 i (by omega)⟩
/-- the class remembers -/
theorem remC (h : SR n f L T r R μ) : Ok (f_X0_remember μ 3) (fun ν => CL n f ν 3 L ∧ LC ν 48 T ∧ RC ν (min 12 (r + 1)) (pushR (n, f, L) R) ∧ Fr cM μ ν) := by
  refine (X0_remember h.2.1 h.1.c).w fun ν hv => ⟨h.1.c.fr fun j hj => hv.2 _ (by unfold sR; omega), h.1.lc.fr fun j hj => hv.2 _ (by unfold sR; omega), hv.1, hv.2.mono fun k hk => Or.inr (Or.inr hk)⟩
theorem wf_push (h : SR n f L T r R μ) : ∀ j, j < min 12 (r + 1) → WF (pushR (n, f, L) R j).1 (pushR (n, f, L) R j).2.2 := fun j hj => by
  cases j with
  | zero => exact h.1.w
  | succ j => exact h.2.2.2 j (by omega)
theorem sA3 {k : Nat} (h : sA 3 k) : cM k := Or.inr (Or.inl h)
theorem RC.a3 {ν ν' : Mem} (h : RC ν r R) (hF : Fr (sA 3) ν ν') : RC ν' r R := h.fr fun k h1 h2 => hF k (by unfold sA; omega)
theorem a_rest (h : SR n f L T r R μ) (p1 : Int32) : AgM (T 0 0) μ (f_L_rest μ p1) (fun ν => f_X12_rest ν p1) := by
  have hn := h.1.n6
  by_cases b1 : outb p1 0 (nI n - 1) = true
  · refine ⟨1, 0, n, f, L, r, R, h.1.w, h.2.2.2, wrapG1 (k := 2) (by decide) rfl pcM ?_, fun ν hk => ?_⟩
    · unfold f_X11_rest
      refine Ok.s (X11_needPerson h.1.c p1) ?_
      rw [if_pos b1]
      exact elimL' (noC h (by decide))
    · unfold f_X12_rest
      refine Ok.s (X12_noPerson (h.half hk).1 p1) ?_
      rw [b1]
      exact Ok.s (X12_thrT 1) (Ok.t rfl (noM h hk (by decide)))
  · have b1' : outb p1 0 (nI n - 1) = false := by simpa using b1
    obtain ⟨p, hp, rfl⟩ := outb_ix (by omega) b1'
    refine ⟨0, L 5 p, n, f, upd2 L 5 p 0, min 12 (r + 1), pushR (n, f, L) R, h.1.w.tired (x := 0) (by decide) rfl, wf_push h, wrapG1 (k := 0) (by decide) rfl pcM ?_, fun ν hk => ?_⟩
    · unfold f_X11_rest
      refine Ok.s (X11_needPerson h.1.c _) ?_
      rw [if_neg b1]
      refine elimR' ((remC h).b fun ν hv => ?_)
      refine Ok.s (hv.1.rdP (k := 5) (by decide) hp) (Ok.s (wr_nI (by omega) (by decide)) ?_)
      exact XR.yes rfl ⟨hv.1.set (k := 5) (by decide) (by omega), hv.2.2.1.fr fun k h1 h2 => mset_ne (by omega), hv.2.2.2.put (sA3 (by unfold sA; omega))⟩
    · unfold f_X12_rest
      refine Ok.s (X12_noPerson (h.half hk).1 _) ?_
      rw [b1']
      refine Ok.s (X12_thrF 1) (Ok.e fnt ((remM h hk).b fun ν1 hv => ?_))
      refine Ok.s (X12_of4 hv.1 hp) (Ok.s (X12_atN (k := 4)) (Ok.s (wr_nI (by omega) (by decide)) ?_))
      exact yesM rfl (hv.1.putP (k := 5) (by decide) hp rfl) (hv.2.2.1.fr (by rw [mset_ne (by decide)]) (mset_ne (by decide))) (hv.2.2.2.1.put (Or.inr (Or.inl rfl)) (by omega) (by omega)) (by rw [mset_ne (by decide)]; exact hv.2.2.2.2.1) (fun i hi => by rw [mset_ne (by decide)]; exact hv.2.2.2.2.2 i hi)
theorem a_goal (h : SR n f L T r R μ) (p1 p2 : Int32) : AgM (T 0 0) μ (f_L_goal μ p1 p2) (fun ν => f_X12_goal ν p1 p2) := by
  have hn := h.1.n6
  by_cases b1 : outb p1 0 (nI n - 1) = true
  · refine ⟨1, 0, n, f, L, r, R, h.1.w, h.2.2.2, wrapG1 (k := 2) (by decide) rfl pcM ?_, fun ν hk => ?_⟩
    · unfold f_X11_goal
      refine Ok.s (X11_needPerson h.1.c p1) ?_
      rw [if_pos b1]
      exact elimL' (noC h (by decide))
    · unfold f_X12_goal
      refine Ok.s (X12_noPerson (h.half hk).1 p1) ?_
      rw [b1]
      refine Ok.t rfl ?_
      unfold f_X12_goal_j21 f_X12_goal_j26
      exact Ok.s (X12_thrT 1) (Ok.t rfl (noM h hk (by decide)))
  · have b1' : outb p1 0 (nI n - 1) = false := by simpa using b1
    obtain ⟨p, hp, rfl⟩ := outb_ix (by omega) b1'
    by_cases b2 : outb p2 0 19 = true
    · refine ⟨1, 0, n, f, L, r, R, h.1.w, h.2.2.2, wrapG1 (k := 2) (by decide) rfl pcM ?_, fun ν hk => ?_⟩
      · unfold f_X11_goal
        refine Ok.s (X11_needPerson h.1.c _) ?_
        rw [if_neg b1]
        refine elimR' (Ok.s (X11_needPlace p2) ?_)
        rw [if_pos b2]
        exact elimL' (noC h (by decide))
      · unfold f_X12_goal
        refine Ok.s (X12_noPerson (h.half hk).1 _) ?_
        rw [b1']
        refine Ok.e fnt (Ok.s (X12_noPlace p2) ?_)
        rw [b2]
        exact Ok.s (X12_thrT 1) (Ok.t rfl (noM h hk (by decide)))
    · have b2' : outb p2 0 19 = false := by simpa using b2
      obtain ⟨q, hq, rfl⟩ := outb_rng (b := 19) rfl (by decide) b2'
      refine ⟨0, L 4 p, n, f, upd2 L 4 p (nI q), min 12 (r + 1), pushR (n, f, L) R, h.1.w.goal hq rfl, wf_push h, wrapG1 (k := 0) (by decide) rfl pcM ?_, fun ν hk => ?_⟩
      · unfold f_X11_goal
        refine Ok.s (X11_needPerson h.1.c _) ?_
        rw [if_neg b1]
        refine elimR' (Ok.s (X11_needPlace _) ?_)
        rw [if_neg b2]
        refine elimR' ((remC h).b fun ν hv => ?_)
        refine Ok.s (hv.1.rdP (k := 4) (by decide) hp) (Ok.s (wr_nI (by omega) (by decide)) ?_)
        exact XR.yes rfl ⟨hv.1.set (k := 4) (by decide) (by omega), hv.2.2.1.fr fun k h1 h2 => mset_ne (by omega), hv.2.2.2.put (sA3 (by unfold sA; omega))⟩
      · unfold f_X12_goal
        refine Ok.s (X12_noPerson (h.half hk).1 _) ?_
        rw [b1']
        refine Ok.e fnt (Ok.s (X12_noPlace _) ?_)
        rw [b2']
        refine Ok.s (X12_thrF 1) (Ok.e fnt ((remM h hk).b fun ν1 hv => ?_))
        refine Ok.s (X12_of3 hv.1 hp) (Ok.s (X12_atN (k := 3)) (Ok.s (wr_nI (by omega) (by decide)) ?_))
        exact yesM rfl (hv.1.putP (k := 4) (by decide) hp rfl) (hv.2.2.1.fr (by rw [mset_ne (by decide)]) (mset_ne (by decide))) (hv.2.2.2.1.put (Or.inr (Or.inl rfl)) (by omega) (by omega)) (by rw [mset_ne (by decide)]; exact hv.2.2.2.2.1) (fun i hi => by rw [mset_ne (by decide)]; exact hv.2.2.2.2.2 i hi)
theorem a_days (h : SR n f L T r R μ) (p1 : Int32) : AgM (T 0 0) μ (f_L_days μ p1) (fun ν => f_X12_days ν p1) := by
  have hn := h.1.n6
  by_cases b1 : outb p1 1 60 = true
  · refine ⟨1, 0, n, f, L, r, R, h.1.w, h.2.2.2, wrapG1 (k := 1) (by decide) rfl pcM ?_, fun ν hk => ?_⟩
    · unfold f_X11_days
      exact Ok.s X11_out (Ok.t b1 (noC h (by decide)))
    · unfold f_X12_days
      refine Ok.s X12_in ?_
      rw [nb, b1]
      exact Ok.s (X12_thrT 1) (Ok.t rfl (noM h hk (by decide)))
  · have b1' : outb p1 1 60 = false := by simpa using b1
    obtain ⟨k, hk1, hk60, rfl⟩ := outb_1 (b := 60) rfl (by decide) b1'
    refine ⟨0, (daysA true T n L k).2, n, f + (daysA true T n L k).2, (daysA true T n L k).1, min 12 (r + 1), pushR (n, f, L) R, h.1.w.days hn h.1.wt k, wf_push h, wrapG1 (k := 0) (by decide) rfl pcM ?_, fun ν hk => ?_⟩
    · unfold f_X11_days
      refine Ok.s X11_out (Ok.e b1 ((remC h).b fun ν hv => ?_))
      refine (X2_liveOn hv.1 h.1.w (by decide) hv.2.1 h.1.wt true hk60).b fun q hq => ?_
      exact XR.yes hq.1 ⟨hq.2.1, hv.2.2.1.fr fun k h1 h2 => hq.2.2 _ (by unfold sD sA s5; omega), hv.2.2.2.trans (hq.2.2.mono fun k hk => by unfold cM scC; unfold sD s5 at hk; unfold sA at hk ⊢; omega)⟩
    · unfold f_X12_days
      refine Ok.s X12_in ?_
      rw [nb, b1']
      refine Ok.s (X12_thrF 1) (Ok.e fnt ((remM h hk).b fun ν1 hv => ?_))
      refine Ok.s (a := f) (by rw [rd_k (k := 5) 5 rfl (by decide) (by decide)]; exact congrArg some hv.1.2.2) ?_
      unfold f_X12_days_l43
      refine days_loop (st := false) (dr := true) rfl hk60 hv.1 h.1.w hv.2.1 h.1.wt (fun j ν hj => ?_) (fun ν => ?_) (fun ν2 hM h2 => ?_) rfl
      · show f_X12_days_b43 ν (nI k) f (nI j) = _
        unfold f_X12_days_b43
        refine ie (nI_ge hj (by omega)) ?_
        rw [nI_1]
      · exact it (nI_le (Nat.le_refl _) (by omega)) rfl
      · unfold f_X12_days_j59
        refine Ok.s (a := f + (daysA true T n L k).2) (by rw [rd_k (k := 5) 5 rfl (by decide) (by decide)]; exact congrArg some hM.2.2) ?_
        obtain ⟨g1, g2⟩ := mm65 h2 (fun k hk => by unfold s72 at hk; omega)
        exact yesM (add_sub _ _) hM (hv.2.2.1.s65 h2 (fun k hk => by unfold s72 at hk; omega)) (hv.2.2.2.1.trans g1) (by rw [g2]; exact hv.2.2.2.2.1) (fun i hi => by rw [g2]; exact hv.2.2.2.2.2 i hi)
end Ac
