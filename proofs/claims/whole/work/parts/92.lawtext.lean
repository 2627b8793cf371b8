/-! THE LAW'S TEXT: steps -/
def Em (st : Nat → Nat) (k : Nat) (μ ν : Mem) : Prop := μ 56 2 = nI k ∧ ν 264 16 = nI k ∧ (∀ i, i < k → μ 61 i = nI (st i)) ∧ ∀ i, i < k → ν 265 (1268 + 2 * i) = nI (mst (st i)) ∧ ν 265 (1268 + 2 * i + 1) = nI (mnu (st i))
def K12 (ν0 ν : Mem) : Prop := ∀ j, j < 1219 → ν 265 j = ν0 265 j
def EfL (μ μ' : Mem) : Prop := (∀ k, k ≠ 1 → k ≠ 56 → k ≠ 61 → μ' k = μ k) ∧ ∀ i, i ≠ 2 → μ' 56 i = μ 56 i
def EgL (ν ν' : Mem) : Prop := (∀ k, k ≠ 264 → k ≠ 265 → ν' k = ν k) ∧ ∀ j, j < 1268 → ν' 265 j = ν 265 j
theorem EfL.refl {μ : Mem} : EfL μ μ := ⟨fun _ _ _ _ => rfl, fun _ _ => rfl⟩
theorem EgL.refl {ν : Mem} : EgL ν ν := ⟨fun _ _ _ => rfl, fun _ _ => rfl⟩
theorem EfL.trans {μ μ1 μ2 : Mem} (h1 : EfL μ μ1) (h2 : EfL μ1 μ2) : EfL μ μ2 := ⟨fun k a b d => (h2.1 k a b d).trans (h1.1 k a b d), fun i hi => (h2.2 i hi).trans (h1.2 i hi)⟩
theorem EgL.trans {ν ν1 ν2 : Mem} (h1 : EgL ν ν1) (h2 : EgL ν1 ν2) : EgL ν ν2 := ⟨fun k a b => (h2.1 k a b).trans (h1.1 k a b), fun j hj => (h2.2 j hj).trans (h1.2 j hj)⟩
theorem Ef.L {μ μ' : Mem} (h : Ef μ μ') : EfL μ μ' := ⟨fun k a _ _ => h k a, fun i _ => by rw [h 56 (by decide)]⟩
theorem Eg.L {ν ν' : Mem} (h : Eg ν ν') : EgL ν ν' := ⟨fun k a _ => h.1 k a, fun j _ => by rw [h.1 265 (by decide)]⟩
theorem K12.egl {ν0 ν ν' : Mem} (h : K12 ν0 ν) (g : EgL ν ν') : K12 ν0 ν' := fun j hj => (g.2 j (by omega)).trans (h j hj)
/-- the class may run on -/
def Sf (μ : Mem) : Prop := (∃ x, x ≤ 400 ∧ μ 56 2 = nI x) ∧ ∃ y, y ≤ 12 ∧ μ 56 1 = nI y
def Cq (c : Nat) (μ0 μ : Mem) (w : Nat) : Prop := Cw c μ0 μ w ∧ Sf μ
theorem Sf.ef {μ μ' : Mem} (h : Sf μ) (e : Ef μ μ') : Sf μ' := by
  unfold Sf
  rw [e 56 (by decide)]
  exact h
def su (st : Nat → Nat) (k s : Nat) : Nat → Nat := fun i => if i = k then s else st i
theorem su_at {st : Nat → Nat} {k s : Nat} : su st k s k = s := if_pos rfl
theorem su_n {st : Nat → Nat} {k s i : Nat} (h : i ≠ k) : su st k s i = st i := if_neg h
theorem tyA_add {st : Nat → Nat} {b : Nat} {t0 : List Bool} (m : Nat) : ∀ n, tyA st b t0 (m + n) = (tyA st b t0 m).bind fun t => tyA st (b + m) t n
  | 0 => by
    show tyA st b t0 m = (tyA st b t0 m).bind fun t => some t
    cases tyA st b t0 m <;> rfl
  | n + 1 => by
    show (tyA st b t0 (m + n)).bind (tyA1 (st (b + (m + n)))) = _
    rw [tyA_add m n, Option.bind_assoc]
    congr 1
    funext t
    show _ = (tyA st (b + m) t n).bind (tyA1 (st (b + m + n)))
    rw [Nat.add_assoc]
theorem tyA_congr {st st' : Nat → Nat} {b : Nat} {t0 : List Bool} : ∀ n, (∀ i, b ≤ i → i < b + n → st i = st' i) → tyA st b t0 n = tyA st' b t0 n
  | 0, _ => rfl
  | n + 1, h => by
    show (tyA st b t0 n).bind (tyA1 (st (b + n))) = (tyA st' b t0 n).bind (tyA1 (st' (b + n)))
    rw [tyA_congr n (fun i h1 h2 => h i h1 (by omega)), h (b + n) (by omega) (by omega)]
def Ty (st : Nat → Nat) (k : Nat) (ts : List Bool) (k' : Nat) (ts' : List Bool) : Prop := k ≤ k' ∧ tyA st k ts (k' - k) = some ts'
theorem Ty.refl {st : Nat → Nat} {k : Nat} {ts : List Bool} : Ty st k ts k ts := ⟨Nat.le_refl _, by rw [Nat.sub_self]; rfl⟩
theorem Ty.trans {st st' : Nat → Nat} {k k1 k2 : Nat} {ts ts1 ts2 : List Bool} (h1 : Ty st k ts k1 ts1) (h2 : Ty st' k1 ts1 k2 ts2) (e : ∀ i, i < k1 → st' i = st i) : Ty st' k ts k2 ts2 := by
  obtain ⟨a1, b1⟩ := h1
  obtain ⟨a2, b2⟩ := h2
  refine ⟨by omega, ?_⟩
  rw [show k2 - k = (k1 - k) + (k2 - k1) by omega, tyA_add, tyA_congr (st' := st) (k1 - k) (fun i h1 h2 => e i (by omega)), b1]
  show tyA st' (k + (k1 - k)) ts1 (k2 - k1) = _
  rw [show k + (k1 - k) = k1 by omega]
  exact b2
theorem Ty.one {st : Nat → Nat} {k s : Nat} {ts ts' : List Bool} (h : tyA1 s ts = some ts') : Ty (su st k s) k ts (k + 1) ts' := by
  refine ⟨by omega, ?_⟩
  rw [show k + 1 - k = 0 + 1 by omega]
  show (some ts).bind (tyA1 (su st k s (k + 0))) = _
  rw [Nat.add_zero, su_at]
  exact h
/-- both, in a condition: k steps so far, d deep -/
def LSt (c : Nat) (B : Nat → Nat) (μ0 ν0 : Mem) (st : Nat → Nat) (k d : Nat) (μ ν : Mem) (a p : Nat) : Prop := RT c B μ0 ν0 μ ν a p ∧ Em st k μ ν ∧ ν 264 13 = nI d ∧ K12 ν0 ν ∧ ∃ y, y ≤ 12 ∧ μ 56 1 = nI y
def CP (c : Nat) (B : Nat → Nat) (μ0 ν0 : Mem) (st : Nat → Nat) (k : Nat) (ts ts' : List Bool) (d a : Nat) (μ ν μ' : Mem) (q : Bool × Mem) : Prop := (q.1 = true ∧ ∃ st' k' a' p', LSt c B μ0 ν0 st' k' d μ' q.2 a' p' ∧ (∀ i, i < k → st' i = st i) ∧ Ty st' k ts k' ts' ∧ k' + a ≤ k + a' ∧ EfL μ μ' ∧ EgL ν q.2) ∨ (q.1 = false ∧ ∃ w, Cq c μ0 μ' w ∧ Mb ν0 q.2 ∧ q.2 264 12 = nI w ∧ K12 ν0 q.2)
section Ls
variable {α β : Type} {c : Nat} {B : Nat → Nat} {μ0 ν0 μ ν μ' ν' : Mem} {st st1 : Nat → Nat} {k k1 d a a1 p w : Nat} {ts ts1 ts2 : List Bool} {P : α → β → Prop}
theorem Em.fr (h : Em st k μ ν) (h1 : μ' 56 = μ 56) (h2 : μ' 61 = μ 61) (h3 : ν' 264 16 = ν 264 16) (h4 : ν' 265 = ν 265) : Em st k μ' ν' := by
  unfold Em
  rw [h1, h2, h3, h4]
  exact h
theorem LSt.tok (h : LSt c B μ0 ν0 st k d μ ν a p) {a' p' : Nat} (hr : RT c B μ0 ν0 μ' ν' a' p') (e : Ef μ μ') (g : Eg ν ν') : LSt c B μ0 ν0 st k d μ' ν' a' p' := by
  obtain ⟨h1, h2, h3, h4, h5⟩ := h
  refine ⟨hr, h2.fr (e 56 (by decide)) (e 61 (by decide)) (g.2 16 (by decide) (by decide)) (g.1 265 (by decide)), by rw [g.2 13 (by decide) (by decide)]; exact h3, h4.egl g.L, by rw [e 56 (by decide)]; exact h5⟩
theorem LSt.sf (h : LSt c B μ0 ν0 st k d μ ν a p) (hk : k ≤ 400) : Sf μ := ⟨⟨k, hk, h.2.1.1⟩, h.2.2.2.2⟩
theorem LSt.rf (h : LSt c B μ0 ν0 st k d μ ν a p) (hk : k ≤ 400) (hw : w ≤ c) : Cq c μ0 (mset μ 1 4 (nI w)) w := ⟨h.1.1.rf hw, (h.sf hk).ef ef4⟩
theorem CP.no (h1 : Cq c μ0 μ' w) (h2 : Mb ν0 ν') (h3 : ν' 264 12 = nI w) (h4 : K12 ν0 ν') : CP c B μ0 ν0 st k ts ts1 d a μ ν μ' (false, ν') := Or.inr ⟨rfl, w, h1, h2, h3, h4⟩
theorem CP.trans {μ1 ν1 μ2 : Mem} {q2 : Bool × Mem} (hs : ∀ i, i < k → st1 i = st i) (ht : Ty st1 k ts k1 ts1) (hk : k1 + a ≤ k + a1) (e : EfL μ μ1) (g : EgL ν ν1) (h : CP c B μ0 ν0 st1 k1 ts1 ts2 d a1 μ1 ν1 μ2 q2) : CP c B μ0 ν0 st k ts ts2 d a μ ν μ2 q2 := by
  rcases h with ⟨h0, st', k', a', p', h1, h2, h3, h4, h5, h6⟩ | h
  · exact Or.inl ⟨h0, st', k', a', p', h1, fun i hi => (h2 i (by have := ht.1; omega)).trans (hs i hi), ht.trans h3 h2, by omega, e.trans h5, g.trans h6⟩
  · exact Or.inr h
/-- a step is written down -/
theorem X4_add (h : Em st k μ ν) (hk : k < 400) (v : Int32) : f_X4_addStep μ 56 v = some (mset (mset μ 61 k v) 56 2 (nI (k + 1))) := by
  unfold f_X4_addStep f_X4_addStep_j30
  rw [h.1]
  refine ie (nI_ge (b := 400) hk (by decide)) (bs (wr_nI hk (by decide)) ?_)
  rw [mset_ne (show 56 ≠ 56 + 5 by decide), h.1, nI_1]
def emM (ν : Mem) (k : Nat) (s n : Int32) : Mem := mset (mset (mset ν 265 (1268 + 2 * k) s) 265 (1268 + 2 * k + 1) n) 264 16 (nI (k + 1))
theorem X12_emits (h : ν 264 16 = nI k) (hk : k < 400) (s n : Int32) : f_X12_emits ν s n = some (emM ν k s n) := by
  unfold f_X12_emits emM
  have e : ∀ {μ : Mem}, μ 264 16 = nI k → (1268 : Int32) + 2 * (μ 264 16) = nI (1268 + 2 * k) := fun {μ} h => by
    rw [h, show (1268 : Int32) = nI 1268 from rfl, show (2 : Int32) = nI 2 from rfl, pk_mul, nI_add]
  rw [e h]
  refine bs (wr_nI (by omega) (by decide)) ?_
  have h2 : mset ν 265 (1268 + 2 * k) s 264 16 = nI k := by rw [mset_ne (by decide)]; exact h
  rw [e h2, nI_1]
  refine bs (wr_nI (by omega) (by decide)) ?_
  rw [mset_ne (show 264 ≠ 265 by decide), h2, nI_1]
theorem emM_egl {s n : Int32} : EgL ν (emM ν k s n) := ⟨fun b h1 h2 => by unfold emM; rw [mset_ne h1, mset_ne h2, mset_ne h2], fun j hj => by unfold emM; rw [mset_ne (by decide), mset_atn (by omega), mset_atn (by omega)]⟩
theorem emM_i {s n : Int32} {i : Nat} (h : i ≠ 16) : emM ν k s n 264 i = ν 264 i := by unfold emM; rw [mset_atn h, mset_ne (by decide), mset_ne (by decide)]
theorem emM_mb {s n : Int32} (h : Mb ν0 ν) : Mb ν0 (emM ν k s n) := ⟨fun b h1 h2 => by unfold emM; rw [mset_ne h1, mset_ne h2, mset_ne h2]; exact h.1 b h1 h2, fun i h1 h2 h3 h4 => by rw [emM_i h4]; exact h.2 i h1 h2 h3 h4⟩
def adC (μ : Mem) (k : Nat) (v : Int32) : Mem := mset (mset μ 61 k v) 56 2 (nI (k + 1))
theorem adC_efl {v : Int32} : EfL μ (adC μ k v) := ⟨fun b _ h2 h3 => by unfold adC; rw [mset_ne h2, mset_ne h3], fun i hi => by unfold adC; rw [mset_atn hi, mset_ne (by decide)]⟩
theorem LSt.emit (h : LSt c B μ0 ν0 st k d μ ν a p) {s : Nat} {v x y : Int32} (ev : v = nI s) (ex : x = nI (mst s)) (ey : y = nI (mnu s)) : LSt c B μ0 ν0 (su st k s) (k + 1) d (adC μ k v) (emM ν k x y) a p := by
  obtain ⟨⟨⟨⟨c1, c2⟩, c3, c4, c5, c6⟩, m1, m2, m3, m4⟩, ⟨e1, e2, e3, e4⟩, h3, h4, h5⟩ := h
  subst ev ex ey
  have a1 : adC μ k (nI s) 1 = μ 1 := by unfold adC; rw [mset_ne (by decide), mset_ne (by decide)]
  have a2 : adC μ k (nI s) 56 2 = nI (k + 1) := mset_at
  have a3 : emM ν k (nI (mst s)) (nI (mnu s)) 264 16 = nI (k + 1) := mset_at
  refine ⟨⟨⟨⟨fun b hb => ?_, fun i i3 i4 => by rw [a1]; exact c2 i i3 i4⟩, by rw [a1]; exact c3, c4, by rw [a1]; exact c5, c6⟩, emM_mb m1, by rw [emM_i (by decide)]; exact m2, m3, m4⟩, ⟨a2, a3, fun i hi => ?_, fun i hi => ?_⟩, by rw [emM_i (by decide)]; exact h3, h4.egl emM_egl, ?_⟩
  · unfold adC
    unfold cS at hb
    rw [mset_ne (by omega), mset_ne (by omega)]
    exact c1 b (by unfold cS; omega)
  · unfold adC
    rw [mset_ne (by decide)]
    by_cases e : i = k
    · subst e; rw [mset_at, su_at]
    · rw [mset_atn e, su_n e]; exact e3 i (by omega)
  · unfold emM
    by_cases e : i = k
    · subst e
      rw [su_at, mset_ne (by decide)]
      exact ⟨by rw [mset_atn (by omega), mset_at], mset_at⟩
    · rw [su_n e, mset_ne (by decide)]
      exact ⟨by rw [mset_atn (by omega), mset_atn (by omega)]; exact (e4 i (by omega)).1, by rw [mset_atn (by omega), mset_atn (by omega)]; exact (e4 i (by omega)).2⟩
  · obtain ⟨y, hy, e⟩ := h5
    exact ⟨y, hy, by rw [adC_efl.2 1 (by decide)]; exact e⟩
/-- .. by both, at the end of something -/
theorem S_emit (h : LSt c B μ0 ν0 st k d μ ν a p) (hk : k < 400) {s : Nat} {v x y : Int32} (ev : v = nI s) (ex : x = nI (mst s)) (ey : y = nI (mnu s)) (ht : tyA1 s ts = some ts1) {kc : Mem → Option α} {km : Mem → Option β} (g : LSt c B μ0 ν0 (su st k s) (k + 1) d (adC μ k v) (emM ν k x y) a p → Ty (su st k s) k ts (k + 1) ts1 → Sim (kc (adC μ k v)) (km (emM ν k x y)) P) : Sim (Option.bind (f_X4_addStep μ 56 v) kc) (Option.bind (f_X12_emits ν x y) km) P := Sim.l (X4_add h.2.1 hk v) (Sim.r (X12_emits h.2.1.2.1 hk x y) (g (h.emit ev ex ey) (Ty.one ht)))
/-! the class runs on -/
theorem aW (h : Cq c μ0 μ w) {v : Int32} {kc : Mem → Option α} {Q : α → Prop} (g : ∀ μ', Cq c μ0 μ' w → Ok (kc μ') Q) : Ok (Option.bind (f_X4_addStep μ 56 v) kc) Q := by
  obtain ⟨⟨⟨h1, h2⟩, ⟨a, h3, h4⟩, h5, h6⟩, ⟨x, hx, e⟩, h8⟩ := h
  unfold f_X4_addStep f_X4_addStep_j30
  rw [e]
  by_cases q : 400 ≤ x
  · rw [if_pos (show (400 : Int32) ≤ nI x from nI_le (a := 400) q (by omega))]
    exact Ok.s rfl (g μ ⟨⟨⟨h1, h2⟩, ⟨a, h3, h4⟩, h5, h6⟩, ⟨x, hx, e⟩, h8⟩)
  · rw [if_neg (show ¬ (400 : Int32) ≤ nI x from nI_ge (b := 400) (by omega) (by decide))]
    refine Ok.s (bs (wr_nI (by omega) (by decide)) rfl) ?_
    rw [mset_ne (show 56 ≠ 56 + 5 by decide), e, nI_1]
    have a1 : mset (mset μ (56 + 5) x v) 56 2 (nI (x + 1)) 1 = μ 1 := by rw [mset_ne (by decide), mset_ne (by decide)]
    refine g _ ⟨⟨⟨fun b hb => ?_, fun i i3 i4 => by rw [a1]; exact h2 i i3 i4⟩, ⟨a, h3, by rw [a1]; exact h4⟩, by rw [a1]; exact h5, h6⟩, ⟨x + 1, by omega, mset_at⟩, ?_⟩
    · unfold cS at hb
      rw [mset_ne (by omega), mset_ne (by omega)]
      exact h1 b (by unfold cS; omega)
    · obtain ⟨y, hy, e2⟩ := h8
      exact ⟨y, hy, by rw [mset_atn (by decide), mset_ne (by decide)]; exact e2⟩
theorem qN (H : Tb c B μ0 ν0) (h : Cq c μ0 μ w) {lo hi : Int32} {kc : Int32 × Mem → Option α} {Q : α → Prop} (g : ∀ (x : Int32) (μ' : Mem), Cq c μ0 μ' w → Ok (kc (x, μ')) Q) : Ok (Option.bind (f_X8_takeNumber μ lo hi) kc) Q := wN H h.1 fun x μ1 h1 e => g x μ1 ⟨h1, h.2.ef e⟩
theorem qT (H : Tb c B μ0 ν0) (h : Cq c μ0 μ w) {s : Nat} {kc : Bool × Mem → Option α} {Q : α → Prop} (g : Ok (kc (false, μ)) Q) : Ok (Option.bind (f_X8_takesWord μ s) kc) Q := wT H h.1 g
theorem qS (H : Tb c B μ0 ν0) (h : Cq c μ0 μ w) {s : Int32} {kc : Bool × Mem → Option α} {Q : α → Prop} (g : Ok (kc (false, μ)) Q) : Ok (Option.bind (f_X8_takesSign μ s) kc) Q := Ok.s (X8_signW H h.1 s) g
theorem qW (H : Tb c B μ0 ν0) (h : Cq c μ0 μ w) {s : Nat} {kc : Mem → Option α} {Q : α → Prop} (g : Ok (kc μ) Q) : Ok (Option.bind (f_X8_needWord μ s) kc) Q := wW H h.1 g
theorem q_part (H : Tb c B μ0 ν0) (h : Cq c μ0 μ w) : Ok (f_X5_readPart μ) (fun μ' => Cq c μ0 μ' w) := by
  obtain ⟨a, hac, ha⟩ := h.1.2.1
  unfold f_X5_readPart f_X5_readPart_j220 f_X8_isAtNumber
  rw [show f_X8_runOf μ 48 57 = some (nI (run c B 48 57 a - a)) from X8_run H h.1.1 ha hac (lo := 48) (hi := 57) (by decide) (by decide), sb9, sb9]
  by_cases q : (if nI (run c B 48 57 a - a) ≤ 0 then (false : Bool) else true) = true
  · rw [if_pos q]
    exact qN H h fun x m h1 => aW h1 fun m h2 => Ok.r h2
  · rw [if_neg q]
    exact qT H h (Ok.e fnt (qT H h (Ok.e fnt (qT H h (Ok.e fnt (qT H h (Ok.e fnt (qT H h (Ok.e fnt (qT H h (Ok.e fnt (qT H h (Ok.e fnt (Ok.s (X8_refuseW H h.1 _) (Ok.r h)))))))))))))))
theorem q_sum (H : Tb c B μ0 ν0) (h : Cq c μ0 μ w) : Ok (f_X5_readSum μ) (fun μ' => Cq c μ0 μ' w) := by
  unfold f_X5_readSum f_X5_readSum_l6
  refine (q_part H h).b fun m hm => ?_
  refine Ok.loop (fun j z => j = 0 ∧ z = (0, m)) (fun t => t = m) 0 (by decide) ⟨rfl, rfl⟩ (fun j z hj hI => ?_) (fun t ht => by rw [ht]; exact Ok.r hm)
  obtain ⟨-, rfl⟩ := hI
  show Ok (f_X5_readSum_b6 m 0) _
  unfold f_X5_readSum_b6
  exact Ok.e (by decide) (qS H hm (Ok.e fnt (Ok.d rfl)))
theorem q_cmp (H : Tb c B μ0 ν0) (h : Cq c μ0 μ w) : Ok (f_X5_readComparison μ) (fun μ' => Cq c μ0 μ' w) := by
  unfold f_X5_readComparison f_X5_readComparison_j56
  refine (q_sum H h).b fun m hm => ?_
  refine qS H hm (Ok.e fnt (Ok.s (X8_needSW H hm.1 _) ?_))
  refine (q_sum H hm).b fun m2 hm2 => ?_
  exact aW hm2 fun m3 h3 => Ok.r h3
/-- an atom, when the text is wrong already -/
def AtW (c : Nat) (μ0 : Mem) (rA : Mem → Int32 → Option Mem) : Prop := ∀ (μ : Mem) (w : Nat) (d : Int32), Cq c μ0 μ w → Ok (rA μ d) (fun μ' => Cq c μ0 μ' w)
theorem q_atom (H : Tb c B μ0 ν0) (k : Nat) : AtW c μ0 (f_X5_readAtom (k + 1)) := fun μ w d h => by
  show Ok (f_X5_readAtom_body (f_X5_readAtom k) μ d) _
  unfold f_X5_readAtom_body f_X5_readAtom_body_j155
  exact qT H h (Ok.e fnt (qS H h (Ok.e fnt (qT H h (Ok.e fnt (qT H h (Ok.e fnt ((q_cmp H h).b fun m hm => Ok.r hm))))))))
theorem q_each (H : Tb c B μ0 ν0) {rA : Mem → Int32 → Option Mem} (hA : AtW c μ0 rA) (h : Cq c μ0 μ w) (d : Int32) : Ok (f_X5_readEach rA μ d) (fun μ' => Cq c μ0 μ' w) := by
  unfold f_X5_readEach f_X5_readEach_l7
  refine (hA μ w d h).b fun m hm => ?_
  refine Ok.loop (fun j z => j = 0 ∧ z = (0, m)) (fun t => t = m) 0 (by decide) ⟨rfl, rfl⟩ (fun j z hj hI => ?_) (fun t ht => by rw [ht]; exact Ok.r hm)
  obtain ⟨-, rfl⟩ := hI
  show Ok (f_X5_readEach_b7 rA m d 0) _
  unfold f_X5_readEach_b7
  exact Ok.e (by decide) (qT H hm (Ok.e fnt (Ok.d rfl)))
theorem q_any (H : Tb c B μ0 ν0) {rA : Mem → Int32 → Option Mem} (hA : AtW c μ0 rA) (h : Cq c μ0 μ w) (d : Int32) : Ok (f_X5_readAny rA μ d) (fun μ' => Cq c μ0 μ' w) := by
  unfold f_X5_readAny f_X5_readAny_l7
  refine (q_each H hA h d).b fun m hm => ?_
  refine Ok.loop (fun j z => j = 0 ∧ z = (0, m)) (fun t => t = m) 0 (by decide) ⟨rfl, rfl⟩ (fun j z hj hI => ?_) (fun t ht => by rw [ht]; exact Ok.r hm)
  obtain ⟨-, rfl⟩ := hI
  show Ok (f_X5_readAny_b7 rA m d 0) _
  unfold f_X5_readAny_b7
  exact Ok.e (by decide) (qT H hm (Ok.e fnt (Ok.d rfl)))
end Ls
