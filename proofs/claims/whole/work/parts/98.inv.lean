/-! WHAT STANDS BETWEEN TWO CALLS -/
def IvI (b : Bool) (n : Nat) (f : Int32) (L : Ld) (T : Tx) (μ : Mem) : Prop := ImC μ b n f L T ∧ ImM μ b n f L T ∧ (b = true → WF n L ∧ WT T)
def IvT (c : Nat) (B : Nat → Nat) (μ : Mem) : Prop := c ≤ 400 ∧ (∀ i, B i < 256) ∧ TpC μ c B ∧ TpM μ c B
def IvX (μ : Mem) : Prop := μ 72 1 = nI 14 ∧ μ 73 1 = nI 12 ∧ μ 1 4 = μ 264 14
def IvS (μ : Mem) : Prop := ∃ n f L T r R, SR n f L T r R μ
def Inv (μ : Mem) : Prop := IvS μ ∧ (∃ b n f L T, IvI b n f L T μ) ∧ (∃ c B, IvT c B μ) ∧ IvX μ
section Iv
variable {μ ν : Mem} {n c r t : Nat} {f : Int32} {L : Ld} {T : Tx} {R : Nat → Rec9} {b : Bool} {B : Nat → Nat}
theorem IvI.fr (h : IvI b n f L T μ) (h0 : ν 0 13 = μ 0 13) (h1 : ∀ k, 33 ≤ k → k ≤ 47 → ν k = μ k) (h2 : ∀ k, 64 ≤ k → k ≤ 69 → ν k = μ k) (h6 : ν 264 6 = μ 264 6) (h66 : ν 266 = μ 266) : IvI b n f L T ν := by
  obtain ⟨⟨a1, a2⟩, ⟨b1, b2⟩, b3⟩ := h
  refine ⟨⟨by rw [h0]; exact a1, fun q => ⟨(a2 q).1.fr fun j hj => h1 _ (by omega) (by omega), (a2 q).2.fr fun j hj => h2 _ (by omega) (by omega)⟩⟩, ⟨by rw [h6]; exact b1, fun q => by rw [h66]; exact b2 q⟩, b3⟩
theorem IvT.fr (h : IvT c B μ) (h1 : ν 1 1 = μ 1 1) (h2 : ν 2 = μ 2) (h3 : ν 264 9 = μ 264 9) (h4 : ν 270 = μ 270) : IvT c B ν := by
  obtain ⟨a1, a2, ⟨a3, a4⟩, a5, a6⟩ := h
  exact ⟨a1, a2, ⟨by rw [h1]; exact a3, by rw [h2]; exact a4⟩, by rw [h3]; exact a5, by rw [h4]; exact a6⟩
theorem IvX.fr (h : IvX μ) (h1 : ν 72 = μ 72) (h2 : ν 73 = μ 73) (h3 : ν 1 4 = μ 1 4) (h4 : ν 264 14 = μ 264 14) : IvX ν := by
  unfold IvX
  rw [h1, h2, h3, h4]
  exact h
theorem SR.fr (h : SR n f L T r R μ) (h1 : St n f L T ν) (h2 : ∀ k, 74 ≤ k → k ≤ 255 → ν k = μ k) (h7 : ν 264 7 = μ 264 7) (h9 : ν 269 = μ 269) : SR n f L T r R ν := ⟨h1, h.2.1.fr h2, h.2.2.1.fr h7 h9, h.2.2.2⟩
theorem Inv.kc (h : Inv μ) (k : KC μ ν) : Inv ν := by
  obtain ⟨⟨n, f, L, T, r, R, h1⟩, ⟨b, n2, f2, L2, T2, h2⟩, ⟨c, B, h3⟩, h4⟩ := h
  have e : ∀ j, ¬ scC j → ν j = μ j := k
  have e1 : ν 1 = μ 1 := e 1 (by unfold scC; omega)
  have e64 : ν 264 = μ 264 := e 264 (by unfold scC; omega)
  refine ⟨⟨n, f, L, T, r, R, h1.fr (h1.1.kc k) (fun j a1 a2 => e j (by unfold scC; omega)) (by rw [e64]) (e 269 (by unfold scC; omega))⟩, ⟨b, n2, f2, L2, T2, h2.fr (by rw [e 0 (by unfold scC; omega)]) (fun j a1 a2 => e j (by unfold scC; omega)) (fun j a1 a2 => e j (by unfold scC; omega)) (by rw [e64]) (e 266 (by unfold scC; omega))⟩, ⟨c, B, h3.fr (by rw [e1]) (e 2 (by unfold scC; omega)) (by rw [e64]) (e 270 (by unfold scC; omega))⟩, h4.fr (e 72 (by unfold scC; omega)) (e 73 (by unfold scC; omega)) (by rw [e1]) (by rw [e64])⟩
theorem Inv.km (h : Inv μ) (k : KM μ ν) : Inv ν := by
  obtain ⟨⟨n, f, L, T, r, R, h1⟩, ⟨b, n2, f2, L2, T2, h2⟩, ⟨c, B, h3⟩, h4⟩ := h
  have e : ∀ j, ¬ scM j → ν j = μ j := k.1
  have e1 : ν 1 = μ 1 := e 1 (by unfold scM; omega)
  refine ⟨⟨n, f, L, T, r, R, h1.fr (h1.1.km k) (fun j a1 a2 => e j (by unfold scM; omega)) (k.2 7 (by omega)) (e 269 (by unfold scM; omega))⟩, ⟨b, n2, f2, L2, T2, h2.fr (by rw [e 0 (by unfold scM; omega)]) (fun j a1 a2 => e j (by unfold scM; omega)) (fun j a1 a2 => e j (by unfold scM; omega)) (k.2 6 (by omega)) (e 266 (by unfold scM; omega))⟩, ⟨c, B, h3.fr (by rw [e1]) (e 2 (by unfold scM; omega)) (k.2 9 (by omega)) (e 270 (by unfold scM; omega))⟩, h4.fr (e 72 (by unfold scM; omega)) (e 73 (by unfold scM; omega)) (by rw [e1]) (k.2 14 (by omega))⟩
/-- a call that may throw, by both -/
def Arm (o : Option (Int32 × Mem)) (m : Mem → Option (Int32 × Mem)) : Prop := Ok o (fun q => Ok (m q.2) (fun x => x.2 264 0 = q.1 ∧ (q.1 = 0 → x.1 = q.2 275 0) ∧ x.2 275 = q.2 275 ∧ Inv x.2))
theorem armF {q x : Int32 × Mem} (h : x.2 264 0 = q.1 ∧ (q.1 = 0 → x.1 = q.2 275 0) ∧ x.2 275 = q.2 275 ∧ Inv x.2) {o1 o2 : Option Mem} (e1 : o1 = some x.2) (e2 : o2 = some x.2) : Ok (Option.bind (f_X12_thrown x.2) fun t7 => if t7 = q.1 then (if q.1 = 0 then Option.bind (rd x.2 275 1 0) fun t8 => if (if (Int32.toInt64 x.1) < (Int32.toInt64 t8) then (1 : Int) else if (Int32.toInt64 t8) = (Int32.toInt64 x.1) then 0 else -1) = 0 then o1 else none else o2) else none) Inv := by
  obtain ⟨h1, h2, h3, h4⟩ := h
  subst e1 e2
  unfold f_X12_thrown
  refine Ok.s rfl (Ok.t h1 ?_)
  by_cases c : q.1 = 0
  · refine Ok.t c (Ok.s (a := x.1) (by rw [rd_k (k := 0) 0 rfl (by decide) (by decide), h3, h2 c]) ?_)
    refine Ok.t ?_ (Ok.r h4)
    rw [if_neg Int64.lt_irrefl, if_pos rfl]
  · exact Ok.e c (Ok.r h4)
theorem armQ {o : Option (Int32 × Mem)} {m : Mem → Option (Int32 × Mem)} (hI : Inv μ) (h : AgQ μ o m) : Arm o m := by
  obtain ⟨c, v, h1, h2⟩ := h
  refine h1.w fun q hq => ?_
  obtain ⟨rfl, q2, q3⟩ := hq
  refine (h2 q.2 q3).w fun x hx => ?_
  obtain ⟨x1, x2, x3, x4⟩ := hx
  exact ⟨x1, fun e => (x2 e).trans (q2 e).symm, x3, (hI.kc q3).km x4⟩
theorem Inv.sr (h : Inv μ) : ∃ n f L T r R, SR n f L T r R μ := h.1
/-- acts -/
theorem armM {o : Option (Int32 × Mem)} {m : Mem → Option (Int32 × Mem)} (hI : Inv μ) (hS : SR n f L T r R μ) (h : AgM (T 0 0) μ o m) : Arm o m := by
  obtain ⟨c, v, n', f', L', r', R', w1, w2, h1, h2⟩ := h
  obtain ⟨-, ⟨b, n2, f2, L2, T2, hi⟩, ⟨c9, B9, ht⟩, hx⟩ := hI
  refine h1.w fun q hq => ?_
  obtain ⟨rfl, q2, q3, q4, q5⟩ := hq
  refine (h2 q.2 q5).w fun x hx9 => ?_
  obtain ⟨x1, x2, x3, x4, x5, x6, x7⟩ := hx9
  have eC : ∀ j, ¬ cM j → q.2 j = μ j := q5
  have eM : ∀ j, ¬ mM j → x.2 j = q.2 j := x6.1
  have ex : ∀ j, ¬ mM j → ¬ cM j → x.2 j = μ j := fun j a1 a2 => (eM j a1).trans (eC j a2)
  have l1 : x.2 1 = μ 1 := ex 1 (by unfold mM scM; omega) (by unfold cM scC sA sR; omega)
  have e64 : q.2 264 = μ 264 := eC 264 (by unfold cM scC sA sR; omega)
  have e65 : q.2 265 = μ 265 := eC 265 (by unfold cM scC sA sR; omega)
  have kp : ∀ i, i = 6 ∨ i = 9 ∨ i = 14 → x.2 264 i = μ 264 i := fun i hi => by rw [x7 i hi, e64]
  have st : St n' f' L' T x.2 := by
    refine ⟨q3.fr fun j hj => eM _ (by unfold mM scM; omega), x4, w1, hS.1.lc.fr fun j hj => ex _ (by unfold mM scM; omega) (by unfold cM scC sA sR; omega), ?_, hS.1.wt⟩
    refine hS.1.lm.fr ?_ (fun j hj => ?_)
    · rw [x6.2.1, e65]
    · rw [x6.2.2 j hj, e65]
  refine ⟨x1, fun e => (x2 e).trans (q2 e).symm, x3, ⟨n', f', L', T, r', R', st, q4.fr fun j a1 a2 => eM j (by unfold mM scM; omega), x5, w2⟩, ⟨b, n2, f2, L2, T2, hi.fr ?_ (fun j a1 a2 => ex j (by unfold mM scM; omega) (by unfold cM scC sA sR; omega)) (fun j a1 a2 => ex j (by unfold mM scM; omega) (by unfold cM scC sA sR; omega)) (kp 6 (by omega)) (ex 266 (by unfold mM scM; omega) (by unfold cM scC sA sR; omega))⟩, ⟨c9, B9, ht.fr (by rw [l1]) (ex 2 (by unfold mM scM; omega) (by unfold cM scC sA sR; omega)) (kp 9 (by omega)) (ex 270 (by unfold mM scM; omega) (by unfold cM scC sA sR; omega))⟩, hx.fr (ex 72 (by unfold mM scM; omega) (by unfold cM scC sA sR; omega)) (ex 73 (by unfold mM scM; omega) (by unfold cM scC sA sR; omega)) (by rw [l1]) (kp 14 (by omega))⟩
  rw [ex 0 (by unfold mM scM; omega) (by unfold cM scC sA sR; omega)]
/-- calls that use the tape up -/
theorem armU {o : Option (Int32 × Mem)} {m : Mem → Option (Int32 × Mem)} (hI : Inv μ) (h : AgU μ o m) : Arm o m := by
  obtain ⟨c, v, h1, h2⟩ := h
  obtain ⟨⟨n, f, L, T, r, R, hS⟩, ⟨b, n2, f2, L2, T2, hi⟩, ⟨c9, B9, ht⟩, hx⟩ := hI
  refine h1.w fun q hq => ?_
  obtain ⟨rfl, q2, q3⟩ := hq
  refine (h2 q.2 q3).w fun x hx9 => ?_
  obtain ⟨x1, x2, x3, x4⟩ := hx9
  have eC : ∀ j, ¬ scC j → j ≠ 1 → q.2 j = μ j := fun j a1 a2 => q3.1 j (fun w => w.elim a1 a2)
  have eM : ∀ j, ¬ scM j → x.2 j = q.2 j := x4.1
  have ex : ∀ j, ¬ scM j → ¬ scC j → j ≠ 1 → x.2 j = μ j := fun j a1 a2 a3 => (eM j a1).trans (eC j a2 a3)
  have e64 : q.2 264 = μ 264 := eC 264 (by unfold scC; omega) (by decide)
  have l1 : x.2 1 = q.2 1 := eM 1 (by unfold scM; omega)
  have kp : ∀ i, i = 6 ∨ i = 7 ∨ i = 14 → x.2 264 i = μ 264 i := fun i hi => by rw [x4.2.1 i hi, e64]
  have o65 : x.2 265 = μ 265 := ex 265 (by unfold scM; omega) (by unfold scC; omega) (by decide)
  have st : St n f L T x.2 := by
    refine ⟨hS.1.c.fr fun j hj => ex _ (by unfold scM; omega) (by unfold scC; omega) (by omega), by rw [o65]; exact hS.1.m, hS.1.w, hS.1.lc.fr fun j hj => ex _ (by unfold scM; omega) (by unfold scC; omega) (by omega), by rw [o65]; exact hS.1.lm, hS.1.wt⟩
  refine ⟨x1, fun e => (x2 e).trans (q2 e).symm, x3, ⟨n, f, L, T, r, R, hS.fr st (fun j a1 a2 => ex j (by unfold scM; omega) (by unfold scC; omega) (by omega)) (kp 7 (by omega)) (ex 269 (by unfold scM; omega) (by unfold scC; omega) (by decide))⟩, ⟨b, n2, f2, L2, T2, hi.fr (by rw [ex 0 (by unfold scM; omega) (by unfold scC; omega) (by decide)]) (fun j a1 a2 => ex j (by unfold scM; omega) (by unfold scC; omega) (by omega)) (fun j a1 a2 => ex j (by unfold scM; omega) (by unfold scC; omega) (by omega)) (kp 6 (by omega)) (ex 266 (by unfold scM; omega) (by unfold scC; omega) (by decide))⟩, ⟨0, B9, by decide, ht.2.1, ⟨by rw [l1]; exact q3.2.1, fun i hi => absurd hi (by omega)⟩, x4.2.2, fun i hi => absurd hi (by omega)⟩, hx.fr (ex 72 (by unfold scM; omega) (by unfold scC; omega) (by decide)) (ex 73 (by unfold scM; omega) (by unfold scC; omega) (by decide)) (by rw [l1]; exact q3.2.2 4 (by decide)) (kp 14 (by omega))⟩
/-- an answer alone -/
theorem armN {o : Option Int32} {m : Option (Int32 × Mem)} (hI : Inv μ) (h : AgN μ o m) : Ok (Option.bind o fun t1 => Option.bind m fun q2 => if t1 = q2.1 then some q2.2 else none) Inv := by
  obtain ⟨v, e, h2⟩ := h
  refine Ok.s e (h2.b fun q hq => ?_)
  exact Ok.t hq.1.symm (Ok.r (hI.km hq.2))
theorem armD {o : Option (Int32 × Mem)} {m : Mem → Option (Int32 × Mem)} (hI : Inv μ) (h : AgD μ o m) : Ok o (fun q => Ok (m q.2) (fun x => q.1 = x.1 ∧ Inv x.2)) := by
  obtain ⟨v, h1, h2⟩ := h
  refine h1.w fun q hq => (h2 q.2 hq.2).w fun x hx => ⟨hq.1.trans hx.1.symm, (hI.kc hq.2).km hx.2⟩
theorem Inv.cnt (h : Inv μ) : μ 74 2 = μ 264 7 := by
  obtain ⟨⟨n, f, L, T, r, R, hS⟩, -⟩ := h
  rw [hS.2.1.2.1, hS.2.2.1.2.1]
end Iv
