/-! THE CALLS OF THEIR OWN KIND -/
section Aq
variable {μ ν : Mem} {n c r t : Nat} {f : Int32} {L : Ld} {T : Tx} {R : Nat → Rec9} {b : Bool} {B : Nat → Nat}
theorem tapeInv {ν' : Mem} (hI : Inv μ) (h1 : PC μ c B ν) (h2 : PM ν c B ν') (hc : c ≤ 400) (hb : ∀ i, B i < 256) : Inv ν' := by
  obtain ⟨⟨n, f, L, T, r, R, hS⟩, ⟨b, n2, f2, L2, T2, hi⟩, -, hx⟩ := hI
  obtain ⟨p1, p2, p3⟩ := h1
  obtain ⟨m1, m2, m3⟩ := h2
  have ex : ∀ j, j ≠ 1 → j ≠ 2 → j ≠ 264 → j ≠ 270 → j ≠ 271 → ν' j = μ j := fun j a1 a2 a3 a4 a5 => (m2 j (by unfold sFm; omega)).trans (p2 j (by unfold sF; omega))
  have e64 : ν 264 = μ 264 := p2 264 (by unfold sF; omega)
  have l1 : ν' 1 = ν 1 := m2 1 (by unfold sFm; omega)
  have kp : ∀ i, i ≠ 0 → i ≠ 9 → ν' 264 i = μ 264 i := fun i a1 a2 => by rw [m3 i a1 a2, e64]
  have o65 := ex 265 (by decide) (by decide) (by decide) (by decide) (by decide)
  have st : St n f L T ν' := ⟨hS.1.c.fr fun j hj => ex _ (by omega) (by omega) (by omega) (by omega) (by omega), by rw [o65]; exact hS.1.m, hS.1.w, hS.1.lc.fr fun j hj => ex _ (by omega) (by omega) (by omega) (by omega) (by omega), by rw [o65]; exact hS.1.lm, hS.1.wt⟩
  exact ⟨⟨n, f, L, T, r, R, hS.fr st (fun j a1 a2 => ex j (by omega) (by omega) (by omega) (by omega) (by omega)) (kp 7 (by decide) (by decide)) (ex 269 (by decide) (by decide) (by decide) (by decide) (by decide))⟩, ⟨b, n2, f2, L2, T2, hi.fr (by rw [ex 0 (by decide) (by decide) (by decide) (by decide) (by decide)]) (fun j a1 a2 => ex j (by omega) (by omega) (by omega) (by omega) (by omega)) (fun j a1 a2 => ex j (by omega) (by omega) (by omega) (by omega) (by omega)) (kp 6 (by decide) (by decide)) (ex 266 (by decide) (by decide) (by decide) (by decide) (by decide))⟩, ⟨c, B, hc, hb, ⟨by rw [l1]; exact p1.1, by rw [m2 2 (by unfold sFm; omega)]; exact p1.2⟩, m1⟩, hx.fr (ex 72 (by decide) (by decide) (by decide) (by decide) (by decide)) (ex 73 (by decide) (by decide) (by decide) (by decide) (by decide)) (by rw [l1]; exact p3 4 (by decide)) (kp 14 (by decide) (by decide))⟩
theorem c_feed (hI : Inv μ) (p1 p2 p3 p4 p5 : Int32) : Ok (f_X11_feed μ p1 p2 p3 p4 p5) (fun q => Ok (f_X12_feed q.2 p1 p2 p3 p4 p5) (fun x => q.1 = x.1 ∧ Inv x.2)) := by
  obtain ⟨c, B, t1, t2, t3, t4⟩ := hI.2.2.1
  obtain ⟨v, c', B', a1, a2, a3, a4⟩ := q_feed t1 t2 t3 t4 p1 p2 p3 p4 p5
  exact a3.w fun q hq => (a4 q.2 hq.2.2.1).w fun x hx => ⟨hq.1.trans hx.1.symm, tapeInv hI hq.2 hx.2 a1 a2⟩
theorem c_end (hI : Inv μ) (p1 : Int32) : Ok (f_X11_end μ p1) (fun q => Ok (f_X12_end q.2 p1) (fun x => q.1 = x.1 ∧ Inv x.2)) := by
  obtain ⟨c, B, t1, t2, t3, t4⟩ := hI.2.2.1
  obtain ⟨v, c', B', a1, a2, a3, a4⟩ := q_end t1 t2 t3 t4 p1
  exact a3.w fun q hq => (a4 q.2 hq.2.2.1).w fun x hx => ⟨hq.1.trans hx.1.symm, tapeInv hI hq.2 hx.2 a1 a2⟩
theorem c_owes (hI : Inv μ) (p1 p2 : Int32) : Ok (f_L_owes μ p1 p2) (fun q => Ok (f_X12_owes q.2 p1 p2) (fun x => x.2 264 0 = q.1 ∧ (q.1 = 0 → b2i x.1 = q.2 275 0) ∧ x.2 275 = q.2 275 ∧ Inv x.2)) := by
  obtain ⟨n, f, L, T, r, R, hS⟩ := hI.1
  obtain ⟨c, v, h1, h2⟩ := q_owes hS.1 p1 p2
  refine h1.w fun q hq => ?_
  obtain ⟨rfl, q2, q3⟩ := hq
  refine (h2 q.2 q3).w fun x hx => ?_
  obtain ⟨x1, x2, x3, x4⟩ := hx
  exact ⟨x1, fun e => by rw [x2 e]; exact (q2 e).symm, x3, (hI.kc q3).km x4⟩
theorem c_seed (hI : Inv μ) (p1 : Int32) : Ok (f_X11_seed μ p1) (fun q => Ok (f_X12_seed q.2 p1) (fun x => q.1 = x.1 ∧ Inv x.2)) := by
  obtain ⟨⟨n, f, L, T, r, R, hS⟩, ⟨b, n2, f2, L2, T2, hi⟩, ⟨c, B, ht⟩, hx⟩ := hI
  refine (X11_seed hS.1.c p1).w fun q hq => ?_
  obtain ⟨q1, q2, q3⟩ := hq
  have e : ∀ j, j ≠ 3 → q.2 j = μ j := q3
  refine (X12_seed (L := L) (n := n) (f := f) (by rw [e 265 (by decide)]; exact hS.1.m) p1).w fun x hx9 => ?_
  obtain ⟨x1, x2, x3, x4⟩ := hx9
  have ex : ∀ j, j ≠ 3 → j ≠ 264 → j ≠ 265 → x.2 j = μ j := fun j a1 a2 a3 => (x3.1 j (by unfold sL; omega)).trans (e j a1)
  have kp : ∀ i, i ≠ 0 → x.2 264 i = μ 264 i := fun i a1 => by rw [x4 i a1, e 264 (by decide)]
  have l1 := ex 1 (by decide) (by decide) (by decide)
  have st : St n f (upd2 L 0 4 p1) T x.2 := by
    refine ⟨q2.fr fun j hj => x3.1 _ (by unfold sL; omega), x2, hS.1.w.seed, hS.1.lc.fr fun j hj => ex _ (by omega) (by omega) (by omega), hS.1.lm.fr ?_ (fun j hj => ?_), hS.1.wt⟩
    · rw [x3.2.1, e 265 (by decide)]
    · rw [x3.2.2 j hj, e 265 (by decide)]
  refine ⟨q1.trans x1.symm, ⟨n, f, _, T, r, R, st, hS.2.1.fr fun j a1 a2 => ex j (by omega) (by omega) (by omega), hS.2.2.1.fr (kp 7 (by decide)) (ex 269 (by decide) (by decide) (by decide)), hS.2.2.2⟩, ⟨b, n2, f2, L2, T2, hi.fr (by rw [ex 0 (by decide) (by decide) (by decide)]) (fun j a1 a2 => ex j (by omega) (by omega) (by omega)) (fun j a1 a2 => ex j (by omega) (by omega) (by omega)) (kp 6 (by decide)) (ex 266 (by decide) (by decide) (by decide))⟩, ⟨c, B, ht.fr (by rw [l1]) (ex 2 (by decide) (by decide) (by decide)) (kp 9 (by decide)) (ex 270 (by decide) (by decide) (by decide))⟩, hx.fr (ex 72 (by decide) (by decide) (by decide)) (ex 73 (by decide) (by decide) (by decide)) (by rw [l1]) (kp 14 (by decide))⟩
theorem c_undo (hI : Inv μ) : Ok (f_X11_undo μ) (fun q => Ok (f_X12_undo q.2) (fun x => q.1 = x.1 ∧ Inv x.2)) := by
  have hI' := hI
  obtain ⟨⟨n, f, L, T, r, R, hS⟩, ⟨b, n2, f2, L2, T2, hi⟩, ⟨c, B, ht⟩, hx⟩ := hI
  unfold f_X11_undo
  cases r with
  | zero =>
    refine Ok.s (X0_takeBack0 hS.2.1) (Ok.r ?_)
    exact Ok.of (X12_undo0 hS.2.2.1) ⟨rfl, hI'.km KM.thr⟩
  | succ r =>
    refine (X0_takeBack hS.2.1).b fun q hq => Ok.r ?_
    obtain ⟨q1, q2, q3, q4⟩ := hq
    have e : ∀ j, ¬ sA 3 j → j ≠ 74 → q.2 j = μ j := fun j a1 a2 => q4 j (fun w => w.elim a1 a2)
    have e64 : q.2 264 = μ 264 := e 264 (by unfold sA; omega) (by decide)
    have e65 : q.2 265 = μ 265 := e 265 (by unfold sA; omega) (by decide)
    refine (X12_undo (hS.2.2.1.fr (by rw [e64]) (e 269 (by unfold sA; omega) (by decide))) (by rw [e65]; exact hS.1.lm.1)).w fun x hx9 => ?_
    obtain ⟨x1, x2, x3, x4, x5⟩ := hx9
    have ex : ∀ j, ¬ sA 3 j → j ≠ 74 → j ≠ 264 → j ≠ 265 → x.2 j = μ j := fun j a1 a2 a3 a4 => (x4.1 j (fun w => w.elim a3 a4)).trans (e j a1 a2)
    have kp : ∀ i, i ≠ 0 → i ≠ 7 → x.2 264 i = μ 264 i := fun i a1 a2 => by rw [x5 i a2 a1, e64]
    have l1 := ex 1 (by unfold sA; omega) (by decide) (by decide) (by decide)
    have st : St (R 0).1 (R 0).2.1 (R 0).2.2 T x.2 := by
      refine ⟨q3.fr fun j hj => x4.1 _ (by omega), x3, hS.2.2.2 0 (by omega), hS.1.lc.fr fun j hj => ex _ (by unfold sA; omega) (by omega) (by omega) (by omega), hS.1.lm.fr ?_ (fun j hj => ?_), hS.1.wt⟩
      · rw [x4.2.1, e65]
      · rw [x4.2.2 j hj, e65]
    refine ⟨q1.trans x1.symm, ⟨_, _, _, T, r, _, st, q2.fr fun j a1 a2 => x4.1 _ (by omega), x2, fun j hj => hS.2.2.2 (j + 1) (by omega)⟩, ⟨b, n2, f2, L2, T2, hi.fr (by rw [ex 0 (by unfold sA; omega) (by decide) (by decide) (by decide)]) (fun j a1 a2 => ex j (by unfold sA; omega) (by omega) (by omega) (by omega)) (fun j a1 a2 => ex j (by unfold sA; omega) (by omega) (by omega) (by omega)) (kp 6 (by decide) (by decide)) (ex 266 (by unfold sA; omega) (by decide) (by decide) (by decide))⟩, ⟨c, B, ht.fr (by rw [l1]) (ex 2 (by unfold sA; omega) (by decide) (by decide) (by decide)) (kp 9 (by decide) (by decide)) (ex 270 (by unfold sA; omega) (by decide) (by decide) (by decide))⟩, hx.fr (ex 72 (by unfold sA; omega) (by decide) (by decide) (by decide)) (ex 73 (by unfold sA; omega) (by decide) (by decide) (by decide)) (by rw [l1]) (kp 14 (by decide) (by decide))⟩
theorem c_image (hI : Inv μ) : Ok (f_X11_image μ) (fun q => Ok (f_X12_image q) Inv) := by
  obtain ⟨⟨n, f, L, T, r, R, hS⟩, -, ⟨c, B, ht⟩, hx⟩ := hI
  refine (X11_image hS.1.c hS.1.lc hS.1.wt).w fun q hq => ?_
  obtain ⟨q1, q2⟩ := hq
  have e : ∀ j, ¬ sI j → q j = μ j := q2
  have e64 : q 264 = μ 264 := e 264 (by unfold sI sA sW; omega)
  have e65 : q 265 = μ 265 := e 265 (by unfold sI sA sW; omega)
  refine (X12_image (n := n) (f := f) (L := L) (T := T) (by rw [e65]; exact hS.1.m) (by rw [e65]; exact hS.1.lm) hS.1.wt).w fun x hx9 => ?_
  obtain ⟨x1, x2, x3⟩ := hx9
  have ex : ∀ j, ¬ sI j → j ≠ 264 → j ≠ 266 → x j = μ j := fun j a1 a2 a3 => (x2 j (by unfold sJ; omega)).trans (e j a1)
  have kp : ∀ i, i ≠ 0 → i ≠ 6 → x 264 i = μ 264 i := fun i a1 a2 => by rw [x3 i a1 a2, e64]
  have l1 := ex 1 (by unfold sI sA sW; omega) (by decide) (by decide)
  have o65 := ex 265 (by unfold sI sA sW; omega) (by decide) (by decide)
  have oc : ∀ j, (j = 0 ∨ (33 ≤ j ∧ j ≤ 47) ∨ (64 ≤ j ∧ j ≤ 69)) → x j = q j := fun j hj => x2 j (by unfold sJ; omega)
  have st : St n f L T x := ⟨hS.1.c.fr fun j hj => ex _ (by unfold sI sA sW; omega) (by omega) (by omega), by rw [o65]; exact hS.1.m, hS.1.w, hS.1.lc.fr fun j hj => ex _ (by unfold sI sA sW; omega) (by omega) (by omega), by rw [o65]; exact hS.1.lm, hS.1.wt⟩
  refine ⟨⟨n, f, L, T, r, R, hS.fr st (fun j a1 a2 => ex j (by unfold sI sA sW; omega) (by omega) (by omega)) (kp 7 (by decide) (by decide)) (ex 269 (by unfold sI sA sW; omega) (by decide) (by decide))⟩, ⟨true, n, f, L, T, ⟨by rw [oc 0 (by omega)]; exact q1.1, fun _ => ⟨(q1.2 rfl).1.fr fun j hj => oc _ (by omega), (q1.2 rfl).2.fr fun j hj => oc _ (by omega)⟩⟩, x1, fun _ => ⟨hS.1.w, hS.1.wt⟩⟩, ⟨c, B, ht.fr (by rw [l1]) (ex 2 (by unfold sI sA sW; omega) (by decide) (by decide)) (kp 9 (by decide) (by decide)) (ex 270 (by unfold sI sA sW; omega) (by decide) (by decide))⟩, hx.fr (ex 72 (by unfold sI sA sW; omega) (by decide) (by decide)) (ex 73 (by unfold sI sA sW; omega) (by decide) (by decide)) (by rw [l1]) (kp 14 (by decide) (by decide))⟩
theorem c_back (hI : Inv μ) : Ok (f_X11_back μ) (fun q => Ok (f_X12_back q.2) (fun x => q.1 = x.1 ∧ Inv x.2)) := by
  have hI' := hI
  obtain ⟨⟨n, f, L, T, r, R, hS⟩, ⟨b, n2, f2, L2, T2, hi⟩, ⟨c, B, ht⟩, hx⟩ := hI
  have hi' := hi
  obtain ⟨hiC, hiM, hiW⟩ := hi
  cases b with
  | false => exact Ok.of (X11_back0 hiC) (Ok.of (X12_back0 hiM) ⟨rfl, hI'.km KM.thr⟩)
  | true =>
    obtain ⟨w1, w2⟩ := hiW rfl
    refine (X11_back hiC w2 hS.2.1).w fun q hq => ?_
    obtain ⟨q1, q2, q3, q4, q5⟩ := hq
    have e : ∀ j, ¬ sB j → q.2 j = μ j := q5
    have e64 : q.2 264 = μ 264 := e 264 (by unfold sB sA sW; omega)
    have e66 : q.2 266 = μ 266 := e 266 (by unfold sB sA sW; omega)
    have hM2 : ImM q.2 true n2 f2 L2 T2 := ⟨by rw [e64]; exact hiM.1, fun z => by rw [e66]; exact hiM.2 z⟩
    refine (X12_back hM2 w2).w fun x hx9 => ?_
    obtain ⟨x1, x2, x3, x4, x5, x6⟩ := hx9
    have eo : ∀ j, j ≠ 264 → j ≠ 265 → x.2 j = q.2 j := fun j a1 a2 => x5 j (by unfold sL; omega)
    have ex : ∀ j, ¬ sB j → j ≠ 264 → j ≠ 265 → x.2 j = μ j := fun j a1 a2 a3 => (eo j a2 a3).trans (e j a1)
    have kp : ∀ i, i ≠ 0 → i ≠ 7 → x.2 264 i = μ 264 i := fun i a1 a2 => by rw [x6 i a1 a2, e64]
    have l1 := ex 1 (by unfold sB sA sW; omega) (by decide) (by decide)
    have st : St n2 f2 L2 T2 x.2 := ⟨q2.fr fun j hj => eo _ (by omega) (by omega), x2, w1, q3.fr fun j hj => eo _ (by omega) (by omega), x3, w2⟩
    refine ⟨q1.trans x1.symm, ⟨n2, f2, L2, T2, 0, R, st, q4.fr fun j a1 a2 => eo _ (by omega) (by omega), ⟨Nat.zero_le _, x4, fun j hj => absurd hj (by omega)⟩, fun j hj => absurd hj (by omega)⟩, ⟨true, n2, f2, L2, T2, hi'.fr (by rw [ex 0 (by unfold sB sA sW; omega) (by decide) (by decide)]) (fun j a1 a2 => ex j (by unfold sB sA sW; omega) (by omega) (by omega)) (fun j a1 a2 => ex j (by unfold sB sA sW; omega) (by omega) (by omega)) (kp 6 (by decide) (by decide)) (ex 266 (by unfold sB sA sW; omega) (by decide) (by decide))⟩, ⟨c, B, ht.fr (by rw [l1]) (ex 2 (by unfold sB sA sW; omega) (by decide) (by decide)) (kp 9 (by decide) (by decide)) (ex 270 (by unfold sB sA sW; omega) (by decide) (by decide))⟩, hx.fr (ex 72 (by unfold sB sA sW; omega) (by decide) (by decide)) (ex 73 (by unfold sB sA sW; omega) (by decide) (by decide)) (by rw [l1]) (kp 14 (by decide) (by decide))⟩
theorem c_fault (hI : Inv μ) : Ok (Option.bind (f_X11_fault μ) fun t1 => Option.bind (f_X12_fault μ) fun q2 => if t1 = q2.1 then some q2.2 else none) Inv := by
  unfold f_X11_fault f_X12_fault
  refine Ok.s rfl (Ok.s rfl (Ok.t ?_ (Ok.r (hI.km KM.thr))))
  show μ 1 4 = mset μ 264 0 0 264 14
  rw [mset_atn (by decide)]
  exact hI.2.2.2.2.2
/-- the answer's memory -/
theorem c_land (hI : Inv μ) : Arm (f_L_land μ) (fun ν => f_X12_land ν) := by
  obtain ⟨⟨n, f, L, T, r, R, hS⟩, ⟨b, n2, f2, L2, T2, hi⟩, ⟨c, B, t1, t2, t3, t4⟩, hx⟩ := hI
  have sim : ∀ ν : Mem, ν 265 = μ 265 → ν 264 = μ 264 → ν 270 = μ 270 → Sim (f_X11_land μ) (f_X12_land ν) (LR8 μ ν f) := fun ν e5 e4 e0 => S_land8 hS.1.c hS.1.w t1 t2 t3 hx.1 (by rw [e5]; exact hS.1.m) ⟨by rw [e4]; exact t4.1, fun i hi => by rw [e0]; exact t4.2 i hi⟩
  obtain ⟨rr, q0, e1, e20, k, v, wf, n', L', μ', hk, er, ev0, hQ⟩ := sim μ rfl rfl rfl
  have eo : ∀ j, 264 ≤ j → μ' j = μ j := fun j hj => hQ.2.2.2.2.1 j (by omega) (by omega) (by omega) (by omega)
  -- from the class's answer on
  have fin : ∀ (ν : Mem) (c0 : Int32), (∀ j, j ≠ 275 → ν j = μ' j) → c0 = TxQ k → (k = 0 → ν 275 0 = v) → Ok (f_X12_land ν) (fun x => x.2 264 0 = c0 ∧ (c0 = 0 → x.1 = ν 275 0) ∧ x.2 275 = ν 275 ∧ Inv x.2) := fun ν c0 hν h0 hv => by
    obtain ⟨rr2, q, g1, g2, k', v', wf', n'', L'', μ'', hk', er', ev', hQ'⟩ := sim ν (by rw [hν 265 (by decide), eo 265 (by decide)]) (by rw [hν 264 (by decide), eo 264 (by decide)]) (by rw [hν 270 (by decide), eo 270 (by decide)])
    have hr : rr2 = rr := Option.some.inj (g1.symm.trans e1)
    rw [er, er'] at hr
    have same : k' = k ∧ μ'' = μ' ∧ (k = 0 → v' = v) := by
      by_cases z : k = 0
      · by_cases z' : k' = 0
        · rw [if_pos z, if_pos z'] at hr
          have := Sum.inr.inj hr
          exact ⟨by omega, (Prod.mk.inj this).2, fun _ => (Prod.mk.inj this).1⟩
        · rw [if_pos z, if_neg z'] at hr; cases hr
      · by_cases z' : k' = 0
        · rw [if_neg z, if_pos z'] at hr; cases hr
        · rw [if_neg z, if_neg z'] at hr
          have := Sum.inl.inj hr
          exact ⟨(Prod.mk.inj this).1, (Prod.mk.inj this).2, fun q => absurd q z⟩
    obtain ⟨rfl, rfl, hvv⟩ := same
    obtain ⟨⟨d0, d1, d2, d3, d4, d5⟩, ⟨d6, d7, d8, d9⟩, d10, d11, d12, d13, d14⟩ := hQ'
    have ex : ∀ j, j ≠ 264 → j ≠ 265 → j ≠ 267 → j ≠ 275 → q.2 j = μ'' j := fun j a1 a2 a3 a4 => (d13 j a1 a2 a3).trans (hν j a4)
    have eμ : ∀ j, j ≠ 1 → ¬ (3 ≤ j ∧ j ≤ 32) → ¬ (54 ≤ j ∧ j ≤ 63) → j ≠ 74 → j ≠ 264 → j ≠ 265 → j ≠ 267 → j ≠ 275 → q.2 j = μ j := fun j a1 a2 a3 a4 a5 a6 a7 a8 => (ex j a5 a6 a7 a8).trans (d12 j a1 a2 a3 a4)
    have e64 : ∀ i, ν 264 i = μ 264 i := fun i => by rw [hν 264 (by decide), eo 264 (by decide)]
    have e65 : ν 265 = μ 265 := by rw [hν 265 (by decide), eo 265 (by decide)]
    have l1 : q.2 1 = μ'' 1 := ex 1 (by decide) (by decide) (by decide) (by decide)
    have st : St n'' f L'' T q.2 := by
      refine ⟨d1.fr fun j hj => ex _ (by omega) (by omega) (by omega) (by omega), d2, d3, hS.1.lc.fr fun j hj => eμ _ (by omega) (by omega) (by omega) (by omega) (by omega) (by omega) (by omega) (by omega), ?_, hS.1.wt⟩
      exact hS.1.lm.frB hS.1.wt (by rw [d4, e65]) (fun j a1 a2 => by rw [d5 j a1 a2, e65])
    have rc : ∃ r' R', RC q.2 r' R' ∧ RM q.2 (T 0 0) r' R' ∧ ∀ j, j < r' → WF (R' j).1 (R' j).2.2 := by
      obtain ⟨y1, y2, x, hx9, y3, y4⟩ := hS.2.1
      have e74 : ∀ i, i ≠ 2 → q.2 74 i = μ 74 i := fun i hi9 => by rw [ex 74 (by decide) (by decide) (by decide) (by decide)]; exact d11 i hi9
      have e742 : q.2 74 2 = μ'' 74 2 := by rw [ex 74 (by decide) (by decide) (by decide) (by decide)]
      by_cases z : k' = 0
      · rw [if_pos z] at d10
        exact ⟨0, R, ⟨Nat.zero_le _, by rw [e742]; exact d10.1, x, hx9, by rw [e74 1 (by decide)]; exact y3, fun j hj => absurd hj (by omega)⟩, ⟨Nat.zero_le _, d10.2, fun j hj => absurd hj (by omega)⟩, fun j hj => absurd hj (by omega)⟩
      · rw [if_neg z] at d10
        refine ⟨r, R, ⟨y1, by rw [e742, d10.1]; exact y2, x, hx9, by rw [e74 1 (by decide)]; exact y3, fun j hj => (y4 j hj).fr fun i hi9 => eμ _ (by omega) (by omega) (by omega) (by omega) (by omega) (by omega) (by omega) (by omega)⟩, hS.2.2.1.fr (by rw [d10.2, e64]) (eμ 269 (by decide) (by decide) (by decide) (by decide) (by decide) (by decide) (by decide) (by decide)), hS.2.2.2⟩
    obtain ⟨r', R', rc1, rc2, rc3⟩ := rc
    refine ⟨q, g2, by rw [d0, h0], fun e => ?_, d13 275 (by decide) (by decide) (by decide), ⟨n'', f, L'', T, r', R', st, rc1, rc2, rc3⟩, ⟨b, n2, f2, L2, T2, hi.fr (by rw [eμ 0 (by decide) (by decide) (by decide) (by decide) (by decide) (by decide) (by decide) (by decide)]) (fun j a1 a2 => eμ j (by omega) (by omega) (by omega) (by omega) (by omega) (by omega) (by omega) (by omega)) (fun j a1 a2 => eμ j (by omega) (by omega) (by omega) (by omega) (by omega) (by omega) (by omega) (by omega)) (by rw [d14, e64]) (eμ 266 (by decide) (by decide) (by decide) (by decide) (by decide) (by decide) (by decide) (by decide))⟩, ⟨0, B, by decide, t2, ⟨by rw [l1]; exact d6, fun i hi => absurd hi (by omega)⟩, d8, fun i hi => absurd hi (by omega)⟩, by rw [eμ 72 (by decide) (by decide) (by decide) (by decide) (by decide) (by decide) (by decide) (by decide)]; exact hx.1, by rw [eμ 73 (by decide) (by decide) (by decide) (by decide) (by decide) (by decide) (by decide) (by decide)]; exact hx.2.1, by rw [l1, d7, d9]⟩
    have z : k' = 0 := by
      rw [h0] at e
      rcases hk with w | w | w
      · exact w
      · rw [w] at e; exact absurd e (by decide)
      · rw [w] at e; exact absurd e (by decide)
    rw [ev' z, hvv z, hv z]
  unfold Arm f_L_land
  refine Ok.s e1 ?_
  rw [er]
  rcases hk with rfl | rfl | rfl
  · rw [if_pos rfl]
    refine elimR' (Ok.s (wr_k 0 rfl (by decide) (by decide)) (Ok.r ?_))
    exact fin (mset μ' 275 0 v) 0 (fun j hj => mset_ne hj) rfl (fun _ => mset_at)
  · rw [if_neg (by decide)]
    exact elimL' (Ok.t rfl (Ok.r (fin _ 1 (fun j hj => rfl) rfl (fun q => absurd q (by decide)))))
  · rw [if_neg (by decide)]
    exact elimL' (Ok.e (show ¬ (5 : Nat) = 1 by decide) (Ok.t rfl (Ok.r (fin _ 2 (fun j hj => rfl) rfl (fun q => absurd q (by decide))))))
theorem c_law (hI : Inv μ) : Arm (f_L_law μ) (fun ν => f_X12_law ν) := by
  obtain ⟨⟨n, f, L, T, r, R, hS⟩, ⟨b, n2, f2, L2, T2, hi⟩, ⟨c, B, t1, t2, t3, t4⟩, hx⟩ := hI
  have sim : ∀ ν : Mem, ν 264 = μ 264 → ν 270 = μ 270 → Sim (f_X11_law μ) (f_X12_law ν) (LV9 μ ν) := fun ν e4 e0 => S_law t1 t2 t3 hx.2.1 ⟨by rw [e4]; exact t4.1, fun i hi => by rw [e0]; exact t4.2 i hi⟩
  obtain ⟨rr, q0, e1, e20, k, v, wf, T', μ', hk, er, ev0, hQ⟩ := sim μ rfl rfl
  have eo : ∀ j, 264 ≤ j → μ' j = μ j := fun j hj => hQ.2.2.2.2.1 j (by omega) (by omega) (by omega) (by omega)
  have fin : ∀ (ν : Mem) (c0 : Int32), (∀ j, j ≠ 275 → ν j = μ' j) → c0 = TxQ k → (k = 0 → ν 275 0 = v) → Ok (f_X12_law ν) (fun x => x.2 264 0 = c0 ∧ (c0 = 0 → x.1 = ν 275 0) ∧ x.2 275 = ν 275 ∧ Inv x.2) := fun ν c0 hν h0 hv => by
    obtain ⟨rr2, q, g1, g2, k', v', wf', T'', μ'', hk', er', ev', hQ'⟩ := sim ν (by rw [hν 264 (by decide), eo 264 (by decide)]) (by rw [hν 270 (by decide), eo 270 (by decide)])
    have hr : rr2 = rr := Option.some.inj (g1.symm.trans e1)
    rw [er, er'] at hr
    have same : k' = k ∧ μ'' = μ' ∧ (k = 0 → v' = v) := by
      by_cases z : k = 0
      · by_cases z' : k' = 0
        · rw [if_pos z, if_pos z'] at hr
          have := Sum.inr.inj hr
          exact ⟨by omega, (Prod.mk.inj this).2, fun _ => (Prod.mk.inj this).1⟩
        · rw [if_pos z, if_neg z'] at hr; cases hr
      · by_cases z' : k' = 0
        · rw [if_neg z, if_pos z'] at hr; cases hr
        · rw [if_neg z, if_neg z'] at hr
          have := Sum.inl.inj hr
          exact ⟨(Prod.mk.inj this).1, (Prod.mk.inj this).2, fun q => absurd q z⟩
    obtain ⟨rfl, rfl, hvv⟩ := same
    obtain ⟨⟨d0, d1⟩, ⟨d6, d7, d8, d9⟩, d10, d11, d12, d13, d14⟩ := hQ'
    have ex : ∀ j, j ≠ 264 → j ≠ 265 → j ≠ 275 → q.2 j = μ'' j := fun j a1 a2 a4 => (d13 j a1 a2).trans (hν j a4)
    have eμ : ∀ j, j ≠ 1 → ¬ (18 ≤ j ∧ j ≤ 32) → ¬ (48 ≤ j ∧ j ≤ 63) → j ≠ 74 → j ≠ 264 → j ≠ 265 → j ≠ 275 → q.2 j = μ j := fun j a1 a2 a3 a4 a5 a6 a8 => (ex j a5 a6 a8).trans (d12 j a1 a2 a3 a4)
    have e64 : ∀ i, ν 264 i = μ 264 i := fun i => by rw [hν 264 (by decide), eo 264 (by decide)]
    have e65 : ν 265 = μ 265 := by rw [hν 265 (by decide), eo 265 (by decide)]
    have l1 : q.2 1 = μ'' 1 := ex 1 (by decide) (by decide) (by decide)
    have hC : CL n f q.2 3 L := hS.1.c.fr fun j hj => eμ _ (by omega) (by omega) (by omega) (by omega) (by omega) (by omega) (by omega)
    have hM : ML n f (q.2 265) L := hS.1.m.fr2 fun j a1 a2 => by rw [d1 j a1 a2, e65]
    have sr : IvS q.2 := by
      obtain ⟨y1, y2, x, hx9, y3, y4⟩ := hS.2.1
      have e74 : ∀ i, i ≠ 2 → q.2 74 i = μ 74 i := fun i hi9 => by rw [ex 74 (by decide) (by decide) (by decide)]; exact d11 i hi9
      have e742 : q.2 74 2 = μ'' 74 2 := by rw [ex 74 (by decide) (by decide) (by decide)]
      by_cases z : k' = 0
      · rw [if_pos z] at d10
        obtain ⟨w1, w2, w3, w4, w5⟩ := d10
        exact ⟨n, f, L, T'', 0, R, ⟨hC, hM, hS.1.w, w1.fr fun j hj => ex _ (by omega) (by omega) (by omega), w2, w3⟩, ⟨Nat.zero_le _, by rw [e742]; exact w4, x, hx9, by rw [e74 1 (by decide)]; exact y3, fun j hj => absurd hj (by omega)⟩, ⟨Nat.zero_le _, w5, fun j hj => absurd hj (by omega)⟩, fun j hj => absurd hj (by omega)⟩
      · rw [if_neg z] at d10
        obtain ⟨w1, w2, w3, w4⟩ := d10
        have hlc : LC q.2 48 T := hS.1.lc.fr fun j hj => by rw [ex _ (by omega) (by omega) (by omega), w1 _ (by omega) (by omega)]
        have hlm : LM (q.2 265) T := hS.1.lm.frB hS.1.wt (by rw [w2 2 (by decide), e65]) (fun j a1 a2 => by rw [w2 j a2, e65])
        refine ⟨n, f, L, T, r, R, ⟨hC, hM, hS.1.w, hlc, hlm, hS.1.wt⟩, ⟨y1, by rw [e742, w3]; exact y2, x, hx9, by rw [e74 1 (by decide)]; exact y3, fun j hj => (y4 j hj).fr fun i hi9 => eμ _ (by omega) (by omega) (by omega) (by omega) (by omega) (by omega) (by omega)⟩, hS.2.2.1.fr (by rw [w4, e64]) (eμ 269 (by decide) (by decide) (by decide) (by decide) (by decide) (by decide) (by decide)), hS.2.2.2⟩
    refine ⟨q, g2, by rw [d0, h0], fun e => ?_, d13 275 (by decide) (by decide), sr, ⟨b, n2, f2, L2, T2, hi.fr (by rw [eμ 0 (by decide) (by decide) (by decide) (by decide) (by decide) (by decide) (by decide)]) (fun j a1 a2 => eμ j (by omega) (by omega) (by omega) (by omega) (by omega) (by omega) (by omega)) (fun j a1 a2 => eμ j (by omega) (by omega) (by omega) (by omega) (by omega) (by omega) (by omega)) (by rw [d14, e64]) (eμ 266 (by decide) (by decide) (by decide) (by decide) (by decide) (by decide) (by decide))⟩, ⟨0, B, by decide, t2, ⟨by rw [l1]; exact d6, fun i hi => absurd hi (by omega)⟩, d8, fun i hi => absurd hi (by omega)⟩, by rw [eμ 72 (by decide) (by decide) (by decide) (by decide) (by decide) (by decide) (by decide)]; exact hx.1, by rw [eμ 73 (by decide) (by decide) (by decide) (by decide) (by decide) (by decide) (by decide)]; exact hx.2.1, by rw [l1, d7, d9]⟩
    have z : k' = 0 := by
      rw [h0] at e
      rcases hk with w | w
      · exact w
      · rw [w] at e; exact absurd e (by decide)
    rw [ev' z, hvv z, hv z]
  unfold Arm f_L_law
  refine Ok.s e1 ?_
  rw [er]
  rcases hk with rfl | rfl
  · rw [if_pos rfl]
    refine elimR' (Ok.s (wr_k 0 rfl (by decide) (by decide)) (Ok.r ?_))
    exact fin (mset μ' 275 0 v) 0 (fun j hj => mset_ne hj) rfl (fun _ => mset_at)
  · rw [if_neg (by decide)]
    exact elimL' (Ok.t rfl (Ok.r (fin _ 1 (fun j hj => rfl) rfl (fun q => absurd q (by decide)))))
end Aq
