/-! LEND, PAY, SURETY, GIVE, SEED -/
section A2
variable {n : Nat} {f : Int32} {μ : Mem} {L : Ld} {T : Tx} {a r : Nat} {R : Nat → Rec9}
def lendA (L : Ld) (p l : Nat) (m k d : Int32) : Ld := logA (rowA (earnA (upd2 L 1 p (L 1 p - m)) (l / 2) m) l 1 (nI p) m k d (-1)) (nI l) 0 m
theorem pled_row {l p m k d : Nat} (hp : p < n) (ho : p ≠ l / 2) (hm1 : 1 ≤ m) (hm : m ≤ 999) (hk : k ≤ 9) (hd : d ≤ 9999) : LaceW n l (rowA L l 1 (nI p) (nI m) (nI k) (nI d) (-1)) := by
  obtain ⟨e1, e2, e3, e4, e5, e6⟩ := rowA_v (L := L) (l := l) (a := 1) (b := nI p) (c := nI m) (d := nI k) (e := nI d) (g := -1)
  exact Or.inr (Or.inl ⟨e1, p, hp, ho, e2, ⟨m, hm1, hm, e3⟩, ⟨k, hk, e4⟩, ⟨d, hd, e5⟩, Or.inl e6⟩)
theorem sub_le {x m : Nat} (hx : x ≤ 999) (hm : m ≤ 999) (h : nI m ≤ nI x) : nI x - nI m = nI (x - m) ∧ x - m ≤ 999 := by
  have : m ≤ x := by
    rcases Nat.lt_or_ge x m with q | q
    · exact absurd h (nI_ge q (by omega))
    · exact q
  exact ⟨pk_sub this, by omega⟩
theorem WF.lend (h : WF n L) (hn : n ≤ 6) {p l m k d : Nat} (hp : p < n) (hl : l < 2 * n) (ho : p ≠ l / 2) (hm1 : 1 ≤ m) (hm : m ≤ 999) (hk : k ≤ 9) (hd : d ≤ 9999) (hb : nI m ≤ L 1 p) : WF n (lendA L p l (nI m) (nI k) (nI d)) := by
  obtain ⟨x, hx, ex⟩ := (h.man hp).1
  rw [ex] at hb
  obtain ⟨g1, g2⟩ := sub_le hx hm hb
  unfold lendA
  refine WF.log (l := l) (w := 0) (m := m) ?_ (by omega) (by decide) hm rfl rfl rfl
  refine WF.rowW ?_ (fun _ => pled_row hp ho hm1 hm hk hd)
  refine WF.earn (m := m) ?_ (by omega) hm rfl
  exact h.purse g2 (by rw [ex]; exact g1)
/-- the model, after it has remembered: changes of its world alone -/
theorem doM {ν ν1 ν2 : Mem} {L' : Ld} {t r' : Nat} {R' : Nat → Rec9} {v w : Int32} {S : Nat → Prop} (e : w = v) (hS : ∀ k, S k → k = 265 ∨ k = 272) (hR : RM ν1 t r' R') (hm : Ms mM (mset ν 264 0 0) ν1) (h0 : ν1 264 0 = 0) (hk : keep3 (mset ν 264 0 0) ν1) (hM : ML n f (ν2 265) L') (h2 : Ms S ν1 ν2) : Ok (some (w, ν2)) (MR ν 0 v (fun ν' => ML n f (ν' 265) L' ∧ RM ν' t r' R' ∧ Ms mM ν ν' ∧ keep3 ν ν')) := by
  obtain ⟨g1, g2⟩ := mm65 h2 hS
  exact yesM e hM (hR.s65 h2 hS) (hm.trans g1) (by rw [g2]; exact h0) (fun i hi => by rw [g2]; exact hk i hi)
theorem X12_lend_do (h : SR n f L T r R μ) {ν : Mem} (hk : Fr cM μ ν) {p l : Nat} (hp : p < n) (hl : l < 2 * n) (m k d : Int32) : Ok (Option.bind (f_X12_remembers (mset ν 264 0 0)) fun q6 => Option.bind (f_X12_at q6 (nI p) 0) fun t7 => Option.bind (rd q6 265 2068 t7) fun t8 => Option.bind (wr q6 265 2068 t7 (t8 - m)) fun μ9 => Option.bind (f_X12_ownerOf μ9 (nI l)) fun t10 => Option.bind (f_X12_gets μ9 t10 m) fun q11 => Option.bind (f_X12_tellsLace q11 (nI l) 1 (nI p) m k d) fun q12 => Option.bind (f_X12_tells q12 (nI l) 0 m) fun q13 => Option.bind (f_X12_of q13 (nI p) 0) fun t14 => some (t14, q13)) (MR ν 0 (lendA L p l m k d 1 p) (fun ν' => ML n f (ν' 265) (lendA L p l m k d) ∧ RM ν' (T 0 0) (min 12 (r + 1)) (pushR (n, f, L) R) ∧ Ms mM ν ν' ∧ keep3 ν ν')) := by
  have hn := h.1.n6
  refine (remM h hk).b fun ν1 hv => ?_
  refine Ok.s (X12_atN (k := 0)) ?_
  refine Ok.s (a := L 1 p) (by rw [rd_nI (by omega) (by decide)]; exact congrArg some (hv.1.atP (k := 1) (by decide) hp)) ?_
  refine Ok.s (wr_nI (by omega) (by decide)) ?_
  have c1 : ML n f (mset ν1 265 (28 + 5 * p + 0) (L 1 p - m) 265) (upd2 L 1 p (L 1 p - m)) := hv.1.putP (k := 1) (by decide) hp rfl
  refine Ok.s (X12_ownerOf (by omega)) ?_
  refine (X12_gets c1 (show l / 2 < n by omega) m).b fun ν2 h2 => ?_
  refine (X12_tellsLace h2.1 hl 1 (nI p) m k d).b fun ν3 h3 => ?_
  refine (X12_tells h3.1 (nI l) 0 m).b fun ν4 h4 => ?_
  refine Ok.s (X12_of0 h4.1 hp) ?_
  exact doM rfl (fun k hk => Or.inl hk) hv.2.2.1 hv.2.2.2.1 hv.2.2.2.2.1 hv.2.2.2.2.2 h4.1 ((((Ms.set (S := s65) rfl (by omega) (by omega)).trans h2.2).trans h3.2).trans h4.2)
theorem X11_lend_do (h : SR n f L T r R μ) {p l m : Nat} (hp : p < n) (hl : l < 2 * n) (hm : m ≤ 999) (k d : Int32) : Ok (Option.bind (f_X0_remember μ 3) fun q11 => Option.bind (rd q11 4 6 (nI p)) fun t12 => Option.bind (wr q11 4 6 (nI p) (t12 - nI m)) fun μ13 => Option.bind (f_X11_ownerOf μ13 (nI l)) fun t14 => Option.bind (f_X2_earn μ13 3 t14 (nI m)) fun q15 => Option.bind (f_X2_pledge q15 3 (nI l) (nI p) (nI m) k d (-1)) fun q16 => Option.bind (f_X1_add q16 16 (q16 3 2) (nI l) 0 (nI m)) fun q17 => Option.bind (rd q17 4 6 (nI p)) fun t18 => some (Sum.inr (t18, q17))) (XR 0 (lendA L p l (nI m) k d 1 p) (fun ν => CL n f ν 3 (lendA L p l (nI m) k d) ∧ RC ν (min 12 (r + 1)) (pushR (n, f, L) R) ∧ Fr cM μ ν)) := by
  have hn := h.1.n6
  obtain ⟨dd, hd, ed⟩ := h.1.w.2.1
  refine (remC h).b fun ν hv => ?_
  refine Ok.s (hv.1.rdP (k := 1) (by decide) hp) (Ok.s (wr_nI (by omega) (by decide)) ?_)
  have c1 : CL n f (mset ν 4 p (L 1 p - nI m)) 3 (upd2 L 1 p (L 1 p - nI m)) := hv.1.set (k := 1) (by decide) (by omega)
  refine Ok.s (X11_ownerOf (by omega)) ?_
  refine (X2_earn c1 (show l / 2 < n by omega) (nI m)).b fun ν2 h2 => ?_
  refine (X2_pledge h2.1 (show l < 12 by omega) (nI p) (nI m) k d (-1)).b fun ν3 h3 => ?_
  have e2 : ν3 3 2 = nI dd := (h3.1.at0 (i := 2) (by decide)).trans ed
  refine Ok.b (X1_add (a := 3) h3.1 (d := dd) (l := l) (w := 0) (m := m) ed hd (by omega) (by decide) hm e2 rfl rfl rfl) (fun ν4 h4 => ?_)
  refine Ok.s (h4.1.rdP (k := 1) (by decide) hp) ?_
  have hF : Fr (sA 3) ν ν4 := (((Fr.set (show sA 3 4 by unfold sA; omega)).trans (h2.2.mono fun k hk => by unfold sA; omega)).trans (h3.2.mono fun k hk => by unfold sA; omega)).trans (h4.2.mono fun k hk => by unfold sA; omega)
  exact XR.yes rfl ⟨h4.1, hv.2.2.1.a3 hF, hv.2.2.2.trans (hF.mono fun k hk => sA3 hk)⟩
theorem a_lend (h : SR n f L T r R μ) (p1 p2 p3 p4 p5 : Int32) : AgM (T 0 0) μ (f_L_lend μ p1 p2 p3 p4 p5) (fun ν => f_X12_lend ν p1 p2 p3 p4 p5) := by
  have hn := h.1.n6
  by_cases b1 : outb p1 0 (nI n - 1) = true
  · refine ⟨1, 0, n, f, L, r, R, h.1.w, h.2.2.2, wrapG3 (k := 2) (by decide) rfl pcM ?_, fun ν hk => ?_⟩
    · unfold f_X11_lend
      refine Ok.s (X11_needPerson h.1.c p1) ?_
      rw [if_pos b1]
      exact elimL' (noC h (by decide))
    · unfold f_X12_lend
      refine Ok.s (X12_noPerson (h.half hk).1 p1) ?_
      rw [b1]
      refine Ok.t rfl ?_
      unfold f_X12_lend_j22 f_X12_lend_j27
      exact Ok.s (X12_thrT 1) (Ok.t rfl (noM h hk (by decide)))
  · have b1' : outb p1 0 (nI n - 1) = false := by simpa using b1
    obtain ⟨p, hp, rfl⟩ := outb_ix (by omega) b1'
    by_cases b2 : outb p2 0 (nI (2 * n) - 1) = true
    · refine ⟨1, 0, n, f, L, r, R, h.1.w, h.2.2.2, wrapG3 (k := 2) (by decide) rfl pcM ?_, fun ν hk => ?_⟩
      · unfold f_X11_lend
        refine Ok.s (X11_needPerson h.1.c _) ?_
        rw [if_neg b1]
        refine elimR' (Ok.s (X11_needLace h.1.c p2) ?_)
        rw [if_pos b2]
        exact elimL' (noC h (by decide))
      · unfold f_X12_lend
        refine Ok.s (X12_noPerson (h.half hk).1 _) ?_
        rw [b1']
        refine Ok.e fnt (Ok.s (X12_noLace (h.half hk).1 p2) ?_)
        rw [b2]
        exact Ok.s (X12_thrT 1) (Ok.t rfl (noM h hk (by decide)))
    · have b2' : outb p2 0 (nI (2 * n) - 1) = false := by simpa using b2
      obtain ⟨l, hl, rfl⟩ := outb_ix (by omega) b2'
      -- the model, after the two
      have mo : ∀ {ν : Mem} (_ : Fr cM μ ν) {P : Int32 × Mem → Prop}, Ok (Option.bind (f_X12_ownerOf (mset ν 264 0 0) (nI l)) fun t5 => if nI p = t5 then f_X12_lend_j79 (mset ν 264 0 0) (nI p) (nI l) p3 p4 p5 else Option.bind (f_X12_in (mset ν 264 0 0) p3 1 999) fun t6 => if t6 = true then Option.bind (f_X12_in (mset ν 264 0 0) p4 0 9) fun t7 => if t7 = true then Option.bind (f_X12_in (mset ν 264 0 0) p5 1 9999) fun t8 => Option.bind (f_X12_throwsIf (mset ν 264 0 0) (if t8 = true then (false : Bool) else true) 2) fun q10 => if q10.1 = true then some (0, q10.2) else Option.bind (f_X12_isIn q10.2 (nI l)) fun t11 => if t11 = true then Option.bind (f_X12_of q10.2 (nI p) 0) fun t12 => Option.bind (f_X12_throwsIf q10.2 (if p3 ≤ t12 then (false : Bool) else true) 3) fun q14 => if q14.1 = true then some (0, q14.2) else Option.bind (f_X12_remembers q14.2) fun q15 => Option.bind (f_X12_at q15 (nI p) 0) fun t16 => Option.bind (rd q15 265 2068 t16) fun t17 => Option.bind (wr q15 265 2068 t16 (t17 - p3)) fun μ18 => Option.bind (f_X12_ownerOf μ18 (nI l)) fun t19 => Option.bind (f_X12_gets μ18 t19 p3) fun q20 => Option.bind (f_X12_tellsLace q20 (nI l) 1 (nI p) p3 p4 p5) fun q21 => Option.bind (f_X12_tells q21 (nI l) 0 p3) fun q22 => Option.bind (f_X12_of q22 (nI p) 0) fun t23 => some (t23, q22) else f_X12_lend_j112 q10.2 (nI p) (nI l) p3 p4 p5 else f_X12_lend_j79 (mset ν 264 0 0) (nI p) (nI l) p3 p4 p5 else f_X12_lend_j79 (mset ν 264 0 0) (nI p) (nI l) p3 p4 p5) P → Ok (f_X12_lend ν (nI p) (nI l) p3 p4 p5) P := by
        intro ν hk P hP
        unfold f_X12_lend
        refine Ok.s (X12_noPerson (h.half hk).1 _) ?_
        rw [b1']
        refine Ok.e fnt (Ok.s (X12_noLace (h.half hk).1 _) ?_)
        rw [b2']
        exact Ok.s (X12_thrF 1) (Ok.e fnt hP)
      have cl : ∀ {P : (Nat × Mem) ⊕ (Int32 × Mem) → Prop}, Ok (Option.bind (f_X11_ownerOf μ (nI l)) fun t5 => if nI p = t5 then f_X11_lend_j52 μ else Option.bind (f_X11_isOutside μ p3 1 999) fun t6 => if t6 = true then f_X11_lend_j52 μ else Option.bind (f_X11_isOutside μ p4 0 9) fun t7 => if t7 = true then f_X11_lend_j52 μ else Option.bind (f_X11_isOutside μ p5 1 9999) fun t8 => if t8 = true then f_X11_lend_j52 μ else Option.bind (rd μ 9 12 (nI l)) fun t9 => if t9 = 0 then Option.bind (rd μ 4 6 (nI p)) fun t10 => if p3 ≤ t10 then Option.bind (f_X0_remember μ 3) fun q11 => Option.bind (rd q11 4 6 (nI p)) fun t12 => Option.bind (wr q11 4 6 (nI p) (t12 - p3)) fun μ13 => Option.bind (f_X11_ownerOf μ13 (nI l)) fun t14 => Option.bind (f_X2_earn μ13 3 t14 p3) fun q15 => Option.bind (f_X2_pledge q15 3 (nI l) (nI p) p3 p4 p5 (-1)) fun q16 => Option.bind (f_X1_add q16 16 (q16 3 2) (nI l) 0 p3) fun q17 => Option.bind (rd q17 4 6 (nI p)) fun t18 => some (Sum.inr (t18, q17)) else f_X11_lend_j87 μ else f_X11_lend_j87 μ) P → Ok (f_X11_lend μ (nI p) (nI l) p3 p4 p5) P := by
        intro P hP
        unfold f_X11_lend
        refine Ok.s (X11_needPerson h.1.c _) ?_
        rw [if_neg b1]
        refine elimR' (Ok.s (X11_needLace h.1.c _) ?_)
        rw [if_neg b2]
        exact elimR' hP
      have bad2 : ∀ {ν : Mem} (hk : Fr cM μ ν) {v : Int32}, Ok (f_X12_lend_j79 (mset ν 264 0 0) (nI p) (nI l) p3 p4 p5) (MR ν 2 v (fun ν' => ML n f (ν' 265) L ∧ RM ν' (T 0 0) r R ∧ Ms mM ν ν' ∧ keep3 ν ν')) := fun {ν} hk {v} => by
        unfold f_X12_lend_j79 f_X12_lend_j84
        exact Ok.s (X12_thrT 2) (Ok.t rfl (noM h hk (by decide)))
      have badC : ∀ {v : Int32}, Ok (f_X11_lend_j52 μ) (XR 1 v (fun ν => CL n f ν 3 L ∧ RC ν r R ∧ Fr cM μ ν)) := noC h (by decide)
      by_cases c1 : p = l / 2
      · refine ⟨2, 0, n, f, L, r, R, h.1.w, h.2.2.2, wrapG3 (k := 1) (by decide) rfl pcM (cl ?_), fun ν hk => mo hk ?_⟩
        · exact Ok.s (X11_ownerOf (by omega)) (Ok.t (by rw [c1]) badC)
        · exact Ok.s (X12_ownerOf (by omega)) (Ok.t (by rw [c1]) (bad2 hk))
      · have c1' : ¬ nI p = nI (l / 2) := fun q => c1 ((nI_eq (by omega) (by omega)).mp q)
        by_cases b3 : outb p3 1 999 = true
        · refine ⟨2, 0, n, f, L, r, R, h.1.w, h.2.2.2, wrapG3 (k := 1) (by decide) rfl pcM (cl ?_), fun ν hk => mo hk ?_⟩
          · exact Ok.s (X11_ownerOf (by omega)) (Ok.e c1' (Ok.s X11_out (Ok.t b3 badC)))
          · refine Ok.s (X12_ownerOf (by omega)) (Ok.e c1' (Ok.s X12_in ?_))
            rw [b3]
            exact Ok.e fnt (bad2 hk)
        · have b3' : outb p3 1 999 = false := by simpa using b3
          obtain ⟨m, hm1, hm, rfl⟩ := outb_1 (b := 999) rfl (by decide) b3'
          by_cases b4 : outb p4 0 9 = true
          · refine ⟨2, 0, n, f, L, r, R, h.1.w, h.2.2.2, wrapG3 (k := 1) (by decide) rfl pcM (cl ?_), fun ν hk => mo hk ?_⟩
            · exact Ok.s (X11_ownerOf (by omega)) (Ok.e c1' (Ok.s X11_out (Ok.e b3 (Ok.s X11_out (Ok.t b4 badC)))))
            · refine Ok.s (X12_ownerOf (by omega)) (Ok.e c1' (Ok.s X12_in ?_))
              rw [b3']
              refine Ok.t rfl (Ok.s X12_in ?_)
              rw [b4]
              exact Ok.e fnt (bad2 hk)
          · have b4' : outb p4 0 9 = false := by simpa using b4
            obtain ⟨k, hk9, rfl⟩ := outb_rng (b := 9) rfl (by decide) b4'
            by_cases b5 : outb p5 1 9999 = true
            · refine ⟨2, 0, n, f, L, r, R, h.1.w, h.2.2.2, wrapG3 (k := 1) (by decide) rfl pcM (cl ?_), fun ν hk => mo hk ?_⟩
              · exact Ok.s (X11_ownerOf (by omega)) (Ok.e c1' (Ok.s X11_out (Ok.e b3 (Ok.s X11_out (Ok.e b4 (Ok.s X11_out (Ok.t b5 badC)))))))
              · refine Ok.s (X12_ownerOf (by omega)) (Ok.e c1' (Ok.s X12_in ?_))
                rw [b3']
                refine Ok.t rfl (Ok.s X12_in ?_)
                rw [b4']
                refine Ok.t rfl (Ok.s X12_in ?_)
                rw [nb, b5]
                exact Ok.s (X12_thrT 2) (Ok.t rfl (noM h hk (by decide)))
            · have b5' : outb p5 1 9999 = false := by simpa using b5
              obtain ⟨d, hd1, hd, rfl⟩ := outb_1 (b := 9999) rfl (by decide) b5'
              by_cases c6 : L 6 l = 0
              · by_cases c7 : nI m ≤ L 1 p
                · refine ⟨0, lendA L p l (nI m) (nI k) (nI d) 1 p, n, f, lendA L p l (nI m) (nI k) (nI d), min 12 (r + 1), pushR (n, f, L) R, h.1.w.lend hn hp hl c1 hm1 hm hk9 hd c7, wf_push h, wrapG3 (k := 0) (by decide) rfl pcM (cl ?_), fun ν hk => mo hk ?_⟩
                  · refine Ok.s (X11_ownerOf (by omega)) (Ok.e c1' (Ok.s X11_out (Ok.e b3 (Ok.s X11_out (Ok.e b4 (Ok.s X11_out (Ok.e b5 ?_)))))))
                    refine Ok.s (h.1.c.rdL (k := 6) (by decide) hl) (Ok.t c6 (Ok.s (h.1.c.rdP (k := 1) (by decide) hp) (Ok.t c7 ?_)))
                    exact X11_lend_do h hp hl hm (nI k) (nI d)
                  · refine Ok.s (X12_ownerOf (by omega)) (Ok.e c1' (Ok.s X12_in ?_))
                    rw [b3']
                    refine Ok.t rfl (Ok.s X12_in ?_)
                    rw [b4']
                    refine Ok.t rfl (Ok.s X12_in ?_)
                    rw [nb, b5']
                    refine Ok.s (X12_thrF 2) (Ok.e fnt (Ok.s (X12_isIn (h.half hk).1 hl) (Ok.t (decide_eq_true c6) (Ok.s (X12_of0 (h.half hk).1 hp) ?_))))
                    rw [if_pos c7]
                    refine Ok.s (X12_thrF 3) (Ok.e fnt ?_)
                    exact X12_lend_do h hk hp hl (nI m) (nI k) (nI d)
                · refine ⟨3, 0, n, f, L, r, R, h.1.w, h.2.2.2, wrapG3 (k := 3) (by decide) rfl pcM (cl ?_), fun ν hk => mo hk ?_⟩
                  · refine Ok.s (X11_ownerOf (by omega)) (Ok.e c1' (Ok.s X11_out (Ok.e b3 (Ok.s X11_out (Ok.e b4 (Ok.s X11_out (Ok.e b5 ?_)))))))
                    refine Ok.s (h.1.c.rdL (k := 6) (by decide) hl) (Ok.t c6 (Ok.s (h.1.c.rdP (k := 1) (by decide) hp) (Ok.e c7 ?_)))
                    exact noC h (by decide)
                  · refine Ok.s (X12_ownerOf (by omega)) (Ok.e c1' (Ok.s X12_in ?_))
                    rw [b3']
                    refine Ok.t rfl (Ok.s X12_in ?_)
                    rw [b4']
                    refine Ok.t rfl (Ok.s X12_in ?_)
                    rw [nb, b5']
                    refine Ok.s (X12_thrF 2) (Ok.e fnt (Ok.s (X12_isIn (h.half hk).1 hl) (Ok.t (decide_eq_true c6) (Ok.s (X12_of0 (h.half hk).1 hp) ?_))))
                    rw [if_neg c7]
                    exact Ok.s (X12_thrT 3) (Ok.t rfl (noM h hk (by decide)))
              · refine ⟨3, 0, n, f, L, r, R, h.1.w, h.2.2.2, wrapG3 (k := 3) (by decide) rfl pcM (cl ?_), fun ν hk => mo hk ?_⟩
                · refine Ok.s (X11_ownerOf (by omega)) (Ok.e c1' (Ok.s X11_out (Ok.e b3 (Ok.s X11_out (Ok.e b4 (Ok.s X11_out (Ok.e b5 ?_)))))))
                  refine Ok.s (h.1.c.rdL (k := 6) (by decide) hl) (Ok.e c6 ?_)
                  exact noC h (by decide)
                · refine Ok.s (X12_ownerOf (by omega)) (Ok.e c1' (Ok.s X12_in ?_))
                  rw [b3']
                  refine Ok.t rfl (Ok.s X12_in ?_)
                  rw [b4']
                  refine Ok.t rfl (Ok.s X12_in ?_)
                  rw [nb, b5']
                  refine Ok.s (X12_thrF 2) (Ok.e fnt (Ok.s (X12_isIn (h.half hk).1 hl) (Ok.e (by simp [c6]) ?_)))
                  unfold f_X12_lend_j112 f_X12_lend_j117
                  exact Ok.s (X12_thrT 3) (Ok.t rfl (noM h hk (by decide)))
theorem a_pay (h : SR n f L T r R μ) (p1 : Int32) : AgM (T 0 0) μ (f_L_pay μ p1) (fun ν => f_X12_pay ν p1) := by
  have hn := h.1.n6
  by_cases b1 : outb p1 0 (nI (2 * n) - 1) = true
  · refine ⟨1, 0, n, f, L, r, R, h.1.w, h.2.2.2, wrapG2 (k := 2) (by decide) rfl pcM ?_, fun ν hk => ?_⟩
    · unfold f_X11_pay
      refine Ok.s (X11_needLace h.1.c p1) ?_
      rw [if_pos b1]
      exact elimL' (noC h (by decide))
    · unfold f_X12_pay
      refine Ok.s (X12_noLace (h.half hk).1 p1) ?_
      rw [b1]
      exact Ok.s (X12_thrT 1) (Ok.t rfl (noM h hk (by decide)))
  · have b1' : outb p1 0 (nI (2 * n) - 1) = false := by simpa using b1
    obtain ⟨l, hl, rfl⟩ := outb_ix (by omega) b1'
    by_cases c : L 6 l = 1
    · have hP := (h.1.w.lace hl).pledged c
      have ho : l / 2 < n := by omega
      by_cases c2 : L 8 l ≤ L 1 (l / 2)
      · refine ⟨0, L 8 l, n, f, payA L l (l / 2) (idx (L 7 l)), min 12 (r + 1), pushR (n, f, L) R, h.1.w.pay hn hl hP ho (hP.hold hn).1 (Int32.not_lt.mpr c2), wf_push h, wrapG2 (k := 0) (by decide) rfl pcM ?_, fun ν hk => ?_⟩
        · unfold f_X11_pay
          refine Ok.s (X11_needLace h.1.c _) ?_
          rw [if_neg b1]
          refine elimR' (Ok.s (X11_ownerOf (by omega)) (Ok.s (X2_isPledged h.1.c hl) (Ok.t (decide_eq_true c) (Ok.s (h.1.c.rdP (k := 1) (by decide) ho) (Ok.s (h.1.c.rdL (k := 8) (by decide) hl) (Ok.t c2 ?_))))))
          refine (remC h).b fun ν hv => ?_
          refine Ok.s (hv.1.rdL (k := 8) (by decide) hl) ?_
          refine (X2_payOff hv.1 h.1.w hl hP ho).b fun ν2 h2 => ?_
          exact XR.yes rfl ⟨h2.1, hv.2.2.1.a3 h2.2, hv.2.2.2.trans (h2.2.mono fun k hk => sA3 hk)⟩
        · unfold f_X12_pay
          refine Ok.s (X12_noLace (h.half hk).1 _) ?_
          rw [b1']
          refine Ok.s (X12_thrF 1) (Ok.e fnt ?_)
          refine Ok.s (X12_isPledged (h.half hk).1 hl) (Ok.t (decide_eq_true c) (Ok.s (X12_ownerOf (by omega)) (Ok.s (X12_of0 (h.half hk).1 ho) (Ok.s (X12_lace2 (h.half hk).1 hl) ?_))))
          rw [if_pos c2]
          refine Ok.s (X12_thrF 2) (Ok.e fnt ((remM h hk).b fun ν1 hv => ?_))
          refine Ok.s (X12_lace2 hv.1 hl) (Ok.s (X12_ownerOf (by omega)) ?_)
          refine (X12_isPaid hv.1 hl hP ho).b fun ν2 h2 => ?_
          exact doM rfl (fun k hk => Or.inl hk) hv.2.2.1 hv.2.2.2.1 hv.2.2.2.2.1 hv.2.2.2.2.2 h2.1 h2.2
      · refine ⟨2, 0, n, f, L, r, R, h.1.w, h.2.2.2, wrapG2 (k := 3) (by decide) rfl pcM ?_, fun ν hk => ?_⟩
        · unfold f_X11_pay
          refine Ok.s (X11_needLace h.1.c _) ?_
          rw [if_neg b1]
          refine elimR' (Ok.s (X11_ownerOf (by omega)) (Ok.s (X2_isPledged h.1.c hl) (Ok.t (decide_eq_true c) (Ok.s (h.1.c.rdP (k := 1) (by decide) ho) (Ok.s (h.1.c.rdL (k := 8) (by decide) hl) (Ok.e c2 ?_))))))
          exact noC h (by decide)
        · unfold f_X12_pay
          refine Ok.s (X12_noLace (h.half hk).1 _) ?_
          rw [b1']
          refine Ok.s (X12_thrF 1) (Ok.e fnt ?_)
          refine Ok.s (X12_isPledged (h.half hk).1 hl) (Ok.t (decide_eq_true c) (Ok.s (X12_ownerOf (by omega)) (Ok.s (X12_of0 (h.half hk).1 ho) (Ok.s (X12_lace2 (h.half hk).1 hl) ?_))))
          rw [if_neg c2]
          exact Ok.s (X12_thrT 2) (Ok.t rfl (noM h hk (by decide)))
    · refine ⟨2, 0, n, f, L, r, R, h.1.w, h.2.2.2, wrapG2 (k := 3) (by decide) rfl pcM ?_, fun ν hk => ?_⟩
      · unfold f_X11_pay
        refine Ok.s (X11_needLace h.1.c _) ?_
        rw [if_neg b1]
        refine elimR' (Ok.s (X11_ownerOf (by omega)) (Ok.s (X2_isPledged h.1.c hl) (Ok.e (by simp [c]) ?_)))
        exact noC h (by decide)
      · unfold f_X12_pay
        refine Ok.s (X12_noLace (h.half hk).1 _) ?_
        rw [b1']
        refine Ok.s (X12_thrF 1) (Ok.e fnt ?_)
        refine Ok.s (X12_isPledged (h.half hk).1 hl) (Ok.e (by simp [c]) ?_)
        unfold f_X12_pay_j45 f_X12_pay_j50
        exact Ok.s (X12_thrT 2) (Ok.t rfl (noM h hk (by decide)))
end A2
