/-! SURETY, GIVE, SEED -/
section A3
variable {n : Nat} {f : Int32} {μ : Mem} {L : Ld} {T : Tx} {a r : Nat} {R : Nat → Rec9}
theorem WF.sur (h : WF n L) {l : Nat} {v : Int32} (c : L 6 l = 1) (hv : v = -1 ∨ ∃ s, s < n ∧ s ≠ l / 2 ∧ nI s ≠ L 7 l ∧ v = nI s) : WF n (upd2 L 11 l v) := by
  refine h.upd (by decide) (fun q => absurd q (by decide)) (fun _ q => absurd q (by decide)) (fun _ hl2 => ?_)
  obtain ⟨m1, h', m2, m3, m4, m5, m6, m7, m8⟩ := (h.lace hl2).pledged c
  refine Or.inr (Or.inl ⟨m1, h', m2, m3, m4, m5, m6, m7, ?_⟩)
  rw [upd2_at]
  rcases hv with q | ⟨s, q1, q2, q3, q4⟩
  · exact Or.inl q
  · exact Or.inr ⟨s, q1, q2, fun e => q3 (by rw [m4, e]), q4⟩
theorem a_surety (h : SR n f L T r R μ) (p1 p2 : Int32) : AgM (T 0 0) μ (f_L_surety μ p1 p2) (fun ν => f_X12_surety ν p1 p2) := by
  have hn := h.1.n6
  by_cases b1 : outb p1 0 (nI (2 * n) - 1) = true
  · refine ⟨1, 0, n, f, L, r, R, h.1.w, h.2.2.2, wrapG3 (k := 2) (by decide) rfl pcM ?_, fun ν hk => ?_⟩
    · unfold f_X11_surety
      refine Ok.s (X11_needLace h.1.c p1) ?_
      rw [if_pos b1]
      exact elimL' (noC h (by decide))
    · unfold f_X12_surety
      refine Ok.s (X12_noLace (h.half hk).1 p1) ?_
      rw [b1]
      refine Ok.t rfl ?_
      unfold f_X12_surety_j27 f_X12_surety_j32
      exact Ok.s (X12_thrT 1) (Ok.t rfl (noM h hk (by decide)))
  · have b1' : outb p1 0 (nI (2 * n) - 1) = false := by simpa using b1
    obtain ⟨l, hl, rfl⟩ := outb_ix (by omega) b1'
    -- the pledged check and the change
    have yC : ∀ v, L 6 l = 1 → Ok (f_X11_surety_j47 μ (nI l) v) (XR 0 (L 11 l) (fun ν => CL n f ν 3 (upd2 L 11 l v) ∧ RC ν (min 12 (r + 1)) (pushR (n, f, L) R) ∧ Fr cM μ ν)) := fun v c => by
      unfold f_X11_surety_j47 f_X11_needPledged
      refine Ok.s (a := Sum.inr μ) (bs (X2_isPledged h.1.c hl) (it (decide_eq_true c) rfl)) (elimR' ((remC h).b fun ν hv => ?_))
      refine Ok.s (hv.1.rdL (k := 11) (by decide) hl) (Ok.s (wr_nI (by omega) (by decide)) ?_)
      exact XR.yes rfl ⟨hv.1.set (k := 11) (by decide) (by omega), hv.2.2.1.fr fun k h1 h2 => mset_ne (by omega), hv.2.2.2.put (sA3 (by unfold sA; omega))⟩
    have nC : ∀ v w, ¬ L 6 l = 1 → Ok (f_X11_surety_j47 μ (nI l) v) (XR 3 w (fun ν => CL n f ν 3 L ∧ RC ν r R ∧ Fr cM μ ν)) := fun v w c => by
      unfold f_X11_surety_j47 f_X11_needPledged
      exact Ok.s (a := Sum.inl (3, μ)) (bs (X2_isPledged h.1.c hl) (ie (by simp [c]) rfl)) (elimL' (noC h (by decide)))
    have yM : ∀ {ν : Mem} (_ : Fr cM μ ν) v, L 6 l = 1 → Ok (Option.bind (f_X12_remembers (mset ν 264 0 0)) fun q5 => Option.bind (f_X12_ofLace q5 (nI l) 5) fun t6 => Option.bind (f_X12_laceAt q5 (nI l) 5) fun t7 => Option.bind (wr q5 265 2068 t7 v) fun μ8 => some (t6, μ8)) (MR ν 0 (L 11 l) (fun ν' => ML n f (ν' 265) (upd2 L 11 l v) ∧ RM ν' (T 0 0) (min 12 (r + 1)) (pushR (n, f, L) R) ∧ Ms mM ν ν' ∧ keep3 ν ν')) := fun {ν} hk v c => by
      refine (remM h hk).b fun ν1 hv => ?_
      refine Ok.s (X12_lace5 hv.1 hl) (Ok.s (X12_laceAtN (k := 5)) (Ok.s (wr_nI (by omega) (by decide)) ?_))
      exact doM (S := s65) rfl (fun k hk => Or.inl hk) hv.2.2.1 hv.2.2.2.1 hv.2.2.2.2.1 hv.2.2.2.2.2 (hv.1.putL (k := 11) (by decide) hl rfl) (Ms.set (S := s65) rfl (by omega) (by omega))
    by_cases e1 : p2 = -1
    · subst e1
      by_cases c : L 6 l = 1
      · refine ⟨0, L 11 l, n, f, upd2 L 11 l (-1), min 12 (r + 1), pushR (n, f, L) R, h.1.w.sur c (Or.inl rfl), wf_push h, wrapG3 (k := 0) (by decide) rfl pcM ?_, fun ν hk => ?_⟩
        · unfold f_X11_surety
          refine Ok.s (X11_needLace h.1.c _) ?_
          rw [if_neg b1]
          exact elimR' (Ok.t rfl (yC _ c))
        · unfold f_X12_surety
          refine Ok.s (X12_noLace (h.half hk).1 _) ?_
          rw [b1']
          refine Ok.e fnt (Ok.t rfl ?_)
          unfold f_X12_surety_j31 f_X12_surety_j32 f_X12_surety_j69 f_X12_surety_j70
          refine Ok.s (X12_thrF 1) (Ok.e fnt (Ok.t rfl (Ok.s (X12_thrF 2) (Ok.e fnt (Ok.s (X12_isPledged (h.half hk).1 hl) ?_)))))
          rw [decide_eq_true c]
          exact Ok.s (X12_thrF 3) (Ok.e fnt (yM hk _ c))
      · refine ⟨3, 0, n, f, L, r, R, h.1.w, h.2.2.2, wrapG3 (k := 3) (by decide) rfl pcM ?_, fun ν hk => ?_⟩
        · unfold f_X11_surety
          refine Ok.s (X11_needLace h.1.c _) ?_
          rw [if_neg b1]
          exact elimR' (Ok.t rfl (nC _ _ c))
        · unfold f_X12_surety
          refine Ok.s (X12_noLace (h.half hk).1 _) ?_
          rw [b1']
          refine Ok.e fnt (Ok.t rfl ?_)
          unfold f_X12_surety_j31 f_X12_surety_j32 f_X12_surety_j69 f_X12_surety_j70
          refine Ok.s (X12_thrF 1) (Ok.e fnt (Ok.t rfl (Ok.s (X12_thrF 2) (Ok.e fnt (Ok.s (X12_isPledged (h.half hk).1 hl) ?_)))))
          rw [decide_eq_false c]
          exact Ok.s (X12_thrT 3) (Ok.t rfl (noM h hk (by decide)))
    · by_cases b2 : outb p2 0 (nI n - 1) = true
      · refine ⟨1, 0, n, f, L, r, R, h.1.w, h.2.2.2, wrapG3 (k := 2) (by decide) rfl pcM ?_, fun ν hk => ?_⟩
        · unfold f_X11_surety
          refine Ok.s (X11_needLace h.1.c _) ?_
          rw [if_neg b1]
          refine elimR' (Ok.e e1 (Ok.s (X11_needPerson h.1.c p2) ?_))
          rw [if_pos b2]
          exact elimL' (noC h (by decide))
        · unfold f_X12_surety
          refine Ok.s (X12_noLace (h.half hk).1 _) ?_
          rw [b1']
          refine Ok.e fnt (Ok.e e1 (Ok.s (X12_noPerson (h.half hk).1 p2) ?_))
          rw [b2]
          exact Ok.s (X12_thrT 1) (Ok.t rfl (noM h hk (by decide)))
      · have b2' : outb p2 0 (nI n - 1) = false := by simpa using b2
        obtain ⟨q, hq, rfl⟩ := outb_ix (by omega) b2'
        by_cases c1 : q = l / 2
        · refine ⟨2, 0, n, f, L, r, R, h.1.w, h.2.2.2, wrapG3 (k := 1) (by decide) rfl pcM ?_, fun ν hk => ?_⟩
          · unfold f_X11_surety
            refine Ok.s (X11_needLace h.1.c _) ?_
            rw [if_neg b1]
            refine elimR' (Ok.e e1 (Ok.s (X11_needPerson h.1.c _) ?_))
            rw [if_neg b2]
            exact elimR' (Ok.s (X11_ownerOf (by omega)) (Ok.t (by rw [c1]) (noC h (by decide))))
          · unfold f_X12_surety
            refine Ok.s (X12_noLace (h.half hk).1 _) ?_
            rw [b1']
            refine Ok.e fnt (Ok.e e1 (Ok.s (X12_noPerson (h.half hk).1 _) ?_))
            rw [b2']
            refine Ok.s (X12_thrF 1) (Ok.e fnt (Ok.e e1 (Ok.s (X12_ownerOf (by omega)) (Ok.t (by rw [c1]) ?_))))
            unfold f_X12_surety_j65 f_X12_surety_j70
            exact Ok.s (X12_thrT 2) (Ok.t rfl (noM h hk (by decide)))
        · have c1' : ¬ nI q = nI (l / 2) := fun w => c1 ((nI_eq (by omega) (by omega)).mp w)
          by_cases c2 : nI q = L 7 l
          · refine ⟨2, 0, n, f, L, r, R, h.1.w, h.2.2.2, wrapG3 (k := 1) (by decide) rfl pcM ?_, fun ν hk => ?_⟩
            · unfold f_X11_surety
              refine Ok.s (X11_needLace h.1.c _) ?_
              rw [if_neg b1]
              refine elimR' (Ok.e e1 (Ok.s (X11_needPerson h.1.c _) ?_))
              rw [if_neg b2]
              exact elimR' (Ok.s (X11_ownerOf (by omega)) (Ok.e c1' (Ok.s (h.1.c.rdL (k := 7) (by decide) hl) (Ok.t c2 (noC h (by decide))))))
            · unfold f_X12_surety
              refine Ok.s (X12_noLace (h.half hk).1 _) ?_
              rw [b1']
              refine Ok.e fnt (Ok.e e1 (Ok.s (X12_noPerson (h.half hk).1 _) ?_))
              rw [b2']
              refine Ok.s (X12_thrF 1) (Ok.e fnt (Ok.e e1 (Ok.s (X12_ownerOf (by omega)) (Ok.e c1' (Ok.s (X12_lace1 (h.half hk).1 hl) ?_)))))
              rw [if_pos c2]
              exact Ok.s (X12_thrT 2) (Ok.t rfl (noM h hk (by decide)))
          · by_cases c : L 6 l = 1
            · refine ⟨0, L 11 l, n, f, upd2 L 11 l (nI q), min 12 (r + 1), pushR (n, f, L) R, h.1.w.sur c (Or.inr ⟨q, hq, c1, c2, rfl⟩), wf_push h, wrapG3 (k := 0) (by decide) rfl pcM ?_, fun ν hk => ?_⟩
              · unfold f_X11_surety
                refine Ok.s (X11_needLace h.1.c _) ?_
                rw [if_neg b1]
                refine elimR' (Ok.e e1 (Ok.s (X11_needPerson h.1.c _) ?_))
                rw [if_neg b2]
                exact elimR' (Ok.s (X11_ownerOf (by omega)) (Ok.e c1' (Ok.s (h.1.c.rdL (k := 7) (by decide) hl) (Ok.e c2 (yC _ c)))))
              · unfold f_X12_surety
                refine Ok.s (X12_noLace (h.half hk).1 _) ?_
                rw [b1']
                refine Ok.e fnt (Ok.e e1 (Ok.s (X12_noPerson (h.half hk).1 _) ?_))
                rw [b2']
                refine Ok.s (X12_thrF 1) (Ok.e fnt (Ok.e e1 (Ok.s (X12_ownerOf (by omega)) (Ok.e c1' (Ok.s (X12_lace1 (h.half hk).1 hl) ?_)))))
                rw [if_neg c2]
                refine Ok.s (X12_thrF 2) (Ok.e fnt (Ok.s (X12_isPledged (h.half hk).1 hl) ?_))
                rw [decide_eq_true c]
                exact Ok.s (X12_thrF 3) (Ok.e fnt (yM hk _ c))
            · refine ⟨3, 0, n, f, L, r, R, h.1.w, h.2.2.2, wrapG3 (k := 3) (by decide) rfl pcM ?_, fun ν hk => ?_⟩
              · unfold f_X11_surety
                refine Ok.s (X11_needLace h.1.c _) ?_
                rw [if_neg b1]
                refine elimR' (Ok.e e1 (Ok.s (X11_needPerson h.1.c _) ?_))
                rw [if_neg b2]
                exact elimR' (Ok.s (X11_ownerOf (by omega)) (Ok.e c1' (Ok.s (h.1.c.rdL (k := 7) (by decide) hl) (Ok.e c2 (nC _ _ c)))))
              · unfold f_X12_surety
                refine Ok.s (X12_noLace (h.half hk).1 _) ?_
                rw [b1']
                refine Ok.e fnt (Ok.e e1 (Ok.s (X12_noPerson (h.half hk).1 _) ?_))
                rw [b2']
                refine Ok.s (X12_thrF 1) (Ok.e fnt (Ok.e e1 (Ok.s (X12_ownerOf (by omega)) (Ok.e c1' (Ok.s (X12_lace1 (h.half hk).1 hl) ?_)))))
                rw [if_neg c2]
                refine Ok.s (X12_thrF 2) (Ok.e fnt (Ok.s (X12_isPledged (h.half hk).1 hl) ?_))
                rw [decide_eq_false c]
                exact Ok.s (X12_thrT 3) (Ok.t rfl (noM h hk (by decide)))
def giveA (L : Ld) (l q h : Nat) : Ld := upd2 (earnA (upd2 L 1 q (L 1 q - L 8 l)) h (L 8 l)) 7 l (nI q)
theorem WF.give (h : WF n L) (hn : n ≤ 6) {l q h' : Nat} (hl : l < 2 * n) (hq : q < n) (hh : h' < n) (c : L 6 l = 1) (c1 : q ≠ l / 2) (c3 : ¬ nI q = L 11 l) (hb : L 8 l ≤ L 1 q) : WF n (giveA L l q h') := by
  obtain ⟨m1, h'', m2, m3, m4, ⟨m, m5, m5', em⟩, m6, m7, m8⟩ := (h.lace hl).pledged c
  obtain ⟨x, hx, ex⟩ := (h.man hq).1
  rw [ex, em] at hb
  obtain ⟨g1, g2⟩ := sub_le hx m5' hb
  unfold giveA
  have w1 : WF n (earnA (upd2 L 1 q (L 1 q - L 8 l)) h' (L 8 l)) := WF.earn (m := m) (h.purse g2 (by rw [ex, em]; exact g1)) hh m5' em
  refine w1.upd (by decide) (fun q => absurd q (by decide)) (fun _ q => absurd q (by decide)) (fun _ hl2 => ?_)
  refine Or.inr (Or.inl ⟨m1, q, hq, c1, by rw [upd2_at], ⟨m, m5, m5', em⟩, m6, m7, ?_⟩)
  rcases m8 with s | ⟨s, q1, q2, q3, q4⟩
  · exact Or.inl s
  · exact Or.inr ⟨s, q1, q2, fun e => c3 (by rw [q4, e]), q4⟩
theorem a_give (h : SR n f L T r R μ) (p1 p2 : Int32) : AgM (T 0 0) μ (f_L_give μ p1 p2) (fun ν => f_X12_give ν p1 p2) := by
  have hn := h.1.n6
  by_cases b1 : outb p1 0 (nI (2 * n) - 1) = true
  · refine ⟨1, 0, n, f, L, r, R, h.1.w, h.2.2.2, wrapG3 (k := 2) (by decide) rfl pcM ?_, fun ν hk => ?_⟩
    · unfold f_X11_give
      refine Ok.s (X11_needLace h.1.c p1) ?_
      rw [if_pos b1]
      exact elimL' (noC h (by decide))
    · unfold f_X12_give
      refine Ok.s (X12_noLace (h.half hk).1 p1) ?_
      rw [b1]
      refine Ok.t rfl ?_
      unfold f_X12_give_j22 f_X12_give_j27
      exact Ok.s (X12_thrT 1) (Ok.t rfl (noM h hk (by decide)))
  · have b1' : outb p1 0 (nI (2 * n) - 1) = false := by simpa using b1
    obtain ⟨l, hl, rfl⟩ := outb_ix (by omega) b1'
    by_cases b2 : outb p2 0 (nI n - 1) = true
    · refine ⟨1, 0, n, f, L, r, R, h.1.w, h.2.2.2, wrapG3 (k := 2) (by decide) rfl pcM ?_, fun ν hk => ?_⟩
      · unfold f_X11_give
        refine Ok.s (X11_needLace h.1.c _) ?_
        rw [if_neg b1]
        refine elimR' (Ok.s (X11_needPerson h.1.c p2) ?_)
        rw [if_pos b2]
        exact elimL' (noC h (by decide))
      · unfold f_X12_give
        refine Ok.s (X12_noLace (h.half hk).1 _) ?_
        rw [b1']
        refine Ok.e fnt (Ok.s (X12_noPerson (h.half hk).1 p2) ?_)
        rw [b2]
        exact Ok.s (X12_thrT 1) (Ok.t rfl (noM h hk (by decide)))
    · have b2' : outb p2 0 (nI n - 1) = false := by simpa using b2
      obtain ⟨q, hq, rfl⟩ := outb_ix (by omega) b2'
      by_cases bad : q = l / 2 ∨ nI q = L 7 l ∨ nI q = L 11 l
      · refine ⟨2, 0, n, f, L, r, R, h.1.w, h.2.2.2, wrapG3 (k := 1) (by decide) rfl pcM ?_, fun ν hk => ?_⟩
        · unfold f_X11_give
          refine Ok.s (X11_needLace h.1.c _) ?_
          rw [if_neg b1]
          refine elimR' (Ok.s (X11_needPerson h.1.c _) ?_)
          rw [if_neg b2]
          refine elimR' (Ok.s (X11_ownerOf (by omega)) ?_)
          by_cases c1 : q = l / 2
          · exact Ok.t (by rw [c1]) (noC h (by decide))
          · refine Ok.e (fun w => c1 ((nI_eq (by omega) (by omega)).mp w)) (Ok.s (h.1.c.rdL (k := 7) (by decide) hl) ?_)
            by_cases c2 : nI q = L 7 l
            · exact Ok.t c2 (noC h (by decide))
            · refine Ok.e c2 (Ok.s (h.1.c.rdL (k := 11) (by decide) hl) (Ok.t ?_ (noC h (by decide))))
              rcases bad with s | s | s
              · exact absurd s c1
              · exact absurd s c2
              · exact s
        · unfold f_X12_give
          refine Ok.s (X12_noLace (h.half hk).1 _) ?_
          rw [b1']
          refine Ok.e fnt (Ok.s (X12_noPerson (h.half hk).1 _) ?_)
          rw [b2']
          refine Ok.s (X12_thrF 1) (Ok.e fnt (Ok.s (X12_ownerOf (by omega)) ?_))
          have j65 : Ok (f_X12_give_j65 (mset ν 264 0 0) (nI l) (nI q)) (MR ν 2 0 (fun ν' => ML n f (ν' 265) L ∧ RM ν' (T 0 0) r R ∧ Ms mM ν ν' ∧ keep3 ν ν')) := by
            unfold f_X12_give_j65 f_X12_give_j70
            exact Ok.s (X12_thrT 2) (Ok.t rfl (noM h hk (by decide)))
          by_cases c1 : q = l / 2
          · exact Ok.t (by rw [c1]) j65
          · refine Ok.e (fun w => c1 ((nI_eq (by omega) (by omega)).mp w)) (Ok.s (X12_lace1 (h.half hk).1 hl) ?_)
            by_cases c2 : nI q = L 7 l
            · exact Ok.t c2 j65
            · refine Ok.e c2 (Ok.s (X12_lace5 (h.half hk).1 hl) ?_)
              rw [if_pos (by
                rcases bad with s | s | s
                · exact absurd s c1
                · exact absurd s c2
                · exact s)]
              exact Ok.s (X12_thrT 2) (Ok.t rfl (noM h hk (by decide)))
      · have c1 : q ≠ l / 2 := fun w => bad (Or.inl w)
        have c2 : ¬ nI q = L 7 l := fun w => bad (Or.inr (Or.inl w))
        have c3 : ¬ nI q = L 11 l := fun w => bad (Or.inr (Or.inr w))
        have c1' : ¬ nI q = nI (l / 2) := fun w => c1 ((nI_eq (by omega) (by omega)).mp w)
        have cl : ∀ {P : (Nat × Mem) ⊕ (Int32 × Mem) → Prop}, Ok (Option.bind (f_X11_needPledged μ (nI l)) fun q8 => Sum.elim (fun e9 => some (.inl e9)) (fun v9 => Option.bind (rd v9 4 6 (nI q)) fun t10 => Option.bind (rd v9 11 12 (nI l)) fun t11 => if t11 ≤ t10 then Option.bind (f_X0_remember v9 3) fun q12 => Option.bind (rd q12 10 12 (nI l)) fun t13 => Option.bind (rd q12 4 6 (nI q)) fun t14 => Option.bind (rd q12 11 12 (nI l)) fun t15 => Option.bind (wr q12 4 6 (nI q) (t14 - t15)) fun μ16 => Option.bind (rd μ16 11 12 (nI l)) fun t17 => Option.bind (f_X2_earn μ16 3 t13 t17) fun q18 => Option.bind (wr q18 10 12 (nI l) (nI q)) fun μ19 => some (.inr (t13, μ19)) else some (.inl (3, v9))) q8) P → Ok (f_X11_give μ (nI l) (nI q)) P := by
          intro P hP
          unfold f_X11_give
          refine Ok.s (X11_needLace h.1.c _) ?_
          rw [if_neg b1]
          refine elimR' (Ok.s (X11_needPerson h.1.c _) ?_)
          rw [if_neg b2]
          exact elimR' (Ok.s (X11_ownerOf (by omega)) (Ok.e c1' (Ok.s (h.1.c.rdL (k := 7) (by decide) hl) (Ok.e c2 (Ok.s (h.1.c.rdL (k := 11) (by decide) hl) (Ok.e c3 hP))))))
        by_cases c : L 6 l = 1
        · have hP := (h.1.w.lace hl).pledged c
          obtain ⟨hh, eh⟩ := hP.hold hn
          by_cases c4 : L 8 l ≤ L 1 q
          · refine ⟨0, L 7 l, n, f, giveA L l q (idx (L 7 l)), min 12 (r + 1), pushR (n, f, L) R, h.1.w.give hn hl hq hh c c1 c3 c4, wf_push h, wrapG3 (k := 0) (by decide) rfl pcM (cl ?_), fun ν hk => ?_⟩
            · refine Ok.s (a := Sum.inr μ) (by unfold f_X11_needPledged; exact bs (X2_isPledged h.1.c hl) (it (decide_eq_true c) rfl)) (elimR' ?_)
              refine Ok.s (h.1.c.rdP (k := 1) (by decide) hq) (Ok.s (h.1.c.rdL (k := 8) (by decide) hl) (Ok.t c4 ?_))
              refine (remC h).b fun ν hv => ?_
              refine Ok.s (a := nI (idx (L 7 l))) (by rw [← eh]; exact hv.1.rdL (k := 7) (by decide) hl) ?_
              refine Ok.s (hv.1.rdP (k := 1) (by decide) hq) (Ok.s (hv.1.rdL (k := 8) (by decide) hl) (Ok.s (wr_nI (by omega) (by decide)) ?_))
              have k1 : CL n f (mset ν 4 q (L 1 q - L 8 l)) 3 (upd2 L 1 q (L 1 q - L 8 l)) := hv.1.set (k := 1) (by decide) (by omega)
              refine Ok.s (a := L 8 l) (k1.rdL (k := 8) (by decide) hl) ?_
              refine (X2_earn k1 hh (L 8 l)).b fun ν2 h2 => ?_
              refine Ok.s (wr_nI (by omega) (by decide)) ?_
              have hF : Fr (sA 3) ν (mset ν2 10 l (nI q)) := ((Fr.set (show sA 3 4 by unfold sA; omega)).trans (h2.2.mono fun k hk => by unfold sA; omega)).put (by unfold sA; omega)
              exact XR.yes eh.symm ⟨h2.1.set (k := 7) (by decide) (by omega), hv.2.2.1.a3 hF, hv.2.2.2.trans (hF.mono fun k hk => sA3 hk)⟩
            · unfold f_X12_give
              refine Ok.s (X12_noLace (h.half hk).1 _) ?_
              rw [b1']
              refine Ok.e fnt (Ok.s (X12_noPerson (h.half hk).1 _) ?_)
              rw [b2']
              refine Ok.s (X12_thrF 1) (Ok.e fnt (Ok.s (X12_ownerOf (by omega)) (Ok.e c1' (Ok.s (X12_lace1 (h.half hk).1 hl) (Ok.e c2 (Ok.s (X12_lace5 (h.half hk).1 hl) ?_))))))
              rw [if_neg c3]
              refine Ok.s (X12_thrF 2) (Ok.e fnt (Ok.s (X12_isPledged (h.half hk).1 hl) (Ok.t (decide_eq_true c) (Ok.s (X12_of0 (h.half hk).1 hq) (Ok.s (X12_lace2 (h.half hk).1 hl) ?_)))))
              rw [if_pos c4]
              refine Ok.s (X12_thrF 3) (Ok.e fnt ((remM h hk).b fun ν1 hv => ?_))
              refine Ok.s (a := nI (idx (L 7 l))) (by rw [← eh]; exact X12_lace1 hv.1 hl) ?_
              refine Ok.s (X12_atN (k := 0)) ?_
              refine Ok.s (a := L 1 q) (by rw [rd_nI (by omega) (by decide)]; exact congrArg some (hv.1.atP (k := 1) (by decide) hq)) ?_
              refine Ok.s (X12_lace2 hv.1 hl) (Ok.s (wr_nI (by omega) (by decide)) ?_)
              have k1 : ML n f (mset ν1 265 (28 + 5 * q + 0) (L 1 q - L 8 l) 265) (upd2 L 1 q (L 1 q - L 8 l)) := hv.1.putP (k := 1) (by decide) hq rfl
              refine Ok.s (a := L 8 l) (X12_lace2 k1 hl) ?_
              refine (X12_gets k1 hh (L 8 l)).b fun ν2 h2 => ?_
              refine Ok.s (X12_laceAtN (k := 1)) (Ok.s (wr_nI (by omega) (by decide)) ?_)
              exact doM (S := s65) eh.symm (fun k hk => Or.inl hk) hv.2.2.1 hv.2.2.2.1 hv.2.2.2.2.1 hv.2.2.2.2.2 (h2.1.putL (k := 7) (by decide) hl rfl) (((Ms.set (S := s65) rfl (by omega) (by omega)).trans h2.2).put rfl (by omega) (by omega))
          · refine ⟨3, 0, n, f, L, r, R, h.1.w, h.2.2.2, wrapG3 (k := 3) (by decide) rfl pcM (cl ?_), fun ν hk => ?_⟩
            · refine Ok.s (a := Sum.inr μ) (by unfold f_X11_needPledged; exact bs (X2_isPledged h.1.c hl) (it (decide_eq_true c) rfl)) (elimR' ?_)
              exact Ok.s (h.1.c.rdP (k := 1) (by decide) hq) (Ok.s (h.1.c.rdL (k := 8) (by decide) hl) (Ok.e c4 (noC h (by decide))))
            · unfold f_X12_give
              refine Ok.s (X12_noLace (h.half hk).1 _) ?_
              rw [b1']
              refine Ok.e fnt (Ok.s (X12_noPerson (h.half hk).1 _) ?_)
              rw [b2']
              refine Ok.s (X12_thrF 1) (Ok.e fnt (Ok.s (X12_ownerOf (by omega)) (Ok.e c1' (Ok.s (X12_lace1 (h.half hk).1 hl) (Ok.e c2 (Ok.s (X12_lace5 (h.half hk).1 hl) ?_))))))
              rw [if_neg c3]
              refine Ok.s (X12_thrF 2) (Ok.e fnt (Ok.s (X12_isPledged (h.half hk).1 hl) (Ok.t (decide_eq_true c) (Ok.s (X12_of0 (h.half hk).1 hq) (Ok.s (X12_lace2 (h.half hk).1 hl) ?_)))))
              rw [if_neg c4]
              exact Ok.s (X12_thrT 3) (Ok.t rfl (noM h hk (by decide)))
        · refine ⟨3, 0, n, f, L, r, R, h.1.w, h.2.2.2, wrapG3 (k := 3) (by decide) rfl pcM (cl ?_), fun ν hk => ?_⟩
          · exact Ok.s (a := Sum.inl (3, μ)) (by unfold f_X11_needPledged; exact bs (X2_isPledged h.1.c hl) (ie (by simp [c]) rfl)) (elimL' (noC h (by decide)))
          · unfold f_X12_give
            refine Ok.s (X12_noLace (h.half hk).1 _) ?_
            rw [b1']
            refine Ok.e fnt (Ok.s (X12_noPerson (h.half hk).1 _) ?_)
            rw [b2']
            refine Ok.s (X12_thrF 1) (Ok.e fnt (Ok.s (X12_ownerOf (by omega)) (Ok.e c1' (Ok.s (X12_lace1 (h.half hk).1 hl) (Ok.e c2 (Ok.s (X12_lace5 (h.half hk).1 hl) ?_))))))
            rw [if_neg c3]
            refine Ok.s (X12_thrF 2) (Ok.e fnt (Ok.s (X12_isPledged (h.half hk).1 hl) (Ok.e (by simp [c]) ?_)))
            unfold f_X12_give_j103 f_X12_give_j108
            exact Ok.s (X12_thrT 3) (Ok.t rfl (noM h hk (by decide)))
end A3
