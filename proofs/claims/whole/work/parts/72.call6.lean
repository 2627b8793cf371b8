/-! CALLS: both -/
section Cd
variable {n : Nat} {f : Int32} {μ : Mem} {L : Ld} {T : Tx} {a : Nat} {p : Nat}
def callB (n : Nat) (L : Ld) (p : Nat) : Nat := numD (bD n L p) n
def amtD (n : Nat) (L : Ld) (m : Nat) : Nat := sumD (xA L) (yA L) m n
theorem callB_lt (hw : WF n L) (hn : n ≤ 6) : callB n L p < 4 ^ n := numD_lt (bD_lt hw hn) n
theorem call_best (hw : WF n L) (hn : n ≤ 6) {m : Nat} (hm : m < 4 ^ n) (hs : subM n L p m) (hp : paidB L m n = true) : amtD n L m ≤ amtD n L (callB n L p) ∧ (amtD n L m = amtD n L (callB n L p) → callB n L p ≤ m) := by
  refine best_num (bD_lt hw hn) hm (fun o ho => ?_)
  have := (bD_ok (p := p) hw hn ho).2.2 (dig m o) (hs o ho) ((paid_iff n).mp hp o ho)
  unfold bD
  rw [if_pos ho]
  exact this
theorem call_self (hw : WF n L) (hn : n ≤ 6) : subM n L p (callB n L p) ∧ paidB L (callB n L p) n = true := by
  have e : ∀ o, o < n → dig (callB n L p) o = bestD (xA L o) (yA L o) (idx (L 1 o)) (tL L p o) (tR L p o) := fun o ho => by
    unfold callB
    rw [dig_num (bD_lt hw hn) ho]
    unfold bD
    rw [if_pos ho]
  refine ⟨fun o ho => ?_, (paid_iff n).mpr fun o ho => ?_⟩
  · rw [e o ho]; exact (bD_ok (p := p) hw hn ho).1
  · rw [e o ho]; exact (bD_ok (p := p) hw hn ho).2.1
theorem dig_z {o : Nat} : dig 0 o = 0 := by unfold dig; rw [Nat.zero_div]
theorem amtD_0 : amtD n L 0 = 0 := by
  unfold amtD
  have key : ∀ j, sumD (xA L) (yA L) 0 j = 0 := by
    intro j
    induction j with
    | zero => rfl
    | succ j ih =>
      show sumD (xA L) (yA L) 0 j + dA (xA L j) (yA L j) (dig 0 j) = 0
      rw [ih, dig_z]
      unfold dA
      omega
  exact key n
theorem zero_ok : subM n L p 0 ∧ paidB L 0 n = true := by
  refine ⟨fun o ho => ?_, (paid_iff n).mpr fun o ho => ?_⟩
  · rw [dig_z]; exact ⟨by decide, fun q => absurd q (by decide), fun q => absurd q (by decide)⟩
  · rw [dig_z]; unfold dA; omega
theorem amtD_le (hw : WF n L) (hn : n ≤ 6) (m : Nat) : amtD n L m ≤ 11988 := by
  unfold amtD
  have key : ∀ j, j ≤ n → sumD (xA L) (yA L) m j ≤ 1998 * j := by
    intro j
    induction j with
    | zero => intro _; exact Nat.le_refl _
    | succ j ih =>
      intro hj
      obtain ⟨g1, -⟩ := amt8 hw hn (show 2 * j < 2 * n by omega)
      obtain ⟨g2, -⟩ := amt8 hw hn (show 2 * j + 1 < 2 * n by omega)
      have hd := dig_lt (m := m) (o := j)
      have : dA (xA L j) (yA L j) (dig m j) ≤ 1998 := by
        obtain ⟨v0, v1, v2, v3⟩ := dA_v (x := xA L j) (y := yA L j)
        unfold xA yA at *
        rcases (show dig m j = 0 ∨ dig m j = 1 ∨ dig m j = 2 ∨ dig m j = 3 by omega) with e | e | e | e <;> rw [e] <;> omega
      have := ih (by omega)
      show sumD (xA L) (yA L) m j + _ ≤ _
      omega
  have := key n (Nat.le_refl _)
  omega
theorem mask_num (hn : n ≤ 6) : ∃ M, M < 4 ^ n ∧ mineM n L p = nI M ∧ ∀ b : Nat, b < 4 ^ n → subM n L p b → b ≤ M := by
  have e0 : mineM n L p = obits (mineB L p) (2 * n) := by
    apply b_ext
    intro l hl
    rw [mine_b hn hl, ob_b hl (by omega)]
  obtain ⟨M, hM, e⟩ := ob_nI (P := mineB L p) (m := 2 * n) (by omega)
  rw [four_pow] at hM
  refine ⟨M, hM, e0.trans e, fun b hb hs => ?_⟩
  rw [← Nat.mod_eq_of_lt hb, ← Nat.mod_eq_of_lt hM, ← num_dig, ← num_dig]
  refine num_le n (fun o ho => ?_)
  obtain ⟨q0, q1, q2⟩ := hs o ho
  have d0 : decide (dig M o % 2 = 1) = mineB L p (2 * o) := by
    rw [← dig_0 (by omega), ← e, ob_b (by omega) (by omega), decide_eq_true (show 2 * o < 2 * n by omega), Bool.true_and]
  have d1 : decide (dig M o / 2 = 1) = mineB L p (2 * o + 1) := by
    rw [← dig_1 (by omega), ← e, ob_b (by omega) (by omega), decide_eq_true (show 2 * o + 1 < 2 * n by omega), Bool.true_and]
  have hd := dig_lt (m := M) (o := o)
  unfold tL at q1
  unfold tR at q2
  have r1 : dig b o % 2 = 1 → dig M o % 2 = 1 := fun q => by
    have := q1 q
    by_cases w : mineB L p (2 * o) = true
    · rw [w] at d0; exact of_decide_eq_true d0
    · rw [if_neg w] at this; omega
  have r2 : dig b o / 2 = 1 → dig M o / 2 = 1 := fun q => by
    have := q2 q
    by_cases w : mineB L p (2 * o + 1) = true
    · rw [w] at d1; exact of_decide_eq_true d1
    · rw [if_neg w] at this; omega
  omega
theorem q_call (h : St n f L T μ) (p1 : Int32) (p2 : Bool) : AgQ μ (f_L_call μ p1 p2) (fun ν => f_X12_call ν p1 p2) := by
  have hn := h.n6
  have h46 : 4 ^ n ≤ 4096 := Nat.le_trans (Nat.pow_le_pow_right (by decide) hn) (by decide)
  by_cases b1 : outb p1 0 (nI n - 1) = true
  · refine ⟨1, 0, wrap1 (k := 2) (by decide) rfl ?_, fun ν hk => ?_⟩
    · unfold f_X11_call
      refine Ok.s (X11_needPerson h.c p1) ?_
      rw [if_pos b1]
      exact elimL' (XR.no (by decide) KC.refl)
    · have m0 := h.m0 hk
      unfold f_X12_call
      refine Ok.s (X12_noPerson m0.m p1) ?_
      rw [b1]
      exact Ok.s (X12_thrT 1) (Ok.t rfl (mrT (by decide)))
  · have b1' : outb p1 0 (nI n - 1) = false := by simpa using b1
    obtain ⟨p, hp, rfl⟩ := outb_ix (by omega) b1'
    have hB := callB_lt (p := p) h.w hn
    refine ⟨0, if p2 = true then nI (amtD n L (callB n L p)) else nI (callB n L p), wrap1 (k := 0) (by decide) rfl ?_, fun ν hk => ?_⟩
    · unfold f_X11_call
      refine Ok.s (X11_needPerson h.c _) ?_
      rw [if_neg b1]
      refine elimR' ?_
      unfold f_X11_call_l10
      refine Ok.loop (fun j z => z.1 = nI (numD (bD n L p) j) ∧ z.2 = nI j) (fun t => t = nI (callB n L p)) n (by omega) ⟨rfl, rfl⟩ (fun j z hj hI => ?_) (fun t ht => ?_)
      · obtain ⟨x, y⟩ := z
        obtain ⟨e1, e2⟩ := hI
        dsimp only at e1 e2
        subst e1 e2
        show Ok (f_X11_call_b10 μ (nI p) p2 _ (nI j)) _
        unfold f_X11_call_b10
        by_cases hc : j = n
        · subst hc
          exact Ok.t h.c.ge1 (Ok.d rfl)
        · have hj2 : j < n := by omega
          refine Ok.e (h.c.lt1 hj2) (Ok.s (X2_callable h.c h.w hj2) (Ok.c hj2 ⟨?_, nI_1 _⟩))
          dsimp only
          have hl := numD_lt (bD_lt (p := p) h.w hn) j
          rw [← four_pow] at hl
          rw [Int32.or_comm, ← four_pow, or_add (2 * j) hl, four_pow]
          congr 1
          exact Nat.add_comm _ _
      · subst ht
        show Ok (f_X11_call_j41 μ p2 _) _
        unfold f_X11_call_j41
        cases p2 with
        | true => exact Ok.t rfl (Ok.s (X2_amountOf h.c _) (XR.yes (amt_dig h.w hn _) KC.refl))
        | false => exact Ok.e fnt (XR.yes rfl KC.refl)
    · have m0 := h.m0 hk
      obtain ⟨M, hM, eM, hsub⟩ := mask_num (L := L) (p := p) hn
      have hBM := hsub _ hB (call_self h.w hn).1
      unfold f_X12_call
      refine Ok.s (X12_noPerson m0.m _) ?_
      rw [b1']
      refine Ok.s (X12_thrF 1) (Ok.e fnt (Ok.s (X12_heldBy m0.m m0.w (by omega)) (Ok.s (X12_pledgedOnes m0.m) ?_)))
      rw [show (obits (fun l => decide (L 7 l = nI p)) (2 * n) &&& obits (fun l => decide (L 6 l = 1)) (2 * n)) = nI M from eM]
      unfold f_X12_call_l37
      generalize hb : callB n L p = B at hB hBM ⊢
      have best : ∀ m, m < 4 ^ n → subM n L p m → paidB L m n = true → amtD n L m ≤ amtD n L B ∧ (amtD n L m = amtD n L B → B ≤ m) := fun m h1 h2 h3 => by rw [← hb]; exact call_best h.w hn h1 h2 h3
      have self : subM n L p B ∧ paidB L B n = true := by rw [← hb]; exact call_self h.w hn
      have st0 : B = 0 ∨ amtD n L 0 < amtD n L B := by
        obtain ⟨g1, g2⟩ := best 0 (Nat.pow_pos (by decide)) (zero_ok (p := p)).1 (zero_ok (p := p)).2
        by_cases q : amtD n L 0 = amtD n L B
        · exact Or.inl (Nat.le_zero.mp (g2 q))
        · exact Or.inr (by omega)
      refine Ok.loop (fun j z => z.2 = nI (j + 1) ∧ ∃ bb, z.1 = nI bb ∧ bb < 4 ^ n ∧ ((B < j + 1 ∧ bb = B) ∨ (j + 1 ≤ B ∧ amtD n L bb < amtD n L B) ∨ (B = 0 ∧ bb = 0))) (fun t => t = nI B) M (by omega) ⟨rfl, 0, rfl, Nat.pow_pos (by decide), ?_⟩ (fun j z hj hI => ?_) (fun t ht => ?_)
      · rcases st0 with q | q
        · exact Or.inr (Or.inr ⟨q, rfl⟩)
        · by_cases z0 : B = 0
          · exact Or.inr (Or.inr ⟨z0, rfl⟩)
          · exact Or.inr (Or.inl ⟨by omega, q⟩)
      · obtain ⟨x, y⟩ := z
        obtain ⟨e2, bb, e1, hbb, hJ⟩ := hI
        dsimp only at e1 e2
        subst e1 e2
        show Ok (f_X12_call_b37 (mset ν 264 0 0) p2 (nI M) _ (nI (j + 1))) _
        unfold f_X12_call_b37
        by_cases hc : j = M
        · subst hc
          refine Ok.t (nI_lt (by omega) (by omega)) (Ok.d ?_)
          rcases hJ with ⟨-, q⟩ | ⟨q, -⟩ | ⟨q1, q2⟩
          · rw [q]
          · omega
          · rw [q1, q2]
        · have hj4 : j + 1 < 4 ^ n := by omega
          refine Ok.e (nI_nlt (by omega) (by omega)) ?_
          unfold f_X12_call_j80_37
          rw [← eM]
          by_cases hs : subM n L p (j + 1)
          · refine Ok.t ((sub_iff hn hj4).mpr hs) (Ok.s (X12_amountOf m0.m _) (Ok.s (X12_amountOf m0.m _) ?_))
            rw [amt_dig h.w hn, amt_dig h.w hn]
            have l1 := amtD_le h.w hn (j + 1)
            have l2 := amtD_le h.w hn bb
            by_cases d : amtD n L (j + 1) ≤ amtD n L bb
            · refine Ok.t (nI_le (show sumD (xA L) (yA L) (j + 1) n ≤ sumD (xA L) (yA L) bb n from d) (by have : sumD (xA L) (yA L) bb n ≤ 11988 := l2; omega)) (Ok.c (by omega) ⟨nI_1 _, bb, rfl, hbb, ?_⟩)
              rcases hJ with ⟨q1, q2⟩ | ⟨q1, q2⟩ | q
              · exact Or.inl ⟨by omega, q2⟩
              · by_cases e : j + 1 = B
                · rw [e] at d; omega
                · exact Or.inr (Or.inl ⟨by omega, q2⟩)
              · exact Or.inr (Or.inr q)
            · refine Ok.e (nI_ge (show sumD (xA L) (yA L) bb n < sumD (xA L) (yA L) (j + 1) n by unfold amtD at d; omega) (by unfold amtD at l1; omega)) (Ok.s (X12_canBePaid m0.m h.w _) ?_)
              by_cases w : paidB L (j + 1) n = true
              · obtain ⟨g1, g2⟩ := best (j + 1) hj4 hs w
                refine Ok.c (by omega) ⟨nI_1 _, j + 1, if_pos w, hj4, ?_⟩
                rcases hJ with ⟨q1, q2⟩ | ⟨q1, q2⟩ | ⟨q1, q2⟩
                · subst q2; omega
                · by_cases e : j + 1 = B
                  · exact Or.inl ⟨by omega, e⟩
                  · by_cases e2 : amtD n L (j + 1) = amtD n L B
                    · have := g2 e2; omega
                    · exact Or.inr (Or.inl ⟨by omega, by omega⟩)
                · subst q1 q2; omega
              · refine Ok.c (by omega) ⟨nI_1 _, bb, if_neg w, hbb, ?_⟩
                rcases hJ with ⟨q1, q2⟩ | ⟨q1, q2⟩ | q
                · exact Or.inl ⟨by omega, q2⟩
                · by_cases e : j + 1 = B
                  · rw [e] at w; exact absurd self.2 w
                  · exact Or.inr (Or.inl ⟨by omega, q2⟩)
                · exact Or.inr (Or.inr q)
          · refine Ok.e (fun q => hs ((sub_iff hn hj4).mp q)) (Ok.c (by omega) ⟨nI_1 _, bb, rfl, hbb, ?_⟩)
            rcases hJ with ⟨q1, q2⟩ | ⟨q1, q2⟩ | q
            · exact Or.inl ⟨by omega, q2⟩
            · by_cases e : j + 1 = B
              · rw [e] at hs; exact absurd self.1 hs
              · exact Or.inr (Or.inl ⟨by omega, q2⟩)
            · exact Or.inr (Or.inr q)
      · subst ht
        show Ok (f_X12_call_j86 (mset ν 264 0 0) p2 _) _
        unfold f_X12_call_j86
        cases p2 with
        | true => exact Ok.t rfl (Ok.s (X12_amountOf m0.m _) (mrV (amt_dig h.w hn _)))
        | false => exact Ok.e fnt (mrV rfl)
end Cd
