/-! LOOK: whose look parts them best -/
theorem bit_differ : ∀ p, p < 64 → ∀ q, q < 64 → p ≠ q → ∃ i, i < 6 ∧ ¬ bt (nI p) i = bt (nI q) i := by decide +kernel
theorem bit_high : ∀ n, n < 7 → ∀ q, q < 64 → q < 2 ^ n → ∀ i, i < 6 → n ≤ i → bt (nI q) i = false := by decide +kernel
theorem cnt_pos {Q : Nat → Bool} : ∀ {m : Nat}, 1 ≤ cntN Q m → ∃ q, q < m ∧ Q q = true
  | 0, h => absurd h (show ¬ 1 ≤ 0 by decide)
  | m + 1, h => by
    by_cases c : Q m = true
    · exact ⟨m, by omega, c⟩
    · rw [cnt_f c] at h
      obtain ⟨q, h1, h2⟩ := cnt_pos h
      exact ⟨q, by omega, h2⟩
theorem cnt_two {Q : Nat → Bool} : ∀ {m : Nat}, 2 ≤ cntN Q m → ∃ p q, p < q ∧ q < m ∧ Q p = true ∧ Q q = true
  | 0, h => absurd h (show ¬ 2 ≤ 0 by decide)
  | m + 1, h => by
    by_cases c : Q m = true
    · rw [cnt_t c] at h
      obtain ⟨p, h1, h2⟩ := cnt_pos (show 1 ≤ cntN Q m by omega)
      exact ⟨p, m, h1, by omega, h2, c⟩
    · rw [cnt_f c] at h
      obtain ⟨p, q, h1, h2, h3⟩ := cnt_two h
      exact ⟨p, q, h1, by omega, h3⟩
theorem bitQ_le {Q : Nat → Bool} {i m : Nat} : cntN (bitQ Q i) m ≤ cntN Q m := cntN_mono fun j _ h => by
  unfold bitQ at h
  rw [Bool.and_eq_true] at h
  exact h.1
/-- two of them are parted by someone -/
theorem parted {Q : Nat → Bool} {n : Nat} (hn : n ≤ 6) (h : 2 ≤ cntN Q (2 ^ n)) : ∃ i, i < n ∧ 0 < cntN (bitQ Q i) (2 ^ n) ∧ cntN (bitQ Q i) (2 ^ n) < cntN Q (2 ^ n) := by
  have hp : 2 ^ n ≤ 64 := Nat.pow_le_pow_right (by decide) hn
  obtain ⟨p, q, h1, h2, h3, h4⟩ := cnt_two h
  obtain ⟨i, hi, hd⟩ := bit_differ p (by omega) q (by omega) (by omega)
  have hin : i < n := by
    rcases Nat.lt_or_ge i n with w | w
    · exact w
    · exact absurd ((bit_high n (by omega) p (by omega) (by omega) i hi w).trans (bit_high n (by omega) q (by omega) h2 i hi w).symm) hd
  have key : ∀ u w, u < 2 ^ n → w < 2 ^ n → Q u = true → Q w = true → bt (nI u) i = true → ¬ bt (nI w) i = true → 0 < cntN (bitQ Q i) (2 ^ n) ∧ cntN (bitQ Q i) (2 ^ n) < cntN Q (2 ^ n) := fun u w hu hw qu qw bu bw => by
    have a1 := cntN_lt (P := fun _ => false) (Q := bitQ Q i) (j := u) (m := 2 ^ n) (fun _ _ x => by cases x) hu (by unfold bitQ; rw [qu, bu]; rfl) (by decide)
    have a2 := cntN_lt (P := bitQ Q i) (Q := Q) (j := w) (m := 2 ^ n) (fun j _ x => by unfold bitQ at x; rw [Bool.and_eq_true] at x; exact x.1) hw qw (by unfold bitQ; simp [bw])
    exact ⟨by omega, by omega⟩
  refine ⟨i, hin, ?_⟩
  cases bp : bt (nI p) i with
  | true =>
    have bq : ¬ bt (nI q) i = true := fun x => hd (bp.trans x.symm)
    exact key p q (by omega) h2 h3 h4 bp bq
  | false =>
    have bq : bt (nI q) i = true := by
      cases e : bt (nI q) i with
      | true => rfl
      | false => exact absurd (bp.trans e.symm) hd
    exact key q p h2 (by omega) h4 h3 bq (by rw [bp]; decide)
def wst (Q : Nat → Bool) (n i : Nat) : Nat := max (cntN (bitQ Q i) (2 ^ n)) (cntN Q (2 ^ n) - cntN (bitQ Q i) (2 ^ n))
/-- the class's choice, from best b on -/
def lokA (Q : Nat → Bool) (n b : Nat) (j : Nat) : Int32 × Nat := iter (fun i s => if s.2 ≤ wst Q n i then s else (nI i, wst Q n i)) j (-1, b)
theorem lok_t {Q : Nat → Bool} {n b j : Nat} (h : (lokA Q n b j).2 ≤ wst Q n j) : lokA Q n b (j + 1) = lokA Q n b j := if_pos h
theorem lok_f {Q : Nat → Bool} {n b j : Nat} (h : ¬ (lokA Q n b j).2 ≤ wst Q n j) : lokA Q n b (j + 1) = (nI j, wst Q n j) := if_neg h
theorem lok_le {Q : Nat → Bool} {n b : Nat} : ∀ j, (lokA Q n b j).2 ≤ b
  | 0 => Nat.le_refl _
  | j + 1 => by
    have ih := lok_le (Q := Q) (n := n) (b := b) j
    by_cases c : (lokA Q n b j).2 ≤ wst Q n j
    · rw [lok_t c]; exact ih
    · rw [lok_f c]; show wst Q n j ≤ b; omega
/-- from the number of them all, or from a million -/
theorem lok_rel {Q : Nat → Bool} {n : Nat} : ∀ j, ((lokA Q n (cntN Q (2 ^ n)) j).2 = cntN Q (2 ^ n) ∧ cntN Q (2 ^ n) ≤ (lokA Q n 1000000 j).2 ∧ ∀ i, i < j → cntN Q (2 ^ n) ≤ wst Q n i) ∨ lokA Q n (cntN Q (2 ^ n)) j = lokA Q n 1000000 j ∨ 1000000 < cntN Q (2 ^ n)
  | 0 => by
    rcases Nat.lt_or_ge 1000000 (cntN Q (2 ^ n)) with w | w
    · exact Or.inr (Or.inr w)
    · exact Or.inl ⟨rfl, w, fun i hi => absurd hi (by omega)⟩
  | j + 1 => by
    rcases lok_rel (Q := Q) (n := n) j with ⟨h1, h2, h3⟩ | h | h
    · by_cases c : cntN Q (2 ^ n) ≤ wst Q n j
      · left
        rw [lok_t (by rw [h1]; exact c)]
        refine ⟨h1, ?_, fun i hi => ?_⟩
        · by_cases d : (lokA Q n 1000000 j).2 ≤ wst Q n j
          · rw [lok_t d]; exact h2
          · rw [lok_f d]; exact c
        · rcases Nat.lt_or_ge i j with w | w
          · exact h3 i w
          · rw [show i = j by omega]; exact c
      · right; left
        rw [lok_f (by rw [h1]; exact c), lok_f (by omega)]
    · right; left
      by_cases d : (lokA Q n 1000000 j).2 ≤ wst Q n j
      · rw [lok_t d, lok_t (by rw [h]; exact d), h]
      · rw [lok_f d, lok_f (by rw [h]; exact d)]
    · exact Or.inr (Or.inr h)
theorem lok_eq {Q : Nat → Bool} {n : Nat} (hn : n ≤ 6) (h : 2 ≤ cntN Q (2 ^ n)) : (lokA Q n (cntN Q (2 ^ n)) n).1 = (lokA Q n 1000000 n).1 := by
  have hp : 2 ^ n ≤ 64 := Nat.pow_le_pow_right (by decide) hn
  have hle := cntN_le (P := Q) (2 ^ n)
  rcases lok_rel (Q := Q) (n := n) n with ⟨h1, h2, h3⟩ | q | q
  · obtain ⟨i, hi, g1, g2⟩ := parted hn h
    have := h3 i hi
    unfold wst at this
    omega
  · rw [q]
  · omega
section Lk
variable {n c : Nat} {f : Int32} {μ : Mem} {L : Ld} {T : Tx} {B : Nat → Nat}
theorem X10_parting {ν : Mem} {Q : Nat → Bool} (hn : n ≤ 6) (h2 : ν 262 2 = nI n) (h3 : ν 262 3 = nI (cntN Q (2 ^ n))) (h5 : ∀ i, i < n → ν 263 i = nI (cntN (bitQ Q i) (2 ^ n))) : f_X10_parting ν = some (if 2 ≤ cntN Q (2 ^ n) then (lokA Q n (cntN Q (2 ^ n)) n).1 else -1) := by
  have hp : 2 ^ n ≤ 64 := Nat.pow_le_pow_right (by decide) hn
  have hle := cntN_le (P := Q) (2 ^ n)
  unfold f_X10_parting f_X10_parting_l9
  rw [h3]
  by_cases c2 : 2 ≤ cntN Q (2 ^ n)
  · rw [if_pos c2]
    refine bind_loop (fun j => ((lokA Q n (cntN Q (2 ^ n)) j).1, nI (lokA Q n (cntN Q (2 ^ n)) j).2, nI j)) n (lokA Q n (cntN Q (2 ^ n)) n).1 rfl (fun j hj => ?_) ?_ (by omega) rfl
    · show f_X10_parting_b9 ν (lokA Q n (cntN Q (2 ^ n)) j).1 (nI (lokA Q n (cntN Q (2 ^ n)) j).2) (nI j) = _
      have hb := lok_le (Q := Q) (n := n) (b := cntN Q (2 ^ n)) j
      have hbq := bitQ_le (Q := Q) (i := j) (m := 2 ^ n)
      have rj : rd ν 263 6 (nI j) = some (nI (cntN (bitQ Q j) (2 ^ n))) := by rw [rd_nI (by omega) (by decide), h5 j hj]
      unfold f_X10_parting_b9
      rw [h2, h3]
      refine ie (nI_ge hj (by omega)) (ie (show ¬ nI (cntN Q (2 ^ n)) ≤ nI 1 from nI_ge c2 (by omega)) (bs rj (bs rj (bs (a := nI (wst Q n j)) ?_ ?_))))
      · rw [pk_sub hbq]
        exact congrArg some (mx_nI (by omega) (by omega))
      · have hw : wst Q n j ≤ 64 := by unfold wst; omega
        unfold f_X10_parting_j58_9
        by_cases d : (lokA Q n (cntN Q (2 ^ n)) j).2 ≤ wst Q n j
        · refine it (nI_le d (by omega)) ?_
          rw [lok_t d, nI_1]
        · refine ie (nI_ge (by omega) (by omega)) ?_
          rw [lok_f d, nI_1]
    · show f_X10_parting_b9 ν _ _ (nI n) = _
      unfold f_X10_parting_b9
      rw [h2]
      exact it (nI_le (Nat.le_refl _) (by omega)) rfl
  · rw [if_neg c2]
    refine bind_loop (fun _ => (-1, nI (cntN Q (2 ^ n)), 0)) 0 (-1) rfl (fun i hi => absurd hi (by omega)) ?_ (by decide) rfl
    show f_X10_parting_b9 ν (-1) (nI (cntN Q (2 ^ n))) 0 = _
    unfold f_X10_parting_b9
    rw [h2, h3]
    by_cases d : nI n ≤ 0
    · exact it d rfl
    · exact ie d (it (show nI (cntN Q (2 ^ n)) ≤ nI 1 from nI_le (by omega) (by decide)) rfl)
theorem bit_at (m i : Nat) (hi : i < 32) : (nI m >>> (nI i &&& 31)) &&& 1 = (if bt (nI m) i = true then 1 else 0) := by
  by_cases c : bt (nI m) i = true
  · rw [if_pos c]; exact (has1 hi).mpr c
  · rw [if_neg c]; exact (has0 hi).mpr (by simpa using c)
theorem q_look (h : St n f L T μ) (hc : c ≤ 400) (hb : ∀ i, B i < 256) (hC : TpC μ c B) (hM : TpM μ c B) : AgU μ (f_L_look μ) (fun ν => f_X12_look ν) := by
  have hn := h.n6
  have hp : 2 ^ n ≤ 64 := Nat.pow_le_pow_right (by decide) hn
  have hp0 : 0 < 2 ^ n := Nat.pow_pos (by decide)
  have k0 : KU μ (mset μ 1 1 0) := ku0
  have hw := X11_wearers (c := c) (h.ku k0).c hc hb (fun i hi => by rw [mset_ne (by decide)]; exact hC.2 i hi)
  have hP : ∀ (ν : Mem) (x : Int32), KU μ ν → KU μ (mset ν 275 0 x) := fun ν x hk => hk.to (Fr.set (by unfold scC; omega)) (mset_ne (by decide))
  cases ht : toldA n B c with
  | false =>
    refine ⟨1, 0, wrapG1 (k := 1) (by decide) rfl hP ?_, fun ν hk => ?_⟩
    · unfold f_X11_look
      refine Ok.s (ku_use hC.1) (hw.b fun r hr => ?_)
      cases r with
      | inl e =>
        obtain ⟨-, rfl⟩ := hr
        exact elimL' (XR.no (by decide) k0)
      | inr ν => rw [ht] at hr; cases hr.1
    · obtain ⟨m1, m2, m3⟩ := half_u h hM hk
      unfold f_X12_look
      refine Ok.s X12_uses (Ok.s (X12_isTold m1 hc m2 m3 hb) ?_)
      rw [ht]
      exact Ok.s (X12_thrT 1) (Ok.t rfl (mruI (show mset (usesM ν) 264 0 1 264 0 = 1 from mset_at) (fun q => absurd q (by decide)) (kmu_thr kmu_uses)))
  | true =>
    obtain ⟨g1, g2, g3⟩ := toldA_t ht
    generalize hQ : (fun m => fitQ B m (c / 3)) = Q at hw
    have hQm : ∀ m, fitQ B m (c / 3) = Q m := fun m => by rw [← hQ]
    have hle := cntN_le (P := Q) (2 ^ n)
    refine ⟨0, if 2 ≤ cntN Q (2 ^ n) then (lokA Q n (cntN Q (2 ^ n)) n).1 else -1, wrapG1 (k := 0) (by decide) rfl hP ?_, fun ν hk => ?_⟩
    · unfold f_X11_look
      refine Ok.s (ku_use hC.1) (hw.b fun r hr => ?_)
      cases r with
      | inl e => rw [ht] at hr; cases hr.1
      | inr ν =>
        obtain ⟨-, r2, r3, r4, r5, hF⟩ := hr
        refine elimR' (Ok.s (X10_parting hn r2 r3 r5) ?_)
        exact XR.yes rfl (k0.to (hF.mono fun k hk => by unfold scC; unfold sX at hk; omega) (hF 1 (by unfold sX; decide)))
    · obtain ⟨m1, m2, m3⟩ := half_u h hM hk
      unfold f_X12_look
      refine Ok.s X12_uses (Ok.s (X12_isTold m1 hc m2 m3 hb) ?_)
      rw [ht]
      refine Ok.s (X12_thrF 1) (Ok.e fnt ?_)
      unfold f_X12_look_l34
      refine Ok.loop (fun j z => z.1 = (if 2 ≤ cntN Q (2 ^ n) then (lokA Q n 1000000 j).1 else -1) ∧ z.2.1 = (if 2 ≤ cntN Q (2 ^ n) then nI (lokA Q n 1000000 j).2 else 1000000) ∧ z.2.2 = nI j) (fun t => t = (if 2 ≤ cntN Q (2 ^ n) then (lokA Q n (cntN Q (2 ^ n)) n).1 else -1)) n (by omega) ⟨by split <;> rfl, by split <;> rfl, rfl⟩ (fun j z hj hI => ?_) (fun t ht2 => ?_)
      · obtain ⟨w, b, x⟩ := z
        obtain ⟨e1, e2, e3⟩ := hI
        dsimp only at e1 e2 e3
        subst e3
        show Ok (f_X12_look_b34 (usesM ν) w b (nI j)) _
        unfold f_X12_look_b34
        refine Ok.s (X12_people m1) ?_
        by_cases hc2 : j = n
        · subst hc2
          refine Ok.t (nI_le (Nat.le_refl _) (by omega)) (Ok.d ?_)
          rw [e1]
          by_cases c2 : 2 ≤ cntN Q (2 ^ j)
          · rw [if_pos c2, if_pos c2, lok_eq hn c2]
          · rw [if_neg c2, if_neg c2]
        · have hj2 : j < n := by omega
          refine Ok.e (nI_ge hj2 (by omega)) ?_
          unfold f_X12_look_l51
          have hbq := bitQ_le (Q := Q) (i := j) (m := 2 ^ n)
          refine Ok.loop (fun m z => z.1 = nI (cntN Q m) ∧ z.2.1 = nI (cntN (bitQ Q j) m) ∧ z.2.2 = nI m) (fun t => t.1 = nI (cntN Q (2 ^ n)) ∧ t.2 = nI (cntN (bitQ Q j) (2 ^ n))) (2 ^ n) (by omega) ⟨rfl, rfl, rfl⟩ (fun m z hm hI => ?_) (fun t ht3 => ?_)
          · obtain ⟨x, y, z⟩ := z
            obtain ⟨d1, d2, d3⟩ := hI
            dsimp only at d1 d2 d3
            subst d1 d2 d3
            show Ok (f_X12_look_b51 (usesM ν) w b (nI j) _ _ (nI m)) _
            unfold f_X12_look_b51
            refine Ok.s (everyb m1) ?_
            by_cases hc3 : m = 2 ^ n
            · subst hc3
              exact Ok.t (nI_lt (by omega) (by omega)) (Ok.d ⟨rfl, rfl⟩)
            · have hm2 : m < 2 ^ n := by omega
              refine Ok.e (nI_nlt (by omega) (by omega)) (Ok.s (X12_fits hn g1 g2 g3 m2 m3 hb (by omega)) ?_)
              rw [hQm]
              unfold f_X12_look_j86_51
              by_cases q : Q m = true
              · refine Ok.t q (Ok.c hm2 ⟨by dsimp only; rw [nI_1, cnt_t q], ?_, nI_1 _⟩)
                dsimp only
                rw [bit_at m j (by omega)]
                by_cases u : bt (nI m) j = true
                · rw [if_pos u, nI_1, cnt_t (by unfold bitQ; rw [q, u]; rfl)]
                · rw [if_neg u, Int32.add_zero, cnt_f (by unfold bitQ; rw [q]; simp [u])]
              · exact Ok.e q (Ok.c hm2 ⟨by dsimp only; rw [cnt_f q], by dsimp only; rw [cnt_f (by unfold bitQ; simp [q])], nI_1 _⟩)
          · obtain ⟨x, y⟩ := t
            obtain ⟨rfl, rfl⟩ := ht3
            show Ok (f_X12_look_j92_34 (usesM ν) w b (nI j) _ _) _
            unfold f_X12_look_j92_34
            have hw64 : wst Q n j ≤ 64 := by unfold wst; omega
            refine Ok.s (a := nI (wst Q n j)) (by rw [pk_sub hbq]; exact congrArg some (mx_nI (by omega) (by omega))) ?_
            unfold f_X12_look_j124_34
            by_cases c2 : 2 ≤ cntN Q (2 ^ n)
            · rw [if_pos c2] at e1 e2
              subst e1 e2
              have hlk := lok_le (Q := Q) (n := n) (b := 1000000) j
              refine Ok.e (show ¬ nI (cntN Q (2 ^ n)) < nI 2 from nI_nlt c2 (by omega)) ?_
              by_cases d : (lokA Q n 1000000 j).2 ≤ wst Q n j
              · refine Ok.e (nI_nlt d (by omega)) (Ok.c hj2 ⟨?_, ?_, nI_1 _⟩)
                · dsimp only; rw [if_pos c2, lok_t d]
                · dsimp only; rw [if_pos c2, lok_t d]
              · refine Ok.t (nI_lt (by omega) (by omega)) (Ok.c hj2 ⟨?_, ?_, nI_1 _⟩)
                · dsimp only; rw [if_pos c2, lok_f d]
                · dsimp only; rw [if_pos c2, lok_f d]
            · rw [if_neg c2] at e1 e2
              subst e1 e2
              refine Ok.t (show nI (cntN Q (2 ^ n)) < nI 2 from nI_lt (by omega) (by decide)) (Ok.c hj2 ⟨?_, ?_, nI_1 _⟩)
              · dsimp only; rw [if_neg c2]
              · dsimp only; rw [if_neg c2]
      · subst ht2
        unfold f_X12_look_j130
        exact mruI (ν' := usesM ν) uses_0 (fun _ => rfl) kmu_uses
end Lk
