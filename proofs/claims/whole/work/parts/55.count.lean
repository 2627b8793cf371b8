/-! PAIRS, LENDS, LOOSE, THE LOG, COUNTS -/
def cntN (P : Nat → Bool) : Nat → Nat
  | 0 => 0
  | i + 1 => cntN P i + (if P i = true then 1 else 0)
def sumN (g : Nat → Nat) : Nat → Nat
  | 0 => 0
  | i + 1 => sumN g i + g i
theorem cntN_le {P : Nat → Bool} : ∀ m, cntN P m ≤ m
  | 0 => Nat.le_refl _
  | m + 1 => by
    have ih := cntN_le (P := P) m
    show cntN P m + _ ≤ _
    split <;> omega
theorem cnt_t {P : Nat → Bool} {i : Nat} (h : P i = true) : cntN P (i + 1) = cntN P i + 1 := by show _ + _ = _; rw [if_pos h]
theorem cnt_f {P : Nat → Bool} {i : Nat} (h : ¬ P i = true) : cntN P (i + 1) = cntN P i := by show _ + _ = _; rw [if_neg h]; rfl
theorem sumN_upd {g g' : Nat → Nat} {a d : Nat} (h : ∀ i, i ≠ a → g' i = g i) (ha : g' a = g a + d) : ∀ m, sumN g' m = sumN g m + (if a < m then d else 0)
  | 0 => by rw [if_neg (by omega)]; rfl
  | m + 1 => by
    have ih := sumN_upd h ha m
    show sumN g' m + g' m = sumN g m + g m + _
    rw [ih]
    by_cases e : m = a
    · subst e
      rw [ha, if_neg (by omega), if_pos (by omega)]; omega
    · rw [h m e]
      by_cases c : a < m
      · rw [if_pos c, if_pos (by omega)]; omega
      · rw [if_neg c, if_neg (by omega)]; omega
theorem sumN_le {g : Nat → Nat} {b : Nat} (h : ∀ i, g i ≤ b) : ∀ m, sumN g m ≤ b * m
  | 0 => Nat.le_refl _
  | m + 1 => by
    have ih := sumN_le h m
    have := h m
    show sumN g m + g m ≤ _
    rw [Nat.mul_succ]; omega
theorem bitC_or : ∀ i, i < 6 → ∀ k, k < 64 → k < 2 ^ i → bitC (nI k ||| pw i) = bitC (nI k) + 1 := by decide +kernel
theorem bitC_cnt {P : Nat → Bool} : ∀ {m : Nat}, m ≤ 6 → bitC (obits P m) = nI (cntN P m)
  | 0, _ => by show bitC 0 = _; rw [bitC_00]; rfl
  | m + 1, hm => by
    have ih := bitC_cnt (P := P) (m := m) (by omega)
    show bitC (if P m = true then obits P m ||| pw m else obits P m) = _
    by_cases h : P m = true
    · rw [if_pos h, cnt_t h]
      obtain ⟨k, hk, e⟩ := ob_nI (P := P) (m := m) (by omega)
      rw [e] at ih ⊢
      rw [bitC_or m (by omega) k (Nat.lt_of_lt_of_le hk (Nat.le_trans (Nat.pow_le_pow_right (by decide) (show m ≤ 6 by omega)) (by decide))) hk, ih, nI_1]
    · rw [if_neg h, cnt_f h, ih]
section Ct
variable {n : Nat} {f : Int32} {μ : Mem} {L : Ld} {T : Tx} {a : Nat}
def sameN (T : Tx) (n : Nat) (L : Ld) (w : Nat) : Nat → Nat := cntN (fun p => decide (walkA T n L p = nI w))
theorem dv2 {c : Nat} (hc : c < 2 ^ 31) : dv (nI c) 2 = some (nI (c / 2)) := by
  unfold dv
  rw [if_neg (by decide), show (2 : Int32) = nI 2 from rfl, pk_div hc (by decide) (by decide)]
theorem bt_xpw {x : Int32} {w i : Nat} (hw : w < 32) (hi : i < 32) : bt (x ^^^ (1 <<< (nI w &&& 31))) i = (bt x i ^^ decide (i = w)) := by rw [b_xor, bt_pw hw hi]
theorem sum_z : ∀ m, sumN (fun w => sameN T n L w 0 / 2) m = 0
  | 0 => rfl
  | m + 1 => by
    show sumN (fun w => sameN T n L w 0 / 2) m + 0 / 2 = 0
    rw [sum_z m]
theorem q_pairs (h : St n f L T μ) : AgD μ (f_X11_pairs μ) (fun ν => f_X12_pairs ν) := by
  have hn := h.n6
  refine ⟨nI (sumN (fun w => sameN T n L w n / 2) 10), ?_, fun ν hk => ?_⟩
  · unfold f_X11_pairs f_X11_pairs_l6
    refine Ok.loop (fun j z => z.1 = nI (sumN (fun w => sameN T n L w j / 2) 10) ∧ (∀ w, w < 10 → bt z.2.1 w = decide (sameN T n L w j % 2 = 1)) ∧ z.2.2.1 = nI j ∧ KC μ z.2.2.2) (fun t => t.1 = nI (sumN (fun w => sameN T n L w n / 2) 10) ∧ KC μ t.2) n (by omega) ⟨by rw [sum_z]; rfl, fun w hw => by rw [b_0]; rfl, rfl, KC.refl⟩ (fun j z hj hI => ?_) (fun t ht => Ok.r ht)
    obtain ⟨v, x, c, ν⟩ := z
    obtain ⟨e1, hx, e3, hK⟩ := hI
    dsimp only at e1 hx e3 hK
    subst e1 e3
    show Ok (f_X11_pairs_b6 ν _ x (nI j)) _
    unfold f_X11_pairs_b6
    have h2 := h.kc hK
    by_cases hc : j = n
    · subst hc
      exact Ok.t h2.c.ge1 (Ok.d ⟨rfl, hK⟩)
    · have hj2 : j < n := by omega
      refine Ok.e (h2.c.lt1 hj2) ?_
      refine (X2_walkOf h2.c h2.w (by decide) h2.lc h2.wt hj2).b fun q hq => ?_
      obtain ⟨v, ν3⟩ := q
      obtain ⟨rfl, hF3⟩ := hq
      dsimp only at hF3 ⊢
      obtain ⟨w0, hw0, ew⟩ := walkA_nI (T := T) h.wt h.w hj2
      rw [ew]
      have same_o : ∀ w, w < 10 → w ≠ w0 → sameN T n L w (j + 1) = sameN T n L w j := fun w hw hne => cnt_f (by
        rw [ew]; simp; intro q; exact hne ((nI_eq (by omega) (by omega)).mp q).symm)
      have same_w : sameN T n L w0 (j + 1) = sameN T n L w0 j + 1 := cnt_t (by rw [ew]; simp)
      have big : ∀ w, 10 ≤ w → w < 2 ^ 31 → sameN T n L w (j + 1) = sameN T n L w j := fun w hw hl => cnt_f (by
        rw [ew]; simp; intro q; exact absurd ((nI_eq (by omega) hl).mp q) (by omega))
      have hs : sumN (fun w => sameN T n L w (j + 1) / 2) 10 = sumN (fun w => sameN T n L w j / 2) 10 + ((sameN T n L w0 j + 1) / 2 - sameN T n L w0 j / 2) := by
        have := sumN_upd (g := fun w => sameN T n L w j / 2) (g' := fun w => if w = w0 then (sameN T n L w0 j + 1) / 2 else sameN T n L w j / 2) (a := w0) (d := (sameN T n L w0 j + 1) / 2 - sameN T n L w0 j / 2) (fun i hi => if_neg hi) (by rw [if_pos rfl]; omega) 10
        rw [if_pos (by omega)] at this
        rw [← this]
        have cg : ∀ m, m ≤ 10 → sumN (fun w => sameN T n L w (j + 1) / 2) m = sumN (fun w => if w = w0 then (sameN T n L w0 j + 1) / 2 else sameN T n L w j / 2) m := by
          intro m
          induction m with
          | zero => intro _; rfl
          | succ m ih =>
            intro hm
            show sumN _ m + _ = sumN _ m + _
            rw [ih (by omega)]
            congr 1
            by_cases e : m = w0
            · subst e; dsimp only; rw [if_pos rfl, same_w]
            · dsimp only; rw [if_neg e, same_o m (by omega) e]
        exact cg 10 (by decide)
      have hpar := hx w0 (by omega)
      refine Ok.c hj2 ⟨?_, fun w hw => ?_, nI_1 _, hK.trans (kc5 hF3)⟩
      · dsimp only
        rw [hs]
        by_cases c : x &&& (1 <<< (nI w0 &&& 31)) = 0
        · rw [if_pos c]
          have hb := (and_pw (by omega)).mp c
          rw [hpar] at hb
          have : ¬ sameN T n L w0 j % 2 = 1 := of_decide_eq_false hb
          congr 1; omega
        · rw [if_neg c, nI_1]
          have hb : sameN T n L w0 j % 2 = 1 := by
            by_cases q : sameN T n L w0 j % 2 = 1
            · exact q
            · exact absurd ((and_pw (by omega)).mpr (by rw [hpar]; exact decide_eq_false q)) c
          congr 1; omega
      · dsimp only
        rw [bt_xpw (by omega) (by omega), hx w hw]
        by_cases e : w = w0
        · subst e
          rw [same_w, decide_eq_true (show w = w from rfl)]
          by_cases q : sameN T n L w j % 2 = 1
          · rw [decide_eq_true q, decide_eq_false (by omega)]; rfl
          · rw [decide_eq_false q, decide_eq_true (show (sameN T n L w j + 1) % 2 = 1 by omega)]; rfl
        · rw [same_o w hw e, decide_eq_false e, Bool.xor_false]
  · have m0 := h.m0 hk
    unfold f_X12_pairs f_X12_pairs_l9
    refine Ok.loop (fun j z => z.1 = nI (sumN (fun w => sameN T n L w n / 2) j) ∧ z.2.1 = nI j ∧ Fr (fun k => k = 272) (mset ν 264 0 0) z.2.2) (fun t => t.1 = nI (sumN (fun w => sameN T n L w n / 2) 10) ∧ Fr (fun k => k = 272) (mset ν 264 0 0) t.2) 10 (by decide) ⟨rfl, rfl, Fr.refl⟩ (fun j z hj hI => ?_) (fun t ht => Ok.r ⟨ht.1, KM.thr.fr ht.2 fun k hk => km72 hk⟩)
    obtain ⟨v, c, ν2⟩ := z
    obtain ⟨e1, e2, hF⟩ := hI
    dsimp only at e1 e2 hF
    subst e1 e2
    show Ok (f_X12_pairs_b9 ν2 _ (nI j)) _
    unfold f_X12_pairs_b9
    by_cases hc : j = 10
    · subst hc
      exact Ok.t (by decide) (Ok.d ⟨rfl, hF⟩)
    · refine Ok.e (nI_nlt (a := 9) (by omega) (by decide)) ?_
      have f65 : ν2 265 = mset ν 264 0 0 265 := hF 265 (by decide)
      refine (X12_asFastAs (by rw [f65]; exact m0.m) m0.w (by rw [f65]; exact m0.lm) m0.wt (nI j)).b fun q hq => ?_
      obtain ⟨v, ν3⟩ := q
      obtain ⟨rfl, hF3⟩ := hq
      dsimp only at hF3 ⊢
      refine Ok.s (a := nI (sameN T n L j n)) (by rw [J6_bit]; unfold sameS; rw [bitC_cnt hn]; rfl) ?_
      have hle := cntN_le (P := fun p => decide (walkA T n L p = nI j)) n
      refine Ok.s (dv2 (by unfold sameN; omega)) ?_
      refine Ok.c (by omega) ⟨?_, nI_1 _, hF.trans hF3⟩
      dsimp only
      rw [nI_add]; rfl
/-! lends -/
def anyB (Q : Nat → Bool) : Nat → Bool
  | 0 => false
  | j + 1 => anyB Q j || Q j
theorem anyB_t {Q : Nat → Bool} {i : Nat} (h : Q i = true) : ∀ m, i < m → anyB Q m = true
  | 0, q => absurd q (by omega)
  | m + 1, q => by
    show (anyB Q m || Q m) = true
    by_cases e : i = m
    · subst e; rw [h, Bool.or_true]
    · rw [anyB_t h m (by omega)]; rfl
theorem anyB_ex {Q : Nat → Bool} : ∀ {m : Nat}, anyB Q m = true → ∃ i, i < m ∧ Q i = true
  | 0, h => by cases h
  | m + 1, h => by
    have h' : (anyB Q m || Q m) = true := h
    rcases Bool.or_eq_true _ _ |>.mp h' with q | q
    · obtain ⟨i, hi, hq⟩ := anyB_ex q
      exact ⟨i, by omega, hq⟩
    · exact ⟨m, by omega, q⟩
def freeQ (L : Ld) (p l : Nat) : Bool := !decide (l / 2 = p) && decide (L 6 l = 0)
def lendP (n : Nat) (L : Ld) (m p : Nat) : Bool := !decide (L 1 p < nI m) && anyB (freeQ L p) (2 * n)
theorem free_bits (hn : n ≤ 6) {p : Nat} (hp : p < n) : (obits (fun l => decide (L 6 l = 0)) (2 * n) &&& ((3 <<< (nI (2 * p) &&& 31)) ^^^ (-1))) = 0 ↔ anyB (freeQ L p) (2 * n) = false := by
  have hb : ∀ i, i < 32 → bt (obits (fun l => decide (L 6 l = 0)) (2 * n) &&& ((3 <<< (nI (2 * p) &&& 31)) ^^^ (-1))) i = (decide (i < 2 * n) && freeQ L p i) := fun i hi => by
    rw [b_and, ob_b hi (by omega), bt_not hi, three_b (by omega) hi]
    unfold freeQ
    by_cases e : i / 2 = p
    · rw [decide_eq_true e, decide_eq_true (show i = 2 * p ∨ i = 2 * p + 1 by omega)]; simp
    · rw [decide_eq_false e, decide_eq_false (show ¬ (i = 2 * p ∨ i = 2 * p + 1) by omega)]; simp
  constructor
  · intro h
    cases hA : anyB (freeQ L p) (2 * n) with
    | false => rfl
    | true =>
      obtain ⟨i, hi, hq⟩ := anyB_ex hA
      have := hb i (by omega)
      rw [h, b_0, hq, decide_eq_true hi] at this
      cases this
  · intro h
    apply b_ext
    intro i hi
    rw [hb i hi, b_0]
    by_cases hi2 : i < 2 * n
    · cases hq : freeQ L p i with
      | false => simp
      | true => rw [anyB_t hq _ hi2] at h; cases h
    · simp [hi2]
theorem or_twice (x y : Int32) : x ||| y ||| y = x ||| y := by
  apply b_ext; intro i hi; rw [b_or, b_or]; cases bt x i <;> cases bt y i <;> rfl
theorem q_lends (h : St n f L T μ) (p1 : Int32) : AgQ μ (f_L_lends μ p1) (fun ν => f_X12_lends ν p1) := by
  have hn := h.n6
  by_cases b1 : outb p1 1 999 = true
  · refine ⟨1, 0, wrap1 (k := 1) (by decide) rfl ?_, fun ν hk => ?_⟩
    · unfold f_X11_lends
      refine Ok.s X11_out ?_
      exact Ok.t b1 (XR.no (by decide) KC.refl)
    · unfold f_X12_lends
      refine Ok.s X12_in ?_
      rw [nb, b1]
      exact Ok.s (X12_thrT 1) (Ok.t rfl (mrT (by decide)))
  · have b1' : outb p1 1 999 = false := by simpa using b1
    obtain ⟨m, hm1, hm, rfl⟩ := outb_1 (b := 999) rfl (by decide) b1'
    refine ⟨0, obits (lendP n L m) n, wrap1 (k := 0) (by decide) rfl ?_, fun ν hk => ?_⟩
    · unfold f_X11_lends
      refine Ok.s X11_out (Ok.e b1 ?_)
      refine Ok.s (X2_lacesThatAre h.c 0) ?_
      unfold f_X11_lends_l36
      refine Ok.loop (fun j z => z.1 = obits (lendP n L m) j ∧ z.2 = nI j) (fun t => t = obits (lendP n L m) n) n (by omega) ⟨rfl, rfl⟩ (fun j z hj hI => ?_) (fun t ht => XR.yes ht KC.refl)
      obtain ⟨v, c⟩ := z
      obtain ⟨e1, e2⟩ := hI
      dsimp only at e1 e2
      subst e1 e2
      show Ok (f_X11_lends_b36 μ _ _ _ (nI j)) _
      unfold f_X11_lends_b36
      by_cases hc : j = n
      · subst hc
        exact Ok.t h.c.ge1 (Ok.d rfl)
      · have hj2 : j < n := by omega
        refine Ok.e (h.c.lt1 hj2) (Ok.s (h.c.rdP (k := 1) (by decide) hj2) ?_)
        by_cases c : L 1 j < nI m
        · refine Ok.t c ?_
          unfold f_X11_lends_j81_36
          refine Ok.c hj2 ⟨obits_0 (P := lendP n L m) (i := j) (by unfold lendP; rw [decide_eq_true c]; rfl), nI_1 _⟩
        · refine Ok.e c ?_
          refine Ok.s (a := 3 <<< (nI (2 * j) &&& 31)) (by unfold f_X11_lacesOf; rw [two_nI]) ?_
          refine Ok.c hj2 ⟨?_, nI_1 _⟩
          refine obits_ifn (P := lendP n L m) (i := j) ?_
          unfold lendP
          rw [decide_eq_false c]
          cases hA : anyB (freeQ L j) (2 * n) with
          | false => rw [decide_eq_true ((free_bits hn hj2).mpr hA)]; rfl
          | true => rw [decide_eq_false (fun q => by rw [(free_bits hn hj2).mp q] at hA; cases hA)]; rfl
    · have m0 := h.m0 hk
      unfold f_X12_lends
      refine Ok.s X12_in ?_
      rw [nb, b1']
      refine Ok.s (X12_thrF 1) (Ok.e fnt ?_)
      unfold f_X12_lends_l35
      refine Ok.loop (fun j z => z.1 = obits (lendP n L m) j ∧ z.2 = nI j) (fun t => t = obits (lendP n L m) n) n (by omega) ⟨rfl, rfl⟩ (fun j z hj hI => ?_) (fun t ht => mrV ht)
      obtain ⟨v, c⟩ := z
      obtain ⟨e1, e2⟩ := hI
      dsimp only at e1 e2
      subst e1 e2
      show Ok (f_X12_lends_b35 (mset ν 264 0 0) (nI m) _ (nI j)) _
      unfold f_X12_lends_b35
      refine Ok.s (X12_people m0.m) ?_
      by_cases hc : j = n
      · subst hc
        exact Ok.t (nI_le (Nat.le_refl _) (by omega)) (Ok.d rfl)
      · have hj2 : j < n := by omega
        refine Ok.e (nI_ge hj2 (by omega)) ?_
        unfold f_X12_lends_l46
        refine Ok.loop (fun i z => z.1 = (if (!decide (L 1 j < nI m) && anyB (freeQ L j) i) = true then obits (lendP n L m) j ||| pw j else obits (lendP n L m) j) ∧ z.2 = nI i) (fun t => t = obits (lendP n L m) (j + 1)) (2 * n) (by omega) ⟨by rw [if_neg (by simp [anyB])], rfl⟩ (fun i z hi hI => ?_) (fun t ht => ?_)
        · obtain ⟨v, c⟩ := z
          obtain ⟨e1, e2⟩ := hI
          dsimp only at e1 e2
          subst e2
          show Ok (f_X12_lends_b46 (mset ν 264 0 0) (nI m) v (nI j) (nI i)) _
          unfold f_X12_lends_b46
          refine Ok.s (X12_laces m0.m) ?_
          by_cases hc : i = 2 * n
          · subst hc
            exact Ok.t (nI_le (Nat.le_refl _) (by omega)) (Ok.d e1)
          · have hi2 : i < 2 * n := by omega
            have hnx : anyB (freeQ L j) (i + 1) = (anyB (freeQ L j) i || freeQ L j i) := rfl
            refine Ok.e (nI_ge hi2 (by omega)) (Ok.s (X12_ownerOf (by omega)) ?_)
            by_cases c1 : i / 2 = j
            · refine Ok.t (by rw [c1]) ?_
              unfold f_X12_lends_j90_46 f_X12_lends_j91_46
              refine Ok.c hi2 ⟨?_, nI_1 _⟩
              dsimp only
              rw [or_zero, hnx, show freeQ L j i = false by unfold freeQ; simp [c1], Bool.or_false]
              exact e1
            · refine Ok.e (fun q => c1 ((nI_eq (by omega) (by omega)).mp q)) (Ok.s (X12_isIn m0.m hi2) ?_)
              by_cases c2 : L 6 i = 0
              · refine Ok.t (decide_eq_true c2) (Ok.s (X12_of0 m0.m hj2) ?_)
                refine Ok.c hi2 ⟨?_, nI_1 _⟩
                dsimp only
                rw [hnx, show freeQ L j i = true by unfold freeQ; simp [c1, c2], Bool.or_true, Bool.and_true, e1]
                by_cases c3 : L 1 j < nI m
                · rw [if_pos c3, or_zero, decide_eq_true c3]; rfl
                · rw [if_neg c3, decide_eq_false c3]
                  show _ ||| pw j = _
                  rw [if_pos (show (!false) = true from rfl)]
                  split
                  · exact or_twice _ _
                  · rfl
              · refine Ok.e (by simp [c2]) ?_
                unfold f_X12_lends_j90_46 f_X12_lends_j91_46
                refine Ok.c hi2 ⟨?_, nI_1 _⟩
                dsimp only
                rw [or_zero, hnx, show freeQ L j i = false by unfold freeQ; simp [c2], Bool.or_false]
                exact e1
        · unfold f_X12_lends_j99_35
          refine Ok.c hj2 ⟨?_, nI_1 _⟩
          exact ht
end Ct
