/-! WHAT STAYS SOUND -/
theorem PersonW.congr {p : Nat} {L L' : Ld} (h : PersonW p L) (e : ∀ k, 1 ≤ k → k ≤ 5 → L' k p = L k p) : PersonW p L' := by
  unfold PersonW
  rw [e 1 (by decide) (by decide), e 2 (by decide) (by decide), e 3 (by decide) (by decide), e 4 (by decide) (by decide), e 5 (by decide) (by decide)]
  exact h
theorem LaceW.congr {n l : Nat} {L L' : Ld} (h : LaceW n l L) (e : ∀ k, 6 ≤ k → k ≤ 11 → L' k l = L k l) : LaceW n l L' := by
  unfold LaceW InShoe Pledged LostW
  rw [e 6 (by decide) (by decide), e 7 (by decide) (by decide), e 8 (by decide) (by decide), e 9 (by decide) (by decide), e 10 (by decide) (by decide), e 11 (by decide) (by decide)]
  exact h
theorem RowW.congr {i j : Nat} {L L' : Ld} (h : RowW j L) (e : ∀ k, 14 ≤ k → k ≤ 17 → L' k i = L k j) : RowW i L' := by
  unfold RowW
  rw [e 14 (by decide) (by decide), e 15 (by decide) (by decide), e 16 (by decide) (by decide), e 17 (by decide) (by decide)]
  exact h
section Wf
variable {n : Nat} {L : Ld}
theorem WF.mk' (h : WF n L) {L' : Ld} (h1 : L' 0 1 = L 0 1) (h2 : ∃ x, x ≤ 9999 ∧ L' 0 2 = nI x) (h3 : L' 0 3 = L 0 3) (hp : ∀ p, p < n → (∀ k, 1 ≤ k → k ≤ 5 → L' k p = L k p) ∨ PersonW p L') (hl : ∀ l, l < 2 * n → (∀ k, 6 ≤ k → k ≤ 11 → L' k l = L k l) ∨ LaceW n l L') (hr : ∀ k, k < zz L' → RowW k L') (hm : ∀ q, L' 12 q = L 12 q) : WF n L' := by
  refine ⟨by rw [h1]; exact h.1, h2, by rw [h3]; exact h.2.2.1, fun p hp' => ?_, fun l hl' => ?_, hr, fun q hq => by rw [hm]; exact h.mud hq⟩
  · exact (hp p hp').elim (fun e => (h.man hp').congr e) id
  · exact (hl l hl').elim (fun e => (h.lace hl').congr e) id
theorem WF.upd (h : WF n L) {k i : Nat} {v : Int32} (hk : k ≤ 11) (h0 : k = 0 → i = 4 ∨ (i = 2 ∧ ∃ x, x ≤ 9999 ∧ v = nI x)) (hP : 1 ≤ k → k ≤ 5 → i < n → PersonW i (upd2 L k i v)) (hL : 6 ≤ k → i < 2 * n → LaceW n i (upd2 L k i v)) : WF n (upd2 L k i v) := by
  refine h.mk' (upd2_n (by omega)) ?_ (upd2_n (by omega)) (fun p hp => ?_) (fun l hl => ?_) (fun j hj => ?_) (fun q => upd2_k (by omega))
  · by_cases e : k = 0 ∧ i = 2
    · obtain ⟨rfl, rfl⟩ := e
      rcases h0 rfl with q | ⟨-, q⟩
      · exact absurd q (by decide)
      · rw [upd2_at]; exact q
    · rw [upd2_n (by omega)]; exact h.2.1
  · by_cases e : 1 ≤ k ∧ k ≤ 5 ∧ i = p
    · obtain ⟨e1, e2, rfl⟩ := e; exact Or.inr (hP e1 e2 hp)
    · exact Or.inl fun k' _ _ => upd2_n (by omega)
  · by_cases e : 6 ≤ k ∧ i = l
    · obtain ⟨e1, rfl⟩ := e; exact Or.inr (hL e1 hl)
    · exact Or.inl fun k' _ _ => upd2_n (by omega)
  · rw [zz_upd (by omega)] at hj
    exact (h.row hj).congr fun k' _ _ => upd2_k (by omega)
theorem WF.purse (h : WF n L) {p x : Nat} {v : Int32} (hx : x ≤ 999) (e : v = nI x) : WF n (upd2 L 1 p v) := by
  refine h.upd (by decide) (fun q => absurd q (by decide)) (fun _ _ hp => ?_) (fun q => absurd q (by decide))
  have m := h.man hp
  exact ⟨⟨x, hx, by rw [upd2_at]; exact e⟩, m.2.1, m.2.2.1, m.2.2.2.1, m.2.2.2.2⟩
theorem WF.plc (h : WF n L) {p x : Nat} {v : Int32} (hx : x ≤ 19) (e : v = nI x) : WF n (upd2 L 3 p v) := by
  refine h.upd (by decide) (fun q => absurd q (by decide)) (fun _ _ hp => ?_) (fun q => absurd q (by decide))
  have m := h.man hp
  exact ⟨m.1, m.2.1, ⟨x, hx, by rw [upd2_at]; exact e⟩, m.2.2.2.1, m.2.2.2.2⟩
theorem WF.goal (h : WF n L) {p x : Nat} {v : Int32} (hx : x ≤ 19) (e : v = nI x) : WF n (upd2 L 4 p v) := by
  refine h.upd (by decide) (fun q => absurd q (by decide)) (fun _ _ hp => ?_) (fun q => absurd q (by decide))
  have m := h.man hp
  exact ⟨m.1, m.2.1, m.2.2.1, ⟨x, hx, by rw [upd2_at]; exact e⟩, m.2.2.2.2⟩
theorem WF.tired (h : WF n L) {p x : Nat} {v : Int32} (hx : x ≤ 9) (e : v = nI x) : WF n (upd2 L 5 p v) := by
  refine h.upd (by decide) (fun q => absurd q (by decide)) (fun _ _ hp => ?_) (fun q => absurd q (by decide))
  have m := h.man hp
  exact ⟨m.1, m.2.1, m.2.2.1, m.2.2.2.1, ⟨x, hx, by rw [upd2_at]; exact e⟩⟩
theorem WF.seed (h : WF n L) {v : Int32} : WF n (upd2 L 0 4 v) := h.upd (by decide) (fun _ => Or.inl rfl) (fun q => absurd q (by decide)) (fun q => absurd q (by decide))
theorem WF.day (h : WF n L) {x : Nat} {v : Int32} (hx : x ≤ 9999) (e : v = nI x) : WF n (upd2 L 0 2 v) := h.upd (by decide) (fun _ => Or.inr ⟨rfl, x, hx, e⟩) (fun q => absurd q (by decide)) (fun q => absurd q (by decide))
theorem LaceW.pledged {l : Nat} (h : LaceW n l L) (e : L 6 l = 1) : Pledged n l L := by
  rcases h with h | h | h
  · exact absurd (h.1.symm.trans e) (by decide)
  · exact h
  · exact absurd (h.1.symm.trans e) (by decide)
theorem WF.amt (h : WF n L) {l x : Nat} {v : Int32} (hl : L 6 l = 1) (h1 : 1 ≤ x) (hx : x ≤ 999) (e : v = nI x) : WF n (upd2 L 8 l v) := by
  refine h.upd (by decide) (fun q => absurd q (by decide)) (fun _ q => absurd q (by decide)) (fun _ hl2 => ?_)
  obtain ⟨m1, h', m2, m3, m4, m5, m6, m7, m8⟩ := (h.lace hl2).pledged hl
  exact Or.inr (Or.inl ⟨m1, h', m2, m3, m4, ⟨x, h1, hx, by rw [upd2_at]; exact e⟩, m6, m7, m8⟩)
theorem WF.term (h : WF n L) {l x : Nat} {v : Int32} (hl : L 6 l = 1) (hx : x ≤ 9999) (e : v = nI x) : WF n (upd2 L 10 l v) := by
  refine h.upd (by decide) (fun q => absurd q (by decide)) (fun _ q => absurd q (by decide)) (fun _ hl2 => ?_)
  obtain ⟨m1, h', m2, m3, m4, m5, m6, m7, m8⟩ := (h.lace hl2).pledged hl
  exact Or.inr (Or.inl ⟨m1, h', m2, m3, m4, m5, m6, ⟨x, hx, by rw [upd2_at]; exact e⟩, m8⟩)
theorem WF.rowW (h : WF n L) {l : Nat} {a b c d e g : Int32} (hl : l < 2 * n → LaceW n l (rowA L l a b c d e g)) : WF n (rowA L l a b c d e g) := by
  refine h.mk' rfl h.2.1 rfl (fun p hp => Or.inl fun k h1 h2 => ?_) (fun l' hl' => ?_) (fun j hj => (h.row hj).congr fun k h1 h2 => ?_) (fun q => rfl)
  · unfold rowA; rw [upd2_k (by omega), upd2_k (by omega), upd2_k (by omega), upd2_k (by omega), upd2_k (by omega), upd2_k (by omega)]
  · by_cases q : l' = l
    · subst q; exact Or.inr (hl hl')
    · refine Or.inl fun k h1 h2 => ?_
      unfold rowA; rw [upd2_i q, upd2_i q, upd2_i q, upd2_i q, upd2_i q, upd2_i q]
  · unfold rowA; rw [upd2_k (by omega), upd2_k (by omega), upd2_k (by omega), upd2_k (by omega), upd2_k (by omega), upd2_k (by omega)]
theorem rowA_v {l : Nat} {a b c d e g : Int32} : rowA L l a b c d e g 6 l = a ∧ rowA L l a b c d e g 7 l = b ∧ rowA L l a b c d e g 8 l = c ∧ rowA L l a b c d e g 9 l = d ∧ rowA L l a b c d e g 10 l = e ∧ rowA L l a b c d e g 11 l = g := by
  unfold rowA
  refine ⟨?_, ?_, ?_, ?_, ?_, ?_⟩
  · rw [upd2_k (by decide), upd2_k (by decide), upd2_k (by decide), upd2_k (by decide), upd2_k (by decide), upd2_at]
  · rw [upd2_k (by decide), upd2_k (by decide), upd2_k (by decide), upd2_k (by decide), upd2_at]
  · rw [upd2_k (by decide), upd2_k (by decide), upd2_k (by decide), upd2_at]
  · rw [upd2_k (by decide), upd2_k (by decide), upd2_at]
  · rw [upd2_k (by decide), upd2_at]
  · rw [upd2_at]
theorem shoe_row {l : Nat} : LaceW n l (rowA L l 0 (-1) 0 0 0 (-1)) := Or.inl rowA_v
theorem lost_row {l h : Nat} {v : Int32} (hn : h < n) (ho : h ≠ l / 2) (e : v = nI h) : LaceW n l (rowA L l 2 v 0 0 0 (-1)) := by
  obtain ⟨a, b, c, d, g, k⟩ := rowA_v (L := L) (l := l) (a := 2) (b := v) (c := 0) (d := 0) (e := 0) (g := -1)
  exact Or.inr (Or.inr ⟨a, h, hn, ho, b.trans e, c, d, g, k⟩)
theorem WF.log (h : WF n L) {l w m : Nat} {k1 k2 k3 : Int32} (hl : l < 12) (hw : w ≤ 2) (hm : m ≤ 999) (e1 : k1 = nI l) (e2 : k2 = nI w) (e3 : k3 = nI m) : WF n (logA L k1 k2 k3) := by
  refine h.mk' (logA_lo (by decide)) (by rw [logA_lo (by decide)]; exact h.2.1) (logA_lo (by decide)) (fun p hp => Or.inl fun k h1 h2 => logA_lo (by omega)) (fun p hp => Or.inl fun k h1 h2 => logA_lo (by omega)) (fun j hj => ?_) (fun q => logA_lo (by decide))
  rw [zz_log] at hj
  cases j with
  | zero => exact ⟨h.2.1, ⟨l, hl, e1⟩, ⟨w, hw, e2⟩, ⟨m, hm, e3⟩⟩
  | succ j => exact (h.row (by omega)).congr fun k h1 h2 => logA_s h1 h2
theorem WF.earn (h : WF n L) {p m : Nat} {v : Int32} (hp : p < n) (hm : m ≤ 999) (e : v = nI m) : WF n (earnA L p v) := by
  obtain ⟨x, hx, ex⟩ := (h.man hp).1
  refine h.purse (x := min 999 (x + m)) (by omega) ?_
  rw [ex, e, nI_add]
  exact mn_nI (a := 999) (by decide) (by omega)
def payA (L : Ld) (l p h : Nat) : Ld := rowA (logA (earnA (upd2 L 1 p (L 1 p - L 8 l)) h (L 8 l)) (nI l) 1 (L 8 l)) l 0 (-1) 0 0 0 (-1)
def lostA (L : Ld) (l : Nat) : Ld := rowA (logA L (nI l) 2 (L 8 l)) l 2 (L 7 l) 0 0 0 (-1)
def idx (x : Int32) : Nat := x.toNatClampNeg
def settleA (L : Ld) (l : Nat) : Ld := if L 1 (l / 2) < L 8 l then (if L 11 l = -1 then lostA L l else if L 1 (idx (L 11 l)) < L 8 l then lostA L l else payA L l (idx (L 11 l)) (idx (L 7 l))) else payA L l (l / 2) (idx (L 7 l))
theorem WF.pay (h : WF n L) {l p h' : Nat} (hn : n ≤ 6) (hl : l < 2 * n) (hP : Pledged n l L) (hp : p < n) (hh : h' < n) (hm : ¬ L 1 p < L 8 l) : WF n (payA L l p h') := by
  obtain ⟨m1, h'', m2, m3, m4, ⟨m, m5, m5', em⟩, m6, m7, m8⟩ := hP
  obtain ⟨x, hx, ex⟩ := (h.man hp).1
  unfold payA
  refine WF.rowW ?_ (fun _ => shoe_row)
  refine WF.log (l := l) (w := 1) (m := m) ?_ (by omega) (by decide) m5' rfl rfl em
  refine WF.earn (m := m) ?_ hh m5' em
  refine h.purse (x := x - m) (by omega) ?_
  rw [ex, em] at hm ⊢
  refine pk_sub ?_
  rcases Nat.lt_or_ge x m with q | q
  · exact absurd (nI_lt q (by omega)) hm
  · exact q
theorem WF.lost (h : WF n L) {l : Nat} (hn : n ≤ 6) (hl : l < 2 * n) (hP : Pledged n l L) : WF n (lostA L l) := by
  obtain ⟨m1, h'', m2, m3, m4, ⟨m, m5, m5', em⟩, m6, m7, m8⟩ := hP
  unfold lostA
  refine WF.rowW ?_ (fun _ => lost_row m2 m3 m4)
  exact h.log (l := l) (w := 2) (m := m) (by omega) (by decide) m5' rfl rfl em
theorem Pledged.hold {l : Nat} (hP : Pledged n l L) (hn : n ≤ 6) : idx (L 7 l) < n ∧ L 7 l = nI (idx (L 7 l)) := by
  obtain ⟨m1, h'', m2, m3, m4, -⟩ := hP
  unfold idx
  rw [m4, nI_clamp (by omega)]; exact ⟨m2, rfl⟩
theorem Pledged.sure {l : Nat} (hP : Pledged n l L) (hn : n ≤ 6) (h1 : ¬ L 11 l = -1) : idx (L 11 l) < n ∧ L 11 l = nI (idx (L 11 l)) := by
  obtain ⟨m1, h'', m2, m3, m4, m5, m6, m7, m8⟩ := hP
  rcases m8 with q | ⟨s, q1, q2, q3, q4⟩
  · exact absurd q h1
  · unfold idx
    rw [q4, nI_clamp (by omega)]; exact ⟨q1, rfl⟩
theorem WF.settle (h : WF n L) {l : Nat} (hn : n ≤ 6) (hl : l < 2 * n) (hP : Pledged n l L) : WF n (settleA L l) := by
  unfold settleA
  by_cases c1 : L 1 (l / 2) < L 8 l
  · rw [if_pos c1]
    by_cases c2 : L 11 l = -1
    · rw [if_pos c2]; exact h.lost hn hl hP
    · rw [if_neg c2]
      by_cases c3 : L 1 (idx (L 11 l)) < L 8 l
      · rw [if_pos c3]; exact h.lost hn hl hP
      · rw [if_neg c3]; exact h.pay hn hl hP (hP.sure hn c2).1 (hP.hold hn).1 c3
  · rw [if_neg c1]; exact h.pay hn hl hP (by omega) (hP.hold hn).1 c1
/-! a person's day -/
def fallA (L : Ld) (p : Nat) : Ld := upd2 (upd2 L 1 p (mx 0 (L 1 p - L 0 3))) 5 p (mn 9 (L 5 p + 1))
def goA (g x w : Int32) : Int32 := if g ≤ x then mx g (x - w) else mn g (x + w)
def stepA (L : Ld) (p : Nat) (w : Int32) : Ld := upd2 L 3 p (goA (L 4 p) (L 3 p) w)
def seedA (L : Ld) : Int32 := (1103515245 * L 0 4) + 12345
def dieA (s : Int32) : Int32 := ((s >>> ((16 : Int32) &&& 31)) &&& (32767 : Int32)) - ((s >>> ((16 : Int32) &&& 31)) &&& (32767 : Int32)) / 100 * 100
def oneA (dr : Bool) (T : Tx) (n : Nat) (p : Nat) (s : Ld × Int32) : Ld × Int32 := if s.1 3 p = s.1 4 p then s else if dr = true then (if rateA T n (upd2 s.1 0 4 (seedA s.1)) p ≤ dieA (seedA s.1) then (stepA (upd2 s.1 0 4 (seedA s.1)) p (walkA T n (upd2 s.1 0 4 (seedA s.1)) p), s.2) else (fallA (upd2 s.1 0 4 (seedA s.1)) p, s.2 + 1)) else (stepA s.1 p (walkA T n s.1 p), s.2)
def growS (T : Tx) (n : Nat) (l : Nat) (L : Ld) : Ld := if L 6 l = 1 then upd2 L 8 l (mn 999 (L 8 l + growA T n L l)) else L
def dueS (l : Nat) (L : Ld) : Ld := if L 6 l = 1 then (if L 0 2 < L 10 l then L else settleA L l) else L
def walkersA (dr : Bool) (T : Tx) (n : Nat) (L : Ld) : Ld × Int32 := iter (oneA dr T n) n (L, 0)
def dueA (T : Tx) (n : Nat) (L : Ld) : Ld := iter dueS (2 * n) (iter (growS T n) (2 * n) L)
def dayA (dr : Bool) (T : Tx) (n : Nat) (L : Ld) : Ld × Int32 := (upd2 (dueA T n (walkersA dr T n L).1) 0 2 (mn 9999 (dueA T n (walkersA dr T n L).1 0 2 + 1)), (walkersA dr T n L).2)
def daysA (dr : Bool) (T : Tx) (n : Nat) (L : Ld) (k : Nat) : Ld × Int32 := iter (fun _ s => ((dayA dr T n s.1).1, s.2 + (dayA dr T n s.1).2)) k (L, 0)
theorem goA_nI : ∀ g, g < 20 → ∀ x, x < 20 → ∀ w, w < 10 → goA (nI g) (nI x) (nI w) = nI (if g ≤ x then max g (x - w) else min g (x + w)) := by decide +kernel
theorem WF.fall (h : WF n L) {p : Nat} (hp : p < n) : WF n (fallA L p) := by
  obtain ⟨x, hx, ex⟩ := (h.man hp).1
  obtain ⟨y, hy, ey⟩ := (h.man hp).2.2.2.2
  obtain ⟨z, hz, ez⟩ := h.2.2.1
  unfold fallA
  refine WF.tired (x := min 9 (y + 1)) ?_ (by omega) ?_
  · refine h.purse (x := x - z) (by omega) ?_
    rw [ex, ez, mx0_sub (by omega) (by omega)]
  · rw [ey, nI_1]; exact mn_nI (a := 9) (by decide) (by omega)
theorem WF.step (h : WF n L) {p w : Nat} (hp : p < n) (hw : w ≤ 9) : WF n (stepA L p (nI w)) := by
  obtain ⟨x, hx, ex⟩ := (h.man hp).2.2.1
  obtain ⟨y, hy, ey⟩ := (h.man hp).2.2.2.1
  unfold stepA
  rw [ex, ey, goA_nI y (by omega) x (by omega) w (by omega)]
  exact h.plc (by split <;> omega) rfl
theorem WF.one (h : WF n L) {T : Tx} (hW : WT T) {dr : Bool} {p : Nat} {c : Int32} (hp : p < n) : WF n (oneA dr T n p (L, c)).1 := by
  unfold oneA
  dsimp only
  by_cases c1 : L 3 p = L 4 p
  · rw [if_pos c1]; exact h
  · rw [if_neg c1]
    cases dr with
    | false =>
      rw [if_neg (by decide)]
      obtain ⟨w, hw, e⟩ := walkA_nI hW h hp
      rw [e]
      exact h.step hp hw
    | true =>
      rw [if_pos rfl]
      have h2 : WF n (upd2 L 0 4 (seedA L)) := h.seed
      by_cases c2 : rateA T n (upd2 L 0 4 (seedA L)) p ≤ dieA (seedA L)
      · rw [if_pos c2]
        obtain ⟨w, hw, e⟩ := walkA_nI hW h2 hp
        rw [e]
        exact h2.step hp hw
      · rw [if_neg c2]; exact h2.fall hp
theorem iter_inv {α : Type} {g : Nat → α → α} (P : α → Prop) {m : Nat} {a : α} (h0 : P a) (hs : ∀ i x, i < m → P x → P (g i x)) : ∀ i, i ≤ m → P (iter g i a)
  | 0, _ => h0
  | i + 1, h => hs i _ (by omega) (iter_inv P h0 hs i (by omega))
theorem WF.ones (h : WF n L) {T : Tx} (hW : WT T) {dr : Bool} {c : Int32} {j : Nat} (hj : j ≤ n) : WF n (iter (oneA dr T n) j (L, c)).1 :=
  iter_inv (fun s : Ld × Int32 => WF n s.1) (m := n) h (fun i x hi hx => WF.one (L := x.1) (c := x.2) hx hW hi) j hj
theorem WF.grow (h : WF n L) {T : Tx} (hW : WT T) {l : Nat} (hl : l < 2 * n) : WF n (growS T n l L) := by
  unfold growS
  by_cases c : L 6 l = 1
  · rw [if_pos c]
    obtain ⟨m1, h'', m2, m3, m4, ⟨m, m5, m5', em⟩, m6, m7, m8⟩ := (h.lace hl).pledged c
    obtain ⟨g, hg, eg⟩ := growA_nI (n := n) (l := l) hW m6
    refine h.amt (x := min 999 (m + g)) c (by omega) (by omega) ?_
    rw [eg, em, nI_add]
    exact mn_nI (a := 999) (by decide) (by omega)
  · rw [if_neg c]; exact h
theorem WF.call (h : WF n L) (hn : n ≤ 6) {l : Nat} (hl : l < 2 * n) : WF n (dueS l L) := by
  unfold dueS
  by_cases c : L 6 l = 1
  · rw [if_pos c]
    by_cases c2 : L 0 2 < L 10 l
    · rw [if_pos c2]; exact h
    · rw [if_neg c2]; exact h.settle hn hl ((h.lace hl).pledged c)
  · rw [if_neg c]; exact h
theorem WF.grows (h : WF n L) {T : Tx} (hW : WT T) {j : Nat} (hj : j ≤ 2 * n) : WF n (iter (growS T n) j L) :=
  iter_inv (fun s : Ld => WF n s) (m := 2 * n) h (fun i x hi hx => WF.grow hx hW hi) j hj
theorem WF.calls (h : WF n L) (hn : n ≤ 6) {j : Nat} (hj : j ≤ 2 * n) : WF n (iter dueS j L) :=
  iter_inv (fun s : Ld => WF n s) (m := 2 * n) h (fun i x hi hx => WF.call hx hn hi) j hj
theorem WF.next (h : WF n L) : WF n (upd2 L 0 2 (mn 9999 (L 0 2 + 1))) := by
  obtain ⟨x, hx, e⟩ := h.2.1
  refine h.day (x := min 9999 (x + 1)) (by omega) ?_
  rw [e, nI_1]; exact mn_nI (a := 9999) (by decide) (by omega)
theorem WF.oneday (h : WF n L) (hn : n ≤ 6) {T : Tx} (hW : WT T) {dr : Bool} : WF n (dayA dr T n L).1 := by
  unfold dayA dueA walkersA
  exact (((h.ones hW (Nat.le_refl _)).grows hW (Nat.le_refl _)).calls hn (Nat.le_refl _)).next
theorem WF.days (h : WF n L) (hn : n ≤ 6) {T : Tx} (hW : WT T) {dr : Bool} (k : Nat) : WF n (daysA dr T n L k).1 :=
  iter_inv (g := fun _ s => ((dayA dr T n s.1).1, s.2 + (dayA dr T n s.1).2)) (a := (L, 0)) (fun s : Ld × Int32 => WF n s.1) (m := k) h (fun i x _ hx => WF.oneday (L := x.1) hx hn hW) k (Nat.le_refl _)
end Wf
