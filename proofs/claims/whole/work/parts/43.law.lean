/-! FACTS -/
theorem rd_k {μ : Mem} {a len : Nat} {k : Int32} (i : Nat) (e : k = nI i) (h : i < len) (hl : len < 2 ^ 31) : rd μ a len k = some (μ a i) := by rw [e]; exact rd_nI h hl
theorem wr_k {μ : Mem} {a len : Nat} {k v : Int32} (i : Nat) (e : k = nI i) (h : i < len) (hl : len < 2 ^ 31) : wr μ a len k v = some (mset μ a i v) := by rw [e]; exact wr_nI h hl
def held (n : Nat) (L : Ld) (p : Nat) : Int32 := obits (fun l => decide (L 7 l = nI p)) (2 * n)
def factA (n : Nat) (L : Ld) (p g : Nat) : Int32 :=
  if g = 0 then nI p else if g = 1 then slack L p else if g = 2 then bitC (held n L p) else if g = 3 then L 3 p else if g = 4 then L 12 (L 3 p).toNatClampNeg else if g = 5 then L 5 p else if g = 6 then L 0 2 else if g = 7 then b2i (if slack L p = 1 then (false : Bool) else true) else b2i (if L 3 p = L 4 p then (true : Bool) else false)
theorem b2i_01 (b : Bool) : b2i b = 0 ∨ b2i b = 1 := by cases b <;> decide
theorem fact7 {n p : Nat} {L : Ld} : (factA n L p 7 = 0 ∨ factA n L p 7 = 1) ∧ (factA n L p 8 = 0 ∨ factA n L p 8 = 1) := ⟨b2i_01 _, b2i_01 _⟩
theorem WF.place {n p : Nat} {L : Ld} (h : WF n L) (hp : p < n) : ∃ x, x ≤ 19 ∧ L 3 p = nI x := (h.man hp).2.2.1
theorem bit_slack {μ : Mem} {L : Ld} {p : Nat} : f_J6_bitCount_0f7a4 μ (gait L p) = some (slack L p) := by rw [J6_bit, gait_bits]
theorem CL.rdMud {n : Nat} {f : Int32} {μ : Mem} {a : Nat} {L : Ld} (h : CL n f μ a L) {k : Int32} {x : Nat} (hx : x ≤ 19) (ex : k = nI x) : rd μ (a + 12) 20 k = some (L 12 k.toNatClampNeg) := by
  rw [ex, nI_clamp (by omega), rd_nI (by omega) (by decide), h.atM (by omega)]
theorem X4_ask {n : Nat} {f : Int32} {μ : Mem} {a : Nat} {L : Ld} (h : CL n f μ a L) (hw : WF n L) (ha : a ≤ 18) {p : Nat} (hp : p < n) : Ok (f_X4_ask μ 48 a (nI p)) (fun μ' => Fr (fun k => k = 54) μ μ' ∧ ∀ g, g < 9 → μ' 54 g = factA n L p g) := by
  obtain ⟨x, hx, ex⟩ := hw.place hp
  have hn := h.n6
  have hc : ∀ {ν : Mem}, CL n f ν a L → ∀ i v, CL n f (mset ν (48 + 6) i v) a L := fun hν i v => hν.fr fun j hj => mset_ne (by omega)
  unfold f_X4_ask
  refine Ok.s (X2_gaitOf h hp) ?_
  refine Ok.s bit_slack ?_
  refine Ok.s (wr_k 0 rfl (by decide) (by decide)) ?_
  refine Ok.s (wr_k 1 rfl (by decide) (by decide)) ?_
  have c1 := hc (hc h 0 (nI p)) 1 (slack L p)
  refine Ok.s (X2_heldBy c1 (nI p)) ?_
  refine Ok.s J6_bit ?_
  refine Ok.s (wr_k 2 rfl (by decide) (by decide)) ?_
  have c2 := hc c1 2 (bitC (held n L p))
  refine Ok.s (c2.rdP (k := 3) (by decide) hp) ?_
  refine Ok.s (wr_k 3 rfl (by decide) (by decide)) ?_
  have c3 := hc c2 3 (L 3 p)
  refine Ok.s (c3.rdP (k := 3) (by decide) hp) ?_
  refine Ok.s (c3.rdMud hx ex) ?_
  refine Ok.s (wr_k 4 rfl (by decide) (by decide)) ?_
  have c4 := hc c3 4 (L 12 (L 3 p).toNatClampNeg)
  refine Ok.s (c4.rdP (k := 5) (by decide) hp) ?_
  refine Ok.s (wr_k 5 rfl (by decide) (by decide)) ?_
  have c5 := hc c4 5 (L 5 p)
  refine Ok.s (a := mset _ (48 + 6) 6 (L 0 2)) (by rw [← c5.at0 (i := 2) (by decide)]; exact wr_k 6 rfl (by decide) (by decide)) ?_
  have c6 := hc c5 6 (L 0 2)
  refine Ok.s (wr_k 7 rfl (by decide) (by decide)) ?_
  have c7 := hc c6 7 (b2i (if slack L p = 1 then (false : Bool) else true))
  refine Ok.s (c7.rdP (k := 3) (by decide) hp) ?_
  refine Ok.s (c7.rdP (k := 4) (by decide) hp) ?_
  refine Ok.s (wr_k 8 rfl (by decide) (by decide)) ?_
  refine Ok.r ⟨?_, ?_⟩
  · exact ((((((((Fr.set (S := fun k => k = 54) rfl).put rfl).put rfl).put rfl).put rfl).put rfl).put rfl).put rfl).put rfl
  · intro g hg
    rcases (show g = 0 ∨ g = 1 ∨ g = 2 ∨ g = 3 ∨ g = 4 ∨ g = 5 ∨ g = 6 ∨ g = 7 ∨ g = 8 by omega) with rfl | rfl | rfl | rfl | rfl | rfl | rfl | rfl | rfl <;> rfl
theorem X12_isThere {n : Nat} {f : Int32} {μ : Mem} {L : Ld} (h : ML n f (μ 265) L) {p : Nat} (hp : p < n) : f_X12_isThere μ (nI p) = some (if L 3 p = L 4 p then (true : Bool) else false) := by
  unfold f_X12_isThere
  rw [X12_of2 h hp, X12_of3 h hp]
  rfl
theorem bite (b : Bool) : (if b = true then (true : Bool) else false) = b := by cases b <;> rfl
theorem ML.rd0 {n : Nat} {f : Int32} {μ : Mem} {L : Ld} (h : ML n f (μ 265) L) {k : Int32} (i j : Nat) (e : k = nI j) (hj : sidx i = j) (hi : i < 5) : rd μ 265 2068 k = some (L 0 i) := by
  have := sidx_lt hi
  rw [e, rd_nI (by omega) (by decide), ← hj, h.at0 hi]
theorem X12_factOf {n : Nat} {f : Int32} {μ : Mem} {L : Ld} (h : ML n f (μ 265) L) (hw : WF n L) {p g : Nat} (hp : p < n) (hg : g < 9) (x : Int32) : f_X12_factOf μ (nI g) x (nI p) = some (factA n L p g) := by
  have hn := h.n6
  unfold f_X12_factOf
  rcases (show g = 0 ∨ g = 1 ∨ g = 2 ∨ g = 3 ∨ g = 4 ∨ g = 5 ∨ g = 6 ∨ g = 7 ∨ g = 8 by omega) with rfl | rfl | rfl | rfl | rfl | rfl | rfl | rfl | rfl
  · exact it (by decide) rfl
  · refine ie (by decide) (it (by decide) ?_)
    exact bs (X12_slackOf h hp) rfl
  · refine ie (by decide) (ie (by decide) (it (by decide) ?_))
    exact bs (X12_heldBy h hw (by omega)) (bs J6_bit rfl)
  · refine ie (by decide) (ie (by decide) (ie (by decide) (it (by decide) ?_)))
    exact bs (X12_of2 h hp) rfl
  · refine ie (by decide) (ie (by decide) (ie (by decide) (ie (by decide) (it (by decide) ?_))))
    obtain ⟨x, hx, ex⟩ := hw.place hp
    refine bs (X12_of2 h hp) (bs (a := L 12 (L 3 p).toNatClampNeg) ?_ rfl)
    rw [ex, nI_clamp (by omega), show (8 : Int32) = nI 8 from rfl, nI_add, rd_nI (by omega) (by decide), h.atM (by omega)]
  · refine ie (by decide) (ie (by decide) (ie (by decide) (ie (by decide) (ie (by decide) (it (by decide) ?_)))))
    exact bs (X12_of4 h hp) rfl
  · refine ie (by decide) (ie (by decide) (ie (by decide) (ie (by decide) (ie (by decide) (ie (by decide) (it (by decide) ?_))))))
    exact bs (h.rd0 2 3 rfl rfl (by decide)) rfl
  · refine ie (by decide) (ie (by decide) (ie (by decide) (ie (by decide) (ie (by decide) (ie (by decide) (ie (by decide) (it (by decide) ?_)))))))
    exact bs (X12_slackOf h hp) rfl
  · refine ie (by decide) (ie (by decide) (ie (by decide) (ie (by decide) (ie (by decide) (ie (by decide) (ie (by decide) (ie (by decide) (it (by decide) ?_))))))))
    refine bs (X12_isThere h hp) ?_
    show some (b2i (if (if L 3 p = L 4 p then (true : Bool) else false) = true then (true : Bool) else false)) = _
    rw [bite]; rfl
/-! THE LAW'S TEXT: T 0 0 told, 1 0 lines, 2 kinds, 3 numbers, 4 begins, 5 ends, 6 steps, 7 0 how many steps -/
abbrev Tx : Type := Nat → Nat → Nat
def bopA (s : Nat) (x y : Int32) : Int32 := if s = 1010 then x + y else if s = 1011 then b2i (if y ≤ x then (false : Bool) else true) else if s = 1012 then b2i (if x ≤ y then (false : Bool) else true) else if s = 1013 then x &&& y else x ||| y
def evA1 (fa : Nat → Int32) (s : Nat) (vs : List Int32) : List Int32 := if s < 1000 then nI s :: vs else if s < 1009 then fa (s - 1000) :: vs else if s = 1009 then (match vs with | x :: r => (1 - x) :: r | r => r) else (match vs with | y :: x :: r => bopA s x y :: r | r => r)
def evA (fa : Nat → Int32) (st : Nat → Nat) (b : Nat) : Nat → List Int32
  | 0 => []
  | k + 1 => evA1 fa (st (b + k)) (evA fa st b k)
def tyA1 (s : Nat) (ts : List Bool) : Option (List Bool) := if s < 1009 then (if ts.length < 24 then some (decide (1007 ≤ s) :: ts) else none) else if s = 1009 then (match ts with | true :: r => some (true :: r) | _ => none) else if s = 1010 then (match ts with | false :: false :: r => some (false :: r) | _ => none) else if s ≤ 1012 then (match ts with | false :: false :: r => some (true :: r) | _ => none) else if s ≤ 1014 then (match ts with | true :: true :: r => some (true :: r) | _ => none) else none
def tyA (st : Nat → Nat) (b : Nat) (t0 : List Bool) : Nat → Option (List Bool)
  | 0 => some t0
  | k + 1 => (tyA st b t0 k).bind (tyA1 (st (b + k)))
def Tv : List Bool → List Int32 → Prop
  | [], [] => True
  | t :: ts, v :: vs => (t = true → v = 0 ∨ v = 1) ∧ Tv ts vs
  | _, _ => False
theorem Tv.len : ∀ {ts : List Bool} {vs : List Int32}, Tv ts vs → ts.length = vs.length
  | [], [], _ => rfl
  | _ :: ts, _ :: vs, h => congrArg Nat.succ (Tv.len (ts := ts) (vs := vs) h.2)
theorem ty_num {s : Nat} {ts : List Bool} (hs : s < 1009) (h : ts.length < 24) : tyA1 s ts = some (decide (1007 ≤ s) :: ts) := by
  unfold tyA1; rw [if_pos hs, if_pos h]
theorem ty_not {r : List Bool} : tyA1 1009 (true :: r) = some (true :: r) := rfl
theorem ty_plus {r : List Bool} : tyA1 1010 (false :: false :: r) = some (false :: r) := rfl
theorem ty_less {r : List Bool} : tyA1 1011 (false :: false :: r) = some (true :: r) := rfl
theorem ty_more {r : List Bool} : tyA1 1012 (false :: false :: r) = some (true :: r) := rfl
theorem ty_and {r : List Bool} : tyA1 1013 (true :: true :: r) = some (true :: r) := rfl
theorem ty_or {r : List Bool} : tyA1 1014 (true :: true :: r) = some (true :: r) := rfl
theorem ty_inv {s : Nat} {ts ts' : List Bool} {vs : List Int32} (h : tyA1 s ts = some ts') (hv : Tv ts vs) : (s < 1009 ∧ vs.length < 24 ∧ ts' = decide (1007 ≤ s) :: ts) ∨ (s = 1009 ∧ ∃ x r tr, vs = x :: r ∧ (x = 0 ∨ x = 1) ∧ ts' = true :: tr ∧ Tv tr r) ∨ (s = 1010 ∧ ∃ y x r tr, vs = y :: x :: r ∧ ts' = false :: tr ∧ Tv tr r) ∨ ((s = 1011 ∨ s = 1012) ∧ ∃ y x r tr, vs = y :: x :: r ∧ ts' = true :: tr ∧ Tv tr r) ∨ ((s = 1013 ∨ s = 1014) ∧ ∃ y x r tr, vs = y :: x :: r ∧ (x = 0 ∨ x = 1) ∧ (y = 0 ∨ y = 1) ∧ ts' = true :: tr ∧ Tv tr r) := by
  unfold tyA1 at h
  by_cases h1 : s < 1009
  · rw [if_pos h1] at h
    by_cases h2 : ts.length < 24
    · rw [if_pos h2] at h
      exact Or.inl ⟨h1, hv.len ▸ h2, (Option.some.inj h).symm⟩
    · rw [if_neg h2] at h; cases h
  · rw [if_neg h1] at h
    by_cases h2 : s = 1009
    · rw [if_pos h2] at h
      refine Or.inr (Or.inl ⟨h2, ?_⟩)
      match ts, vs, h, hv with
      | true :: r, v :: w, h, hv => exact ⟨v, w, r, rfl, hv.1 rfl, (Option.some.inj h).symm, hv.2⟩
    · rw [if_neg h2] at h
      by_cases h3 : s = 1010
      · rw [if_pos h3] at h
        refine Or.inr (Or.inr (Or.inl ⟨h3, ?_⟩))
        match ts, vs, h, hv with
        | false :: false :: r, v :: u :: w, h, hv => exact ⟨v, u, w, r, rfl, (Option.some.inj h).symm, hv.2.2⟩
      · rw [if_neg h3] at h
        by_cases h4 : s ≤ 1012
        · rw [if_pos h4] at h
          refine Or.inr (Or.inr (Or.inr (Or.inl ⟨by omega, ?_⟩)))
          match ts, vs, h, hv with
          | false :: false :: r, v :: u :: w, h, hv => exact ⟨v, u, w, r, rfl, (Option.some.inj h).symm, hv.2.2⟩
        · rw [if_neg h4] at h
          by_cases h5 : s ≤ 1014
          · rw [if_pos h5] at h
            refine Or.inr (Or.inr (Or.inr (Or.inr ⟨by omega, ?_⟩)))
            match ts, vs, h, hv with
            | true :: true :: r, v :: u :: w, h, hv => exact ⟨v, u, w, r, rfl, hv.2.1 rfl, hv.1 rfl, (Option.some.inj h).symm, hv.2.2⟩
          · rw [if_neg h5] at h; cases h
theorem ev_num {fa : Nat → Int32} {s : Nat} {vs : List Int32} (h : s < 1000) : evA1 fa s vs = nI s :: vs := by unfold evA1; rw [if_pos h]
theorem ev_fact {fa : Nat → Int32} {g : Nat} {vs : List Int32} (h : g < 9) : evA1 fa (1000 + g) vs = fa g :: vs := by
  unfold evA1; rw [if_neg (by omega), if_pos (by omega), show 1000 + g - 1000 = g by omega]
theorem ev_not {fa : Nat → Int32} {x : Int32} {r : List Int32} : evA1 fa 1009 (x :: r) = (1 - x) :: r := rfl
theorem ev_bop {fa : Nat → Int32} {s : Nat} {y x : Int32} {r : List Int32} (h : 1010 ≤ s) : evA1 fa s (y :: x :: r) = bopA s x y :: r := by
  unfold evA1; rw [if_neg (by omega), if_neg (by omega), if_neg (by omega)]
theorem bop_01 {s : Nat} {x y : Int32} (hs : 1011 ≤ s) (h : 1013 ≤ s → (x = 0 ∨ x = 1) ∧ (y = 0 ∨ y = 1)) : bopA s x y = 0 ∨ bopA s x y = 1 := by
  unfold bopA
  rw [if_neg (by omega)]
  by_cases h1 : s = 1011
  · rw [if_pos h1]; exact b2i_01 _
  · rw [if_neg h1]
    by_cases h2 : s = 1012
    · rw [if_pos h2]; exact b2i_01 _
    · rw [if_neg h2]
      obtain ⟨hx, hy⟩ := h (by omega)
      rcases hx with rfl | rfl <;> rcases hy with rfl | rfl <;> split <;> decide
theorem ty_ev {fa : Nat → Int32} {s : Nat} {ts ts' : List Bool} {vs : List Int32} (hb : (fa 7 = 0 ∨ fa 7 = 1) ∧ (fa 8 = 0 ∨ fa 8 = 1)) (h : tyA1 s ts = some ts') (hv : Tv ts vs) : Tv ts' (evA1 fa s vs) := by
  rcases ty_inv h hv with ⟨h1, -, rfl⟩ | ⟨rfl, x, r, tr, rfl, hx, rfl, h2⟩ | ⟨rfl, y, x, r, tr, rfl, rfl, h2⟩ | ⟨h1, y, x, r, tr, rfl, rfl, h2⟩ | ⟨h1, y, x, r, tr, rfl, hx, hy, rfl, h2⟩
  · by_cases h2 : s < 1000
    · rw [ev_num h2]
      exact ⟨fun q => absurd (of_decide_eq_true q) (by omega), hv⟩
    · obtain ⟨g, rfl⟩ : ∃ g, s = 1000 + g := ⟨s - 1000, by omega⟩
      rw [ev_fact (by omega)]
      refine ⟨fun q => ?_, hv⟩
      have := of_decide_eq_true q
      rcases (show g = 7 ∨ g = 8 by omega) with rfl | rfl
      · exact hb.1
      · exact hb.2
  · rw [ev_not]
    refine ⟨fun _ => ?_, h2⟩
    rcases hx with rfl | rfl
    · exact Or.inr (by decide)
    · exact Or.inl (by decide)
  · rw [ev_bop (by omega)]
    exact ⟨fun q => (by cases q), h2⟩
  · rw [ev_bop (by omega)]
    exact ⟨fun _ => bop_01 (by omega) (fun q => absurd q (by omega)), h2⟩
  · rw [ev_bop (by omega)]
    exact ⟨fun _ => bop_01 (by omega) (fun _ => ⟨hx, hy⟩), h2⟩
theorem ty_pre {st : Nat → Nat} {b : Nat} {t0 t : List Bool} {e : Nat} (h : tyA st b t0 e = some t) : ∀ d i, i + d = e → ∃ ts, tyA st b t0 i = some ts
  | 0, i, hi => ⟨t, by rw [show i = e by omega]; exact h⟩
  | d + 1, i, hi => by
    obtain ⟨ts, h1⟩ := ty_pre h d (i + 1) (by omega)
    obtain ⟨ts1, h2, -⟩ := ob (show (tyA st b t0 i).bind (tyA1 (st (b + i))) = some ts from h1)
    exact ⟨ts1, h2⟩
theorem ty_tv {fa : Nat → Int32} {st : Nat → Nat} {b : Nat} (hb : (fa 7 = 0 ∨ fa 7 = 1) ∧ (fa 8 = 0 ∨ fa 8 = 1)) : ∀ {i : Nat} {ts : List Bool}, tyA st b [] i = some ts → Tv ts (evA fa st b i)
  | 0, _, h => by cases h; trivial
  | i + 1, ts, h => by
    obtain ⟨ts1, h2, h3⟩ := ob (show (tyA st b [] i).bind (tyA1 (st (b + i))) = some ts from h)
    exact ty_ev hb h3 (ty_tv hb h2)
theorem ty_len1 {s : Nat} {ts ts' : List Bool} (h : tyA1 s ts = some ts') (hl : ts.length ≤ 24) : ts'.length ≤ 24 := by
  unfold tyA1 at h
  by_cases h1 : s < 1009
  · rw [if_pos h1] at h
    by_cases h2 : ts.length < 24
    · rw [if_pos h2] at h; cases h; exact h2
    · rw [if_neg h2] at h; cases h
  · rw [if_neg h1] at h
    by_cases h2 : s = 1009
    · rw [if_pos h2] at h
      match ts, h, hl with
      | true :: r, h, hl => cases h; exact hl
    · rw [if_neg h2] at h
      by_cases h3 : s = 1010
      · rw [if_pos h3] at h
        match ts, h, hl with
        | false :: false :: r, h, hl => cases h; exact Nat.le_of_succ_le hl
      · rw [if_neg h3] at h
        by_cases h4 : s ≤ 1012
        · rw [if_pos h4] at h
          match ts, h, hl with
          | false :: false :: r, h, hl => cases h; exact Nat.le_of_succ_le hl
        · rw [if_neg h4] at h
          by_cases h5 : s ≤ 1014
          · rw [if_pos h5] at h
            match ts, h, hl with
            | true :: true :: r, h, hl => cases h; exact Nat.le_of_succ_le hl
          · rw [if_neg h5] at h; cases h
theorem ty_depth {st : Nat → Nat} {b : Nat} : ∀ {i : Nat} {ts : List Bool}, tyA st b [] i = some ts → ts.length ≤ 24
  | 0, _, h => by cases h; decide
  | i + 1, ts, h => by
    obtain ⟨ts1, h2, h3⟩ := ob (show (tyA st b [] i).bind (tyA1 (st (b + i))) = some ts from h)
    exact ty_len1 h3 (ty_depth h2)
def Stk (arr : Nat → Int32) : List Int32 → Prop
  | [] => True
  | v :: r => arr r.length = v ∧ Stk arr r
theorem Stk.upd {arr : Nat → Int32} {j : Nat} {v : Int32} : ∀ {r : List Int32}, Stk arr r → r.length ≤ j → Stk (upd arr j v) r
  | [], _, _ => trivial
  | x :: r, h, hj => ⟨by rw [pk_un (show r.length ≠ j from fun q => by rw [← q] at hj; exact absurd hj (Nat.not_succ_le_self _))]; exact h.1, Stk.upd h.2 (Nat.le_trans (Nat.le_succ _) hj)⟩
def holdsA (T : Tx) (fa : Nat → Int32) (i : Nat) : Bool := match evA fa (T 6) (T 4 i) (T 5 i - T 4 i) with
  | [] => true
  | v :: _ => decide (¬ v = 0)
def WT (T : Tx) : Prop := T 0 0 ≤ 1 ∧ (T 0 0 = 0 → T 1 0 = 0) ∧ T 1 0 ≤ 12 ∧ T 7 0 ≤ 400 ∧ ∀ i, i < T 1 0 → T 2 i ≤ 2 ∧ T 3 i ≤ 99 ∧ T 4 i ≤ T 5 i ∧ T 5 i ≤ T 7 0 ∧ (tyA (T 6) (T 4 i) [] (T 5 i - T 4 i) = some [] ∨ tyA (T 6) (T 4 i) [] (T 5 i - T 4 i) = some [true])
def LC (μ : Mem) (b : Nat) (T : Tx) : Prop := μ b 0 = nI (T 0 0) ∧ μ b 1 = nI (T 1 0) ∧ μ b 2 = nI (T 7 0) ∧ (∀ i, i < T 1 0 → μ (b + 1) i = nI (T 2 i) ∧ μ (b + 2) i = nI (T 3 i) ∧ μ (b + 3) i = nI (T 4 i) ∧ μ (b + 4) i = nI (T 5 i)) ∧ ∀ i, i < T 7 0 → μ (b + 5) i = nI (T 6 i)
theorem LC.fr {μ μ' : Mem} {b : Nat} {T : Tx} (h : LC μ b T) (hf : ∀ j, j ≤ 5 → μ' (b + j) = μ (b + j)) : LC μ' b T := by
  obtain ⟨h1, h2, h3, h4, h5⟩ := h
  have h0 : μ' b = μ b := hf 0 (by decide)
  refine ⟨by rw [h0]; exact h1, by rw [h0]; exact h2, by rw [h0]; exact h3, fun i hi => ?_, fun i hi => ?_⟩
  · rw [hf 1 (by decide), hf 2 (by decide), hf 3 (by decide), hf 4 (by decide)]; exact h4 i hi
  · rw [hf 5 (by decide)]; exact h5 i hi
theorem joined {μ : Mem} {s : Nat} {x y : Int32} (h : 1010 ≤ s) (h2 : s ≤ 1014) : f_X4_joined μ (nI s) x y = some (bopA s x y) := by
  unfold f_X4_joined
  rcases (show s = 1010 ∨ s = 1011 ∨ s = 1012 ∨ s = 1013 ∨ s = 1014 by omega) with rfl | rfl | rfl | rfl | rfl
  · exact it (by decide) rfl
  · exact ie (by decide) (it (by decide) rfl)
  · exact ie (by decide) (ie (by decide) (it (by decide) rfl))
  · exact ie (by decide) (ie (by decide) (ie (by decide) (it (by decide) rfl)))
  · exact ie (by decide) (ie (by decide) (ie (by decide) (ie (by decide) rfl)))
theorem nI_p1 (k : Nat) : nI (k + 1) - 1 = nI k := by rw [show (1 : Int32) = nI 1 from rfl, pk_sub (by omega), Nat.add_sub_cancel]
theorem X4_holds {μ : Mem} {T : Tx} {fa : Nat → Int32} {i : Nat} (hT : LC μ 48 T) (hW : WT T) (hi : i < T 1 0) (hf : ∀ g, g < 9 → μ 54 g = fa g) (hb : (fa 7 = 0 ∨ fa 7 = 1) ∧ (fa 8 = 0 ∨ fa 8 = 1)) : Ok (f_X4_holds μ 48 (nI i)) (fun q => q.1 = holdsA T fa i ∧ Fr (fun k => k = 55) μ q.2) := by
  obtain ⟨h1, h2, h3, h4, h5⟩ := hT
  obtain ⟨w1, w2, w3, w4, w5⟩ := hW
  obtain ⟨g1, g2, g3, g4⟩ := h4 i hi
  obtain ⟨v1, v2, v3, v4, v5⟩ := w5 i hi
  obtain ⟨tE, htE, htl⟩ : ∃ tE, tyA (T 6) (T 4 i) [] (T 5 i - T 4 i) = some tE ∧ (tE = [] ∨ tE = [true]) := by
    rcases v5 with q | q
    · exact ⟨_, q, Or.inl rfl⟩
    · exact ⟨_, q, Or.inr rfl⟩
  unfold f_X4_holds
  refine Ok.s (a := nI (T 4 i)) (by rw [rd_nI (by omega) (by decide), g3]) ?_
  unfold f_X4_holds_l9
  refine Ok.loop (fun j z => z.1 = nI (evA fa (T 6) (T 4 i) j).length ∧ z.2.1 = nI (T 4 i + j) ∧ Fr (fun k => k = 55) μ z.2.2 ∧ Stk (z.2.2 55) (evA fa (T 6) (T 4 i) j)) (fun t => t.1 = nI (evA fa (T 6) (T 4 i) (T 5 i - T 4 i)).length ∧ Fr (fun k => k = 55) μ t.2 ∧ Stk (t.2 55) (evA fa (T 6) (T 4 i) (T 5 i - T 4 i))) (T 5 i - T 4 i) (by omega) ⟨rfl, rfl, Fr.refl, trivial⟩ (fun j z hj hI => ?_) (fun t ht => ?_)
  · obtain ⟨d, c, ν⟩ := z
    obtain ⟨e1, e2, hF, hS⟩ := hI
    dsimp only at e1 e2 hF hS
    subst e1 e2
    show Ok (f_X4_holds_b9 ν 48 (nI i) (nI _) (nI _)) _
    unfold f_X4_holds_b9
    have f52 : ν (48 + 4) = μ (48 + 4) := hF _ (by decide)
    have f53 : ν (48 + 5) = μ (48 + 5) := hF _ (by decide)
    have f54 : ν (48 + 6) = μ 54 := hF _ (by decide)
    refine Ok.s (a := nI (T 5 i)) (by rw [rd_nI (by omega) (by decide), f52, g4]) ?_
    by_cases hc : j = T 5 i - T 4 i
    · subst hc
      refine Ok.t (nI_le (by omega) (by omega)) ?_
      exact Ok.d ⟨rfl, hF, hS⟩
    · refine Ok.e (nI_ge (by omega) (by omega)) ?_
      refine Ok.s (a := nI (T 6 (T 4 i + j))) (by rw [rd_nI (by omega) (by decide), f53, h5 _ (by omega)]) ?_
      obtain ⟨ts1, q1⟩ := ty_pre htE (T 5 i - T 4 i - (j + 1)) (j + 1) (by omega)
      obtain ⟨ts, q2, q3⟩ := ob (show (tyA (T 6) (T 4 i) [] j).bind (tyA1 (T 6 (T 4 i + j))) = some ts1 from q1)
      have hv := ty_tv hb q2
      have hnext : evA fa (T 6) (T 4 i) (j + 1) = evA1 fa (T 6 (T 4 i + j)) (evA fa (T 6) (T 4 i) j) := rfl
      generalize T 6 (T 4 i + j) = s at q3 hnext ⊢
      generalize evA fa (T 6) (T 4 i) j = vs at hv hnext hS ⊢
      rcases ty_inv q3 hv with ⟨k1, k2, -⟩ | ⟨rfl, x, r, tr, rfl, hx, -, -⟩ | k
      · refine Ok.e (nI_ge (b := 1009) k1 (by decide)) ?_
        refine Ok.e (nI_ge (b := 24) k2 (by decide)) ?_
        by_cases k3 : s < 1000
        · refine Ok.e (nI_ge (b := 1000) k3 (by decide)) ?_
          unfold f_X4_holds_j73_9
          refine Ok.s (wr_nI (by omega) (by decide)) ?_
          unfold f_X4_holds_j148_9
          rw [ev_num k3] at hnext
          refine Ok.c (by omega) ?_
          rw [hnext]
          exact ⟨nI_1 _, nI_1 _, hF.put rfl, by show Stk (mset ν 55 _ _ 55) _; rw [mset_eq]; exact ⟨pk_us, hS.upd (Nat.le_refl _)⟩⟩
        · obtain ⟨g, rfl⟩ : ∃ g, s = 1000 + g := ⟨s - 1000, by omega⟩
          refine Ok.t (nI_le (a := 1000) (by omega) (by omega)) ?_
          refine Ok.s (a := fa g) (by rw [show (1000 : Int32) = nI 1000 from rfl, pk_sub (by omega), Nat.add_sub_cancel_left, rd_nI (by omega) (by decide), f54, hf g (by omega)]) ?_
          unfold f_X4_holds_j73_9
          refine Ok.s (wr_nI (by omega) (by decide)) ?_
          unfold f_X4_holds_j148_9
          rw [ev_fact (by omega)] at hnext
          refine Ok.c (by omega) ?_
          rw [hnext]
          exact ⟨nI_1 _, nI_1 _, hF.put rfl, by show Stk (mset ν 55 _ _ 55) _; rw [mset_eq]; exact ⟨pk_us, hS.upd (Nat.le_refl _)⟩⟩
      · have hl := hv.len
        obtain ⟨hS1, hS2⟩ := hS
        rw [ev_not] at hnext
        have hlt : r.length < 24 := by
          rcases Nat.lt_or_ge r.length 24 with q | q
          · exact q
          · exact absurd (ty_depth q2) (by rw [hl]; show ¬ r.length + 1 ≤ 24; omega)
        refine Ok.t (nI_le (a := 1009) (by omega) (by decide)) ?_
        refine Ok.t rfl ?_
        refine Ok.e (nI_nle (by show 0 < r.length + 1; omega) (by show r.length + 1 < _; omega)) ?_
        rw [show nI (x :: r).length - 1 = nI r.length from nI_p1 _]
        refine Ok.s (a := x) (by rw [rd_nI (by omega) (by decide)]; exact congrArg some hS1) ?_
        refine Ok.s (wr_nI (by omega) (by decide)) ?_
        unfold f_X4_holds_j148_9
        refine Ok.c (by omega) ?_
        rw [hnext]
        exact ⟨rfl, nI_1 _, hF.put rfl, by show Stk (mset ν 55 _ _ 55) _; rw [mset_eq]; exact ⟨pk_us, hS2.upd (Nat.le_refl _)⟩⟩
      · have hl := hv.len
        obtain ⟨k1, k2, y, x, r, rfl⟩ : 1010 ≤ s ∧ s ≤ 1014 ∧ ∃ y x r, vs = y :: x :: r := by
          rcases k with ⟨rfl, y, x, r, tr, rfl, -⟩ | ⟨k, y, x, r, tr, rfl, -⟩ | ⟨k, y, x, r, tr, rfl, -⟩
          · exact ⟨by omega, by omega, y, x, r, rfl⟩
          · exact ⟨by omega, by omega, y, x, r, rfl⟩
          · exact ⟨by omega, by omega, y, x, r, rfl⟩
        obtain ⟨hS1, hS2, hS3⟩ := hS
        rw [ev_bop k1] at hnext
        have hlt : r.length + 2 ≤ 24 := by
          have := ty_depth q2
          rw [hl] at this
          exact this
        refine Ok.t (nI_le (a := 1009) (by omega) (by omega)) ?_
        refine Ok.e (fun q => absurd ((nI_eq (b := 1009) (by omega) (by decide)).mp q) (by omega)) ?_
        refine Ok.e (nI_ge (a := 1) (by show 1 < r.length + 2; omega) (by show r.length + 2 < _; omega)) ?_
        rw [show nI (y :: x :: r).length + (-1) = nI (r.length + 1) from pk_m1 _, nI_p1]
        refine Ok.s (a := x) (by rw [rd_nI (by omega) (by decide)]; exact congrArg some hS2) ?_
        refine Ok.s (a := y) (by rw [rd_nI (by omega) (by decide)]; exact congrArg some hS1) ?_
        refine Ok.s (joined k1 k2) ?_
        refine Ok.s (wr_nI (by omega) (by decide)) ?_
        unfold f_X4_holds_j148_9
        refine Ok.c (by omega) ?_
        rw [hnext]
        exact ⟨rfl, nI_1 _, hF.put rfl, by show Stk (mset ν 55 _ _ 55) _; rw [mset_eq]; exact ⟨pk_us, hS3.upd (Nat.le_refl _)⟩⟩
  · obtain ⟨d, ν⟩ := t
    obtain ⟨e1, hF, hS⟩ := ht
    dsimp only at e1 hF hS
    subst e1
    have hv := (ty_tv hb htE).len
    show Ok (f_X4_holds_j154 ν 48 (nI _)) _
    unfold f_X4_holds_j154 f_X4_holds_j167 f_X4_holds_j172
    unfold holdsA
    generalize evA fa (T 6) (T 4 i) (T 5 i - T 4 i) = vs at hv hS ⊢
    rcases htl with rfl | rfl
    · cases vs with
      | nil => exact Ok.t rfl (Ok.r ⟨rfl, hF⟩)
      | cons v r => cases hv
    · cases vs with
      | nil => cases hv
      | cons v r =>
        cases r with
        | cons _ _ => cases hv
        | nil =>
          refine Ok.e (show ¬ nI 1 = 0 by decide) ?_
          refine Ok.s (a := v) (by rw [show (0 : Int32) = nI 0 from rfl, rd_nI (by decide) (by decide)]; exact congrArg some hS.1) ?_
          refine Ok.r ⟨?_, hF⟩
          show (if v = 0 then (false : Bool) else true) = decide (¬ v = 0)
          by_cases hv0 : v = 0
          · rw [if_pos hv0]; simp [hv0]
          · rw [if_neg hv0]; simp [hv0]
