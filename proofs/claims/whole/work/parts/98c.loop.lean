/-! THE LAW'S ARMS -/
section Ar
variable {μ : Mem} {N l : Nat} {xs : Nat → Int32}
theorem sc_0 (hl : l + 6 ≤ N) (hN : N < 2 ^ 30) : sc9 N xs (nI l) = some (xs l) := by
  unfold sc9
  rw [if_neg (nI_in (by omega) (by omega)), nI_clamp (by omega)]
theorem sc_k {k : Int32} (i : Nat) (e : k = nI i) (hi : i ≤ 5) (hl : l + 6 ≤ N) (hN : N < 2 ^ 30) : sc9 N xs (nI l + k) = some (xs (l + i)) := by
  subst e
  unfold sc9
  rw [nI_add, if_neg (nI_in (by omega) (by omega)), nI_clamp (by omega)]
theorem k_j248 (hI : Inv μ) (hl : l + 6 ≤ N) (hN : N < 2 ^ 30) : Ok (f_L_law__j248 μ N xs (nI l)) Inv := by
  obtain ⟨n, f, L, T, r, R, hS⟩ := hI.1
  unfold f_L_law__j248
  exact Ok.s (sc_k 1 rfl (by decide) hl hN) (Ok.s (sc_k 2 rfl (by decide) hl hN) (Ok.s (sc_k 3 rfl (by decide) hl hN) (Ok.s (sc_k 4 rfl (by decide) hl hN) (Ok.s (sc_k 5 rfl (by decide) hl hN) ((c_feed hI _ _ _ _ _).b fun q hq => Ok.s (sc_k 1 rfl (by decide) hl hN) (Ok.s (sc_k 2 rfl (by decide) hl hN) (Ok.s (sc_k 3 rfl (by decide) hl hN) (Ok.s (sc_k 4 rfl (by decide) hl hN) (Ok.s (sc_k 5 rfl (by decide) hl hN) (hq.b fun x hx => Ok.t hx.1 (Ok.r hx.2)))))))))))
theorem k_j321 (hI : Inv μ) (hl : l + 6 ≤ N) (hN : N < 2 ^ 30) : Ok (f_L_law__j321 μ N xs (nI l)) Inv := by
  obtain ⟨n, f, L, T, r, R, hS⟩ := hI.1
  unfold f_L_law__j321
  exact Ok.s (sc_k 1 rfl (by decide) hl hN) ((c_end hI _).b fun q hq => Ok.s (sc_k 1 rfl (by decide) hl hN) (hq.b fun x hx => Ok.t (congrArg b2i hx.1) (Ok.r hx.2)))
theorem k_j346 (hI : Inv μ) (hl : l + 6 ≤ N) (hN : N < 2 ^ 30) : Ok (f_L_law__j346 μ N xs (nI l)) Inv := by
  obtain ⟨n, f, L, T, r, R, hS⟩ := hI.1
  unfold f_L_law__j346
  exact (c_land hI).b fun q hq => hq.b fun x hx => armF hx rfl rfl
theorem k_j390 (hI : Inv μ) (hl : l + 6 ≤ N) (hN : N < 2 ^ 30) : Ok (f_L_law__j390 μ N xs (nI l)) Inv := by
  obtain ⟨n, f, L, T, r, R, hS⟩ := hI.1
  unfold f_L_law__j390
  exact (c_law hI).b fun q hq => hq.b fun x hx => armF hx rfl rfl
theorem k_j434 (hI : Inv μ) (hl : l + 6 ≤ N) (hN : N < 2 ^ 30) : Ok (f_L_law__j434 μ N xs (nI l)) Inv := by
  obtain ⟨n, f, L, T, r, R, hS⟩ := hI.1
  unfold f_L_law__j434
  exact c_fault hI
theorem k_j447 (hI : Inv μ) (hl : l + 6 ≤ N) (hN : N < 2 ^ 30) : Ok (f_L_law__j447 μ N xs (nI l)) Inv := by
  obtain ⟨n, f, L, T, r, R, hS⟩ := hI.1
  unfold f_L_law__j447
  exact Ok.s (sc_k 1 rfl (by decide) hl hN) (Ok.s (sc_k 2 rfl (by decide) hl hN) ((armQ hI (q_person hS.1 _ _)).b fun q hq => Ok.s (sc_k 1 rfl (by decide) hl hN) (Ok.s (sc_k 2 rfl (by decide) hl hN) (hq.b fun x hx => armF hx rfl rfl))))
theorem k_j515 (hI : Inv μ) (hl : l + 6 ≤ N) (hN : N < 2 ^ 30) : Ok (f_L_law__j515 μ N xs (nI l)) Inv := by
  obtain ⟨n, f, L, T, r, R, hS⟩ := hI.1
  unfold f_L_law__j515
  exact Ok.s (sc_k 1 rfl (by decide) hl hN) (Ok.s (sc_k 2 rfl (by decide) hl hN) ((armQ hI (q_lace hS.1 _ _)).b fun q hq => Ok.s (sc_k 1 rfl (by decide) hl hN) (Ok.s (sc_k 2 rfl (by decide) hl hN) (hq.b fun x hx => armF hx rfl rfl))))
theorem k_j583 (hI : Inv μ) (hl : l + 6 ≤ N) (hN : N < 2 ^ 30) : Ok (f_L_law__j583 μ N xs (nI l)) Inv := by
  obtain ⟨n, f, L, T, r, R, hS⟩ := hI.1
  unfold f_L_law__j583
  exact Ok.s (sc_k 1 rfl (by decide) hl hN) ((armQ hI (q_mud hS.1 _)).b fun q hq => Ok.s (sc_k 1 rfl (by decide) hl hN) (hq.b fun x hx => armF hx rfl rfl))
theorem k_j639 (hI : Inv μ) (hl : l + 6 ≤ N) (hN : N < 2 ^ 30) : Ok (f_L_law__j639 μ N xs (nI l)) Inv := by
  obtain ⟨n, f, L, T, r, R, hS⟩ := hI.1
  unfold f_L_law__j639
  exact Ok.s (sc_k 1 rfl (by decide) hl hN) (Ok.s (sc_k 2 rfl (by decide) hl hN) ((armQ hI (q_walks hS.1 _ _)).b fun q hq => Ok.s (sc_k 1 rfl (by decide) hl hN) (Ok.s (sc_k 2 rfl (by decide) hl hN) (hq.b fun x hx => armF hx rfl rfl))))
theorem k_j707 (hI : Inv μ) (hl : l + 6 ≤ N) (hN : N < 2 ^ 30) : Ok (f_L_law__j707 μ N xs (nI l)) Inv := by
  obtain ⟨n, f, L, T, r, R, hS⟩ := hI.1
  unfold f_L_law__j707
  exact Ok.s (sc_k 1 rfl (by decide) hl hN) ((armQ hI (q_grows hS.1 _)).b fun q hq => Ok.s (sc_k 1 rfl (by decide) hl hN) (hq.b fun x hx => armF hx rfl rfl))
theorem k_j763 (hI : Inv μ) (hl : l + 6 ≤ N) (hN : N < 2 ^ 30) : Ok (f_L_law__j763 μ N xs (nI l)) Inv := by
  obtain ⟨n, f, L, T, r, R, hS⟩ := hI.1
  unfold f_L_law__j763
  exact Ok.s (sc_k 1 rfl (by decide) hl hN) (Ok.s (sc_k 2 rfl (by decide) hl hN) (Ok.s (sc_k 3 rfl (by decide) hl hN) (Ok.s (sc_k 4 rfl (by decide) hl hN) (Ok.s (sc_k 5 rfl (by decide) hl hN) ((armM hI hS (a_lend hS _ _ _ _ _)).b fun q hq => Ok.s (sc_k 1 rfl (by decide) hl hN) (Ok.s (sc_k 2 rfl (by decide) hl hN) (Ok.s (sc_k 3 rfl (by decide) hl hN) (Ok.s (sc_k 4 rfl (by decide) hl hN) (Ok.s (sc_k 5 rfl (by decide) hl hN) (hq.b fun x hx => armF hx rfl rfl))))))))))
theorem k_j867 (hI : Inv μ) (hl : l + 6 ≤ N) (hN : N < 2 ^ 30) : Ok (f_L_law__j867 μ N xs (nI l)) Inv := by
  obtain ⟨n, f, L, T, r, R, hS⟩ := hI.1
  unfold f_L_law__j867
  exact Ok.s (sc_k 1 rfl (by decide) hl hN) ((armM hI hS (a_pay hS _)).b fun q hq => Ok.s (sc_k 1 rfl (by decide) hl hN) (hq.b fun x hx => armF hx rfl rfl))
theorem k_j923 (hI : Inv μ) (hl : l + 6 ≤ N) (hN : N < 2 ^ 30) : Ok (f_L_law__j923 μ N xs (nI l)) Inv := by
  obtain ⟨n, f, L, T, r, R, hS⟩ := hI.1
  unfold f_L_law__j923
  exact Ok.s (sc_k 1 rfl (by decide) hl hN) (Ok.s (sc_k 2 rfl (by decide) hl hN) ((armM hI hS (a_surety hS _ _)).b fun q hq => Ok.s (sc_k 1 rfl (by decide) hl hN) (Ok.s (sc_k 2 rfl (by decide) hl hN) (hq.b fun x hx => armF hx rfl rfl))))
theorem k_j991 (hI : Inv μ) (hl : l + 6 ≤ N) (hN : N < 2 ^ 30) : Ok (f_L_law__j991 μ N xs (nI l)) Inv := by
  obtain ⟨n, f, L, T, r, R, hS⟩ := hI.1
  unfold f_L_law__j991
  exact Ok.s (sc_k 1 rfl (by decide) hl hN) (Ok.s (sc_k 2 rfl (by decide) hl hN) ((armM hI hS (a_give hS _ _)).b fun q hq => Ok.s (sc_k 1 rfl (by decide) hl hN) (Ok.s (sc_k 2 rfl (by decide) hl hN) (hq.b fun x hx => armF hx rfl rfl))))
theorem k_j1059 (hI : Inv μ) (hl : l + 6 ≤ N) (hN : N < 2 ^ 30) : Ok (f_L_law__j1059 μ N xs (nI l)) Inv := by
  obtain ⟨n, f, L, T, r, R, hS⟩ := hI.1
  unfold f_L_law__j1059
  exact Ok.s (sc_k 1 rfl (by decide) hl hN) (Ok.s (sc_k 2 rfl (by decide) hl hN) ((armM hI hS (a_goal hS _ _)).b fun q hq => Ok.s (sc_k 1 rfl (by decide) hl hN) (Ok.s (sc_k 2 rfl (by decide) hl hN) (hq.b fun x hx => armF hx rfl rfl))))
theorem k_j1127 (hI : Inv μ) (hl : l + 6 ≤ N) (hN : N < 2 ^ 30) : Ok (f_L_law__j1127 μ N xs (nI l)) Inv := by
  obtain ⟨n, f, L, T, r, R, hS⟩ := hI.1
  unfold f_L_law__j1127
  exact Ok.s (sc_k 1 rfl (by decide) hl hN) ((armM hI hS (a_rest hS _)).b fun q hq => Ok.s (sc_k 1 rfl (by decide) hl hN) (hq.b fun x hx => armF hx rfl rfl))
theorem k_j1183 (hI : Inv μ) (hl : l + 6 ≤ N) (hN : N < 2 ^ 30) : Ok (f_L_law__j1183 μ N xs (nI l)) Inv := by
  obtain ⟨n, f, L, T, r, R, hS⟩ := hI.1
  unfold f_L_law__j1183
  exact Ok.s (sc_k 1 rfl (by decide) hl hN) ((armM hI hS (a_days hS _)).b fun q hq => Ok.s (sc_k 1 rfl (by decide) hl hN) (hq.b fun x hx => armF hx rfl rfl))
theorem k_j1239 (hI : Inv μ) (hl : l + 6 ≤ N) (hN : N < 2 ^ 30) : Ok (f_L_law__j1239 μ N xs (nI l)) Inv := by
  obtain ⟨n, f, L, T, r, R, hS⟩ := hI.1
  unfold f_L_law__j1239
  exact armN hI (q_solvent hS.1)
theorem k_j1252 (hI : Inv μ) (hl : l + 6 ≤ N) (hN : N < 2 ^ 30) : Ok (f_L_law__j1252 μ N xs (nI l)) Inv := by
  obtain ⟨n, f, L, T, r, R, hS⟩ := hI.1
  unfold f_L_law__j1252
  exact Ok.s (sc_k 1 rfl (by decide) hl hN) (Ok.s (sc_k 2 rfl (by decide) hl hN) ((armQ hI (q_comes hS.1 _ _)).b fun q hq => Ok.s (sc_k 1 rfl (by decide) hl hN) (Ok.s (sc_k 2 rfl (by decide) hl hN) (hq.b fun x hx => armF hx rfl rfl))))
theorem k_j1320 (hI : Inv μ) (hl : l + 6 ≤ N) (hN : N < 2 ^ 30) : Ok (f_L_law__j1320 μ N xs (nI l)) Inv := by
  obtain ⟨n, f, L, T, r, R, hS⟩ := hI.1
  unfold f_L_law__j1320
  exact Ok.s (sc_k 1 rfl (by decide) hl hN) ((armQ hI (q_soonest hS.1 _)).b fun q hq => Ok.s (sc_k 1 rfl (by decide) hl hN) (hq.b fun x hx => armF hx rfl rfl))
theorem k_j1376 (hI : Inv μ) (hl : l + 6 ≤ N) (hN : N < 2 ^ 30) : Ok (f_L_law__j1376 μ N xs (nI l)) Inv := by
  obtain ⟨n, f, L, T, r, R, hS⟩ := hI.1
  unfold f_L_law__j1376
  obtain ⟨c, B, t1, t2, t3, t4⟩ := hI.2.2.1
  exact Ok.s (sc_k 1 rfl (by decide) hl hN) ((armU hI (q_carry hS.1 t1 t2 t3 t4 _)).b fun q hq => Ok.s (sc_k 1 rfl (by decide) hl hN) (hq.b fun x hx => armF hx rfl rfl))
theorem k_j1432 (hI : Inv μ) (hl : l + 6 ≤ N) (hN : N < 2 ^ 30) : Ok (f_L_law__j1432 μ N xs (nI l)) Inv := by
  obtain ⟨n, f, L, T, r, R, hS⟩ := hI.1
  unfold f_L_law__j1432
  exact Ok.s (sc_k 1 rfl (by decide) hl hN) (Ok.s (sc_k 2 rfl (by decide) hl hN) (Ok.s (sc_k 3 rfl (by decide) hl hN) ((armQ hI (q_ahead hS.1 _ _ _)).b fun q hq => Ok.s (sc_k 1 rfl (by decide) hl hN) (Ok.s (sc_k 2 rfl (by decide) hl hN) (Ok.s (sc_k 3 rfl (by decide) hl hN) (hq.b fun x hx => armF hx rfl rfl))))))
theorem k_j1528 (hI : Inv μ) (hl : l + 6 ≤ N) (hN : N < 2 ^ 30) : Ok (f_L_law__j1528 μ N xs (nI l)) Inv := by
  obtain ⟨n, f, L, T, r, R, hS⟩ := hI.1
  unfold f_L_law__j1528
  exact (armD hI (q_rings hS.1)).b fun q hq => hq.b fun x hx => Ok.t hx.1 (Ok.r hx.2)
theorem k_j1541 (hI : Inv μ) (hl : l + 6 ≤ N) (hN : N < 2 ^ 30) : Ok (f_L_law__j1541 μ N xs (nI l)) Inv := by
  obtain ⟨n, f, L, T, r, R, hS⟩ := hI.1
  unfold f_L_law__j1541
  exact Ok.s (sc_k 1 rfl (by decide) hl hN) ((armD hI (q_untie hS.1 _)).b fun q hq => Ok.s (sc_k 1 rfl (by decide) hl hN) (hq.b fun x hx => Ok.t hx.1 (Ok.r hx.2)))
theorem k_j1582 (hI : Inv μ) (hl : l + 6 ≤ N) (hN : N < 2 ^ 30) : Ok (f_L_law__j1582 μ N xs (nI l)) Inv := by
  obtain ⟨n, f, L, T, r, R, hS⟩ := hI.1
  unfold f_L_law__j1582
  refine Ok.s (sc_k 1 rfl (by decide) hl hN) (Ok.s (sc_k 2 rfl (by decide) hl hN) ((c_owes hI _ _).b fun q hq => ?_))
  refine Ok.s (sc_k 1 rfl (by decide) hl hN) (Ok.s (sc_k 2 rfl (by decide) hl hN) (hq.b fun x hx => ?_))
  obtain ⟨h1, h2, h3, h4⟩ := hx
  unfold f_X12_thrown
  refine Ok.s rfl (Ok.t h1 ?_)
  have fin : ∀ k0 k1 : Int32, k0 = k1 → Ok (f_L_law__j1648 x.2 N xs (nI l) k0 k1) Inv := fun k0 k1 e => by
    subst e
    unfold f_L_law__j1648 f_L_law__j1654
    refine Ok.t ?_ (Ok.r h4)
    rw [if_neg Int64.lt_irrefl, if_pos rfl]
  by_cases c : q.1 = 0
  · refine Ok.t c (Ok.s (a := b2i x.1) (by rw [rd_k (k := 0) 0 rfl (by decide) (by decide), h3, h2 c]) ?_)
    cases e : x.1 with
    | true => exact Ok.t rfl (fin _ _ rfl)
    | false => exact Ok.e fnt (fin _ _ rfl)
  · exact Ok.e c (Ok.r h4)
theorem k_j1657 (hI : Inv μ) (hl : l + 6 ≤ N) (hN : N < 2 ^ 30) : Ok (f_L_law__j1657 μ N xs (nI l)) Inv := by
  obtain ⟨n, f, L, T, r, R, hS⟩ := hI.1
  unfold f_L_law__j1657
  exact Ok.s (sc_k 1 rfl (by decide) hl hN) ((armQ hI (q_leads hS.1 _)).b fun q hq => Ok.s (sc_k 1 rfl (by decide) hl hN) (hq.b fun x hx => armF hx rfl rfl))
theorem k_j1713 (hI : Inv μ) (hl : l + 6 ≤ N) (hN : N < 2 ^ 30) : Ok (f_L_law__j1713 μ N xs (nI l)) Inv := by
  obtain ⟨n, f, L, T, r, R, hS⟩ := hI.1
  unfold f_L_law__j1713
  exact Ok.s (sc_k 1 rfl (by decide) hl hN) (Ok.s (sc_k 2 rfl (by decide) hl hN) ((armQ hI (q_call hS.1 _ _)).b fun q hq => Ok.s (sc_k 1 rfl (by decide) hl hN) (Ok.s (sc_k 2 rfl (by decide) hl hN) (hq.b fun x hx => armF hx rfl rfl))))
theorem k_j1797 (hI : Inv μ) (hl : l + 6 ≤ N) (hN : N < 2 ^ 30) : Ok (f_L_law__j1797 μ N xs (nI l)) Inv := by
  obtain ⟨n, f, L, T, r, R, hS⟩ := hI.1
  unfold f_L_law__j1797
  exact Ok.s (sc_k 1 rfl (by decide) hl hN) ((armQ hI (q_breaks hS.1 _)).b fun q hq => Ok.s (sc_k 1 rfl (by decide) hl hN) (hq.b fun x hx => armF hx rfl rfl))
theorem k_j1853 (hI : Inv μ) (hl : l + 6 ≤ N) (hN : N < 2 ^ 30) : Ok (f_L_law__j1853 μ N xs (nI l)) Inv := by
  obtain ⟨n, f, L, T, r, R, hS⟩ := hI.1
  unfold f_L_law__j1853
  exact Ok.s (sc_k 1 rfl (by decide) hl hN) ((armQ hI (q_mercy hS.1 _)).b fun q hq => Ok.s (sc_k 1 rfl (by decide) hl hN) (hq.b fun x hx => armF hx rfl rfl))
theorem k_j1909 (hI : Inv μ) (hl : l + 6 ≤ N) (hN : N < 2 ^ 30) : Ok (f_L_law__j1909 μ N xs (nI l)) Inv := by
  obtain ⟨n, f, L, T, r, R, hS⟩ := hI.1
  unfold f_L_law__j1909
  exact Ok.s (sc_k 1 rfl (by decide) hl hN) ((armQ hI (q_hangs hS.1 _)).b fun q hq => Ok.s (sc_k 1 rfl (by decide) hl hN) (hq.b fun x hx => armF hx rfl rfl))
theorem k_j1965 (hI : Inv μ) (hl : l + 6 ≤ N) (hN : N < 2 ^ 30) : Ok (f_L_law__j1965 μ N xs (nI l)) Inv := by
  obtain ⟨n, f, L, T, r, R, hS⟩ := hI.1
  unfold f_L_law__j1965
  exact armN hI (q_trust hS.1)
theorem k_j1978 (hI : Inv μ) (hl : l + 6 ≤ N) (hN : N < 2 ^ 30) : Ok (f_L_law__j1978 μ N xs (nI l)) Inv := by
  obtain ⟨n, f, L, T, r, R, hS⟩ := hI.1
  unfold f_L_law__j1978
  exact armN hI (q_needed hS.1)
theorem k_j1991 (hI : Inv μ) (hl : l + 6 ≤ N) (hN : N < 2 ^ 30) : Ok (f_L_law__j1991 μ N xs (nI l)) Inv := by
  obtain ⟨n, f, L, T, r, R, hS⟩ := hI.1
  unfold f_L_law__j1991
  obtain ⟨c, B, t1, t2, t3, t4⟩ := hI.2.2.1
  exact Ok.s (sc_k 1 rfl (by decide) hl hN) ((armU hI (q_wear hS.1 t1 t2 t3 t4 _)).b fun q hq => Ok.s (sc_k 1 rfl (by decide) hl hN) (hq.b fun x hx => armF hx rfl rfl))
theorem k_j2063 (hI : Inv μ) (hl : l + 6 ≤ N) (hN : N < 2 ^ 30) : Ok (f_L_law__j2063 μ N xs (nI l)) Inv := by
  obtain ⟨n, f, L, T, r, R, hS⟩ := hI.1
  unfold f_L_law__j2063
  obtain ⟨c, B, t1, t2, t3, t4⟩ := hI.2.2.1
  exact (armU hI (q_look hS.1 t1 t2 t3 t4)).b fun q hq => hq.b fun x hx => armF hx rfl rfl
theorem k_j2107 (hI : Inv μ) (hl : l + 6 ≤ N) (hN : N < 2 ^ 30) : Ok (f_L_law__j2107 μ N xs (nI l)) Inv := by
  obtain ⟨n, f, L, T, r, R, hS⟩ := hI.1
  unfold f_L_law__j2107
  exact Ok.s (sc_k 1 rfl (by decide) hl hN) ((armQ hI (q_race hS.1 _)).b fun q hq => Ok.s (sc_k 1 rfl (by decide) hl hN) (hq.b fun x hx => armF hx rfl rfl))
theorem k_j2163 (hI : Inv μ) (hl : l + 6 ≤ N) (hN : N < 2 ^ 30) : Ok (f_L_law__j2163 μ N xs (nI l)) Inv := by
  obtain ⟨n, f, L, T, r, R, hS⟩ := hI.1
  unfold f_L_law__j2163
  exact (armD hI (q_pairs hS.1)).b fun q hq => hq.b fun x hx => Ok.t hx.1 (Ok.r hx.2)
theorem k_j2176 (hI : Inv μ) (hl : l + 6 ≤ N) (hN : N < 2 ^ 30) : Ok (f_L_law__j2176 μ N xs (nI l)) Inv := by
  obtain ⟨n, f, L, T, r, R, hS⟩ := hI.1
  unfold f_L_law__j2176
  exact Ok.s (sc_k 1 rfl (by decide) hl hN) ((armQ hI (q_lends hS.1 _)).b fun q hq => Ok.s (sc_k 1 rfl (by decide) hl hN) (hq.b fun x hx => armF hx rfl rfl))
theorem k_j2232 (hI : Inv μ) (hl : l + 6 ≤ N) (hN : N < 2 ^ 30) : Ok (f_L_law__j2232 μ N xs (nI l)) Inv := by
  obtain ⟨n, f, L, T, r, R, hS⟩ := hI.1
  unfold f_L_law__j2232
  exact Ok.s (sc_k 1 rfl (by decide) hl hN) ((armQ hI (q_loose hS.1 _)).b fun q hq => Ok.s (sc_k 1 rfl (by decide) hl hN) (hq.b fun x hx => armF hx rfl rfl))
theorem k_j2288 (hI : Inv μ) (hl : l + 6 ≤ N) (hN : N < 2 ^ 30) : Ok (f_L_law__j2288 μ N xs (nI l)) Inv := by
  obtain ⟨n, f, L, T, r, R, hS⟩ := hI.1
  unfold f_L_law__j2288
  exact armN hI (q_rail hS.1)
theorem k_j2301 (hI : Inv μ) (hl : l + 6 ≤ N) (hN : N < 2 ^ 30) : Ok (f_L_law__j2301 μ N xs (nI l)) Inv := by
  obtain ⟨n, f, L, T, r, R, hS⟩ := hI.1
  unfold f_L_law__j2301
  exact Ok.s (sc_k 1 rfl (by decide) hl hN) (Ok.s (sc_k 2 rfl (by decide) hl hN) ((armQ hI (q_trial hS.1 _ _)).b fun q hq => Ok.s (sc_k 1 rfl (by decide) hl hN) (Ok.s (sc_k 2 rfl (by decide) hl hN) (hq.b fun x hx => armF hx rfl rfl))))
theorem k_j2385 (hI : Inv μ) (hl : l + 6 ≤ N) (hN : N < 2 ^ 30) : Ok (f_L_law__j2385 μ N xs (nI l)) Inv := by
  obtain ⟨n, f, L, T, r, R, hS⟩ := hI.1
  unfold f_L_law__j2385
  exact Ok.s (sc_k 1 rfl (by decide) hl hN) (Ok.s (sc_k 2 rfl (by decide) hl hN) ((armQ hI (q_span hS.1 _ _)).b fun q hq => Ok.s (sc_k 1 rfl (by decide) hl hN) (Ok.s (sc_k 2 rfl (by decide) hl hN) (hq.b fun x hx => armF hx rfl rfl))))
theorem k_j2469 (hI : Inv μ) (hl : l + 6 ≤ N) (hN : N < 2 ^ 30) : Ok (f_L_law__j2469 μ N xs (nI l)) Inv := by
  obtain ⟨n, f, L, T, r, R, hS⟩ := hI.1
  unfold f_L_law__j2469
  exact Ok.s (sc_k 1 rfl (by decide) hl hN) (Ok.s (sc_k 2 rfl (by decide) hl hN) ((armQ hI (q_led hS.1 _ _)).b fun q hq => Ok.s (sc_k 1 rfl (by decide) hl hN) (Ok.s (sc_k 2 rfl (by decide) hl hN) (hq.b fun x hx => armF hx rfl rfl))))
theorem k_j2553 (hI : Inv μ) (hl : l + 6 ≤ N) (hN : N < 2 ^ 30) : Ok (f_L_law__j2553 μ N xs (nI l)) Inv := by
  obtain ⟨n, f, L, T, r, R, hS⟩ := hI.1
  unfold f_L_law__j2553
  exact Ok.s (sc_k 1 rfl (by decide) hl hN) (Ok.s (sc_k 2 rfl (by decide) hl hN) ((armQ hI (q_log hS.1 _ _)).b fun q hq => Ok.s (sc_k 1 rfl (by decide) hl hN) (Ok.s (sc_k 2 rfl (by decide) hl hN) (hq.b fun x hx => armF hx rfl rfl))))
theorem k_j2621 (hI : Inv μ) (hl : l + 6 ≤ N) (hN : N < 2 ^ 30) : Ok (f_L_law__j2621 μ N xs (nI l)) Inv := by
  obtain ⟨n, f, L, T, r, R, hS⟩ := hI.1
  unfold f_L_law__j2621
  exact Ok.s (sc_k 1 rfl (by decide) hl hN) ((c_seed hI _).b fun q hq => Ok.s (sc_k 1 rfl (by decide) hl hN) (hq.b fun x hx => Ok.t hx.1 (Ok.r hx.2)))
theorem k_j2646 (hI : Inv μ) (hl : l + 6 ≤ N) (hN : N < 2 ^ 30) : Ok (f_L_law__j2646 μ N xs (nI l)) Inv := by
  obtain ⟨n, f, L, T, r, R, hS⟩ := hI.1
  unfold f_L_law__j2646
  exact (c_undo hI).b fun q hq => hq.b fun x hx => Ok.t (congrArg b2i hx.1) (Ok.r hx.2)
theorem k_j2659 (hI : Inv μ) (hl : l + 6 ≤ N) (hN : N < 2 ^ 30) : Ok (f_L_law__j2659 μ N xs (nI l)) Inv := by
  obtain ⟨n, f, L, T, r, R, hS⟩ := hI.1
  unfold f_L_law__j2659
  exact (c_image hI).b fun q hq => hq.b fun x hx => Ok.r hx
theorem k_j2670 (hI : Inv μ) (hl : l + 6 ≤ N) (hN : N < 2 ^ 30) : Ok (f_L_law__j2670 μ N xs (nI l)) Inv := by
  obtain ⟨n, f, L, T, r, R, hS⟩ := hI.1
  unfold f_L_law__j2670
  exact (c_back hI).b fun q hq => hq.b fun x hx => Ok.t (congrArg b2i hx.1) (Ok.r hx.2)
theorem k_j2683 (hI : Inv μ) (hl : l + 6 ≤ N) (hN : N < 2 ^ 30) : Ok (f_L_law__j2683 μ N xs (nI l)) Inv := by
  obtain ⟨n, f, L, T, r, R, hS⟩ := hI.1
  unfold f_L_law__j2683
  refine Ok.s (sc_k 1 rfl (by decide) hl hN) (?_)
  obtain ⟨v, e, h2⟩ := q_count hS.1 hI.cnt (xs (l + 1))
  refine Ok.s e (Ok.s (sc_k 1 rfl (by decide) hl hN) (h2.b fun q hq => ?_))
  exact Ok.t hq.1.symm (Ok.r (hI.km hq.2))
theorem k_arm (hI : Inv μ) (hl : l + 6 ≤ N) (hN : N < 2 ^ 30) : Ok (f_L_law__j33 μ N xs (nI l)) Inv := by
  unfold f_L_law__j33
  refine Ok.s (sc_0 hl hN) ?_
  generalize xs l &&& 63 = t
  by_cases c0 : t = 0
  · exact Ok.t c0 (k_j248 hI hl hN)
  refine Ok.e c0 ?_
  by_cases c1 : t = 1
  · exact Ok.t c1 (k_j321 hI hl hN)
  refine Ok.e c1 ?_
  by_cases c2 : t = 2
  · exact Ok.t c2 (k_j346 hI hl hN)
  refine Ok.e c2 ?_
  by_cases c3 : t = 3
  · exact Ok.t c3 (k_j390 hI hl hN)
  refine Ok.e c3 ?_
  by_cases c4 : t = 4
  · exact Ok.t c4 (k_j434 hI hl hN)
  refine Ok.e c4 ?_
  by_cases c5 : t = 5
  · exact Ok.t c5 (k_j447 hI hl hN)
  refine Ok.e c5 ?_
  by_cases c6 : t = 6
  · exact Ok.t c6 (k_j515 hI hl hN)
  refine Ok.e c6 ?_
  by_cases c7 : t = 7
  · exact Ok.t c7 (k_j583 hI hl hN)
  refine Ok.e c7 ?_
  by_cases c8 : t = 8
  · exact Ok.t c8 (k_j639 hI hl hN)
  refine Ok.e c8 ?_
  by_cases c9 : t = 9
  · exact Ok.t c9 (k_j707 hI hl hN)
  refine Ok.e c9 ?_
  by_cases c10 : t = 10
  · exact Ok.t c10 (k_j763 hI hl hN)
  refine Ok.e c10 ?_
  by_cases c11 : t = 11
  · exact Ok.t c11 (k_j867 hI hl hN)
  refine Ok.e c11 ?_
  by_cases c12 : t = 12
  · exact Ok.t c12 (k_j923 hI hl hN)
  refine Ok.e c12 ?_
  by_cases c13 : t = 13
  · exact Ok.t c13 (k_j991 hI hl hN)
  refine Ok.e c13 ?_
  by_cases c14 : t = 14
  · exact Ok.t c14 (k_j1059 hI hl hN)
  refine Ok.e c14 ?_
  by_cases c15 : t = 15
  · exact Ok.t c15 (k_j1127 hI hl hN)
  refine Ok.e c15 ?_
  by_cases c16 : t = 16
  · exact Ok.t c16 (k_j1183 hI hl hN)
  refine Ok.e c16 ?_
  by_cases c17 : t = 17
  · exact Ok.t c17 (k_j1239 hI hl hN)
  refine Ok.e c17 ?_
  by_cases c18 : t = 18
  · exact Ok.t c18 (k_j1252 hI hl hN)
  refine Ok.e c18 ?_
  by_cases c19 : t = 19
  · exact Ok.t c19 (k_j1320 hI hl hN)
  refine Ok.e c19 ?_
  by_cases c20 : t = 20
  · exact Ok.t c20 (k_j1376 hI hl hN)
  refine Ok.e c20 ?_
  by_cases c21 : t = 21
  · exact Ok.t c21 (k_j1432 hI hl hN)
  refine Ok.e c21 ?_
  by_cases c22 : t = 22
  · exact Ok.t c22 (k_j1528 hI hl hN)
  refine Ok.e c22 ?_
  by_cases c23 : t = 23
  · exact Ok.t c23 (k_j1541 hI hl hN)
  refine Ok.e c23 ?_
  by_cases c24 : t = 24
  · exact Ok.t c24 (k_j1582 hI hl hN)
  refine Ok.e c24 ?_
  by_cases c25 : t = 25
  · exact Ok.t c25 (k_j1657 hI hl hN)
  refine Ok.e c25 ?_
  by_cases c26 : t = 26
  · exact Ok.t c26 (k_j1713 hI hl hN)
  refine Ok.e c26 ?_
  by_cases c27 : t = 27
  · exact Ok.t c27 (k_j1797 hI hl hN)
  refine Ok.e c27 ?_
  by_cases c28 : t = 28
  · exact Ok.t c28 (k_j1853 hI hl hN)
  refine Ok.e c28 ?_
  by_cases c29 : t = 29
  · exact Ok.t c29 (k_j1909 hI hl hN)
  refine Ok.e c29 ?_
  by_cases c30 : t = 30
  · exact Ok.t c30 (k_j1965 hI hl hN)
  refine Ok.e c30 ?_
  by_cases c31 : t = 31
  · exact Ok.t c31 (k_j1978 hI hl hN)
  refine Ok.e c31 ?_
  by_cases c32 : t = 32
  · exact Ok.t c32 (k_j1991 hI hl hN)
  refine Ok.e c32 ?_
  by_cases c33 : t = 33
  · exact Ok.t c33 (k_j2063 hI hl hN)
  refine Ok.e c33 ?_
  by_cases c34 : t = 34
  · exact Ok.t c34 (k_j2107 hI hl hN)
  refine Ok.e c34 ?_
  by_cases c35 : t = 35
  · exact Ok.t c35 (k_j2163 hI hl hN)
  refine Ok.e c35 ?_
  by_cases c36 : t = 36
  · exact Ok.t c36 (k_j2176 hI hl hN)
  refine Ok.e c36 ?_
  by_cases c37 : t = 37
  · exact Ok.t c37 (k_j2232 hI hl hN)
  refine Ok.e c37 ?_
  by_cases c38 : t = 38
  · exact Ok.t c38 (k_j2288 hI hl hN)
  refine Ok.e c38 ?_
  by_cases c39 : t = 39
  · exact Ok.t c39 (k_j2301 hI hl hN)
  refine Ok.e c39 ?_
  by_cases c40 : t = 40
  · exact Ok.t c40 (k_j2385 hI hl hN)
  refine Ok.e c40 ?_
  by_cases c41 : t = 41
  · exact Ok.t c41 (k_j2469 hI hl hN)
  refine Ok.e c41 ?_
  by_cases c42 : t = 42
  · exact Ok.t c42 (k_j2553 hI hl hN)
  refine Ok.e c42 ?_
  by_cases c43 : t = 43
  · exact Ok.t c43 (k_j2621 hI hl hN)
  refine Ok.e c43 ?_
  by_cases c44 : t = 44
  · exact Ok.t c44 (k_j2646 hI hl hN)
  refine Ok.e c44 ?_
  by_cases c45 : t = 45
  · exact Ok.t c45 (k_j2659 hI hl hN)
  refine Ok.e c45 ?_
  by_cases c46 : t = 46
  · exact Ok.t c46 (k_j2670 hI hl hN)
  refine Ok.e c46 ?_
  by_cases c47 : t = 47
  · exact Ok.t c47 (k_j2683 hI hl hN)
  refine Ok.e c47 ?_
  exact Ok.r hI
theorem law_all (hN : N ≤ 3072) : ∀ (k l : Nat) (μ : Mem), Inv μ → N ≤ l + 6 * k + 5 → l ≤ 6000 → f_L_law_loop N xs (k + 1) μ (nI l) = some ()
  | k, l, μ, hI, hk, hl6 => by
    show (if (Int32.ofNat N) - 6 < nI l then some () else Option.bind (f_L_law__j33 μ N xs (nI l)) fun μ' => f_L_law_loop N xs k μ' (nI l + 6)) = some ()
    have e6 : ((nI N) - 6).toInt = (N : Int) - 6 := pk_sub_toInt (a := N) (b := 6) (by omega) (by decide)
    have el : (nI l).toInt = (l : Int) := nI_toInt (by omega)
    by_cases c : N < l + 6
    · exact if_pos (Int32.lt_iff_toInt_lt.mpr (by rw [show (Int32.ofNat N - 6).toInt = (N : Int) - 6 from e6, el]; omega))
    · rw [if_neg (fun q => by have := Int32.lt_iff_toInt_lt.mp q; rw [show (Int32.ofNat N - 6).toInt = (N : Int) - 6 from e6, el] at this; omega)]
      obtain ⟨μ', e1, h1⟩ := k_arm (xs := xs) hI (show l + 6 ≤ N by omega) (show N < 2 ^ 30 by omega)
      rw [e1]
      show f_L_law_loop N xs k μ' (nI l + 6) = some ()
      rw [show nI l + 6 = nI (l + 6) from nI_add l 6]
      cases k with
      | zero => omega
      | succ k => exact law_all hN k (l + 6) μ' h1 (by omega) (by omega)
end Ar
