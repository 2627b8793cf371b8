theorem lcT {a b : Int64} (h : (if a < b then (1 : Int32) else if b = a then 0 else -1) = 0) : (if a < b then (1 : Int) else if b = a then 0 else -1) = 0 := by
  by_cases c : a < b
  · rw [if_pos c] at h; exact absurd h (by decide)
  · rw [if_neg c] at h ⊢
    by_cases d : b = a
    · rw [if_pos d]
    · rw [if_neg d] at h; exact absurd h (by decide)
theorem lcF {a b : Int64} (h : ¬ (if a < b then (1 : Int32) else if b = a then 0 else -1) = 0) : ¬ (if a < b then (1 : Int) else if b = a then 0 else -1) = 0 := by
  by_cases c : a < b
  · rw [if_pos c]; decide
  · rw [if_neg c] at h ⊢
    by_cases d : b = a
    · rw [if_pos d] at h; exact absurd rfl h
    · rw [if_neg d]; decide
theorem s_L_law__j248 {G : Gl} (hG : G.1.stackTraces = false) {C : Cx} {n b9 K KS : Nat} {μ : Mem} {b9L : Nat} {xs : (Nat → Int32)} {l4 : Int32} (hX9 : ScX G C b9 b9L xs) (hKb : K + 8 ≤ 500000 ∧ KS + 48 ≤ 5000000) {r : Mem} (hf : f_L_law__j248 μ b9L xs l4 = some r) (hK : ∀ n, V G C F_L_law_ 2708 [some (.ref b9), some (.ref (G.2.1 + 0)), some (.ref (G.2.1 + 264)), some (.ref (G.2.1 + 275)), some (.int l4), none, none] [] (pic G r) n (K + 8) (KS + 48)) : V G C F_L_law_ 248 [some (.ref b9), some (.ref (G.2.1 + 0)), some (.ref (G.2.1 + 264)), some (.ref (G.2.1 + 275)), some (.int l4), none, none] [] (pic G μ) n (K + 0) (KS + 0) := by
  unfold f_L_law__j248 at hf
  refine V_aload_n d_L_law__248 rfl rfl ?_
  refine V_aload_n d_L_law__249 rfl rfl ?_
  refine V_iload d_L_law__250 rfl ?_
  refine V_iconst (v := 1) d_L_law__252 ic_1 ?_
  refine V_iadd d_L_law__253 ?_
  obtain ⟨t1, ht1, hf⟩ := ob hf
  refine V_sld hX9 ht1 d_L_law__254 ?_
  refine V_aload_n d_L_law__255 rfl rfl ?_
  refine V_iload d_L_law__256 rfl ?_
  refine V_iconst (v := 2) d_L_law__258 ic_2 ?_
  refine V_iadd d_L_law__259 ?_
  obtain ⟨t2, ht2, hf⟩ := ob hf
  refine V_sld hX9 ht2 d_L_law__260 ?_
  refine V_aload_n d_L_law__261 rfl rfl ?_
  refine V_iload d_L_law__262 rfl ?_
  refine V_iconst (v := 3) d_L_law__264 ic_3 ?_
  refine V_iadd d_L_law__265 ?_
  obtain ⟨t3, ht3, hf⟩ := ob hf
  refine V_sld hX9 ht3 d_L_law__266 ?_
  refine V_aload_n d_L_law__267 rfl rfl ?_
  refine V_iload d_L_law__268 rfl ?_
  refine V_iconst (v := 4) d_L_law__270 ic_4 ?_
  refine V_iadd d_L_law__271 ?_
  obtain ⟨t4, ht4, hf⟩ := ob hf
  refine V_sld hX9 ht4 d_L_law__272 ?_
  refine V_aload_n d_L_law__273 rfl rfl ?_
  refine V_iload d_L_law__274 rfl ?_
  refine V_iconst (v := 5) d_L_law__276 ic_5 ?_
  refine V_iadd d_L_law__277 ?_
  obtain ⟨t5, ht5, hf⟩ := ob hf
  refine V_sld hX9 ht5 d_L_law__278 ?_
  obtain ⟨q6, hq6, hf⟩ := ob hf
  refine B_callV1 (s_X11_feed hG hq6) k_0 clX11 m_X11_feed kv_RL_130 d_L_law__279 rfl (Nat.le_of_ble_eq_true rfl) ⟨rfl, rfl, (show K + 0 ≤ 500000 by omega), (show KS + 0 ≤ 5000000 by omega), Nat.le_of_ble_eq_true rfl⟩ (fun n => ?_)
  refine V_aload_n d_L_law__282 rfl rfl ?_
  refine V_aload_n d_L_law__283 rfl rfl ?_
  refine V_iload d_L_law__284 rfl ?_
  refine V_iconst (v := 1) d_L_law__286 ic_1 ?_
  refine V_iadd d_L_law__287 ?_
  obtain ⟨t7, ht7, hf⟩ := ob hf
  refine V_sld hX9 ht7 d_L_law__288 ?_
  refine V_aload_n d_L_law__289 rfl rfl ?_
  refine V_iload d_L_law__290 rfl ?_
  refine V_iconst (v := 2) d_L_law__292 ic_2 ?_
  refine V_iadd d_L_law__293 ?_
  obtain ⟨t8, ht8, hf⟩ := ob hf
  refine V_sld hX9 ht8 d_L_law__294 ?_
  refine V_aload_n d_L_law__295 rfl rfl ?_
  refine V_iload d_L_law__296 rfl ?_
  refine V_iconst (v := 3) d_L_law__298 ic_3 ?_
  refine V_iadd d_L_law__299 ?_
  obtain ⟨t9, ht9, hf⟩ := ob hf
  refine V_sld hX9 ht9 d_L_law__300 ?_
  refine V_aload_n d_L_law__301 rfl rfl ?_
  refine V_iload d_L_law__302 rfl ?_
  refine V_iconst (v := 4) d_L_law__304 ic_4 ?_
  refine V_iadd d_L_law__305 ?_
  obtain ⟨t10, ht10, hf⟩ := ob hf
  refine V_sld hX9 ht10 d_L_law__306 ?_
  refine V_aload_n d_L_law__307 rfl rfl ?_
  refine V_iload d_L_law__308 rfl ?_
  refine V_iconst (v := 5) d_L_law__310 ic_5 ?_
  refine V_iadd d_L_law__311 ?_
  obtain ⟨t11, ht11, hf⟩ := ob hf
  refine V_sld hX9 ht11 d_L_law__312 ?_
  obtain ⟨q12, hq12, hf⟩ := ob hf
  refine B_callV1 (s_X12_feed hG hq12) k_264 clX12 m_X12_feed kv_RL_133 d_L_law__313 rfl (Nat.le_of_ble_eq_true rfl) ⟨rfl, rfl, (show K + 0 ≤ 500000 by omega), (show KS + 0 ≤ 5000000 by omega), Nat.le_of_ble_eq_true rfl⟩ (fun n => ?_)
  refine V_icmp_eq (tgt := 2708) d_L_law__316 (by decide) (fun c316 => ?_) (fun c316 => ?_)
  · replace hf := iteT c316 hf
    refine V_widen (k2 := K + 8) (s2 := KS + 48) (by omega) (by omega) ?_
    refine V_less (ls' := [some _, some _, some _, some _, some _, none, none]) ⟨rfl, rfl, rfl, rfl, rfl, trivial⟩ ?_
    cases hf
    exact hK _
  · replace hf := iteF c316 hf
    refine V_iconst (v := 0) d_L_law__319 ic_0 ?_
    cases hf
theorem s_L_law__j321 {G : Gl} (hG : G.1.stackTraces = false) {C : Cx} {n b9 K KS : Nat} {μ : Mem} {b9L : Nat} {xs : (Nat → Int32)} {l4 : Int32} (hX9 : ScX G C b9 b9L xs) (hKb : K + 8 ≤ 500000 ∧ KS + 48 ≤ 5000000) {r : Mem} (hf : f_L_law__j321 μ b9L xs l4 = some r) (hK : ∀ n, V G C F_L_law_ 2708 [some (.ref b9), some (.ref (G.2.1 + 0)), some (.ref (G.2.1 + 264)), some (.ref (G.2.1 + 275)), some (.int l4), none, none] [] (pic G r) n (K + 8) (KS + 48)) : V G C F_L_law_ 321 [some (.ref b9), some (.ref (G.2.1 + 0)), some (.ref (G.2.1 + 264)), some (.ref (G.2.1 + 275)), some (.int l4), none, none] [] (pic G μ) n (K + 0) (KS + 0) := by
  unfold f_L_law__j321 at hf
  refine V_aload_n d_L_law__321 rfl rfl ?_
  refine V_aload_n d_L_law__322 rfl rfl ?_
  refine V_iload d_L_law__323 rfl ?_
  refine V_iconst (v := 1) d_L_law__325 ic_1 ?_
  refine V_iadd d_L_law__326 ?_
  obtain ⟨t1, ht1, hf⟩ := ob hf
  refine V_sld hX9 ht1 d_L_law__327 ?_
  obtain ⟨q2, hq2, hf⟩ := ob hf
  refine B_callV1 (s_X11_end hG hq2) k_0 clX11 m_X11_end kv_RL_134 d_L_law__328 rfl (Nat.le_of_ble_eq_true rfl) ⟨rfl, rfl, (show K + 0 ≤ 500000 by omega), (show KS + 0 ≤ 5000000 by omega), Nat.le_of_ble_eq_true rfl⟩ (fun n => ?_)
  refine V_aload_n d_L_law__331 rfl rfl ?_
  refine V_aload_n d_L_law__332 rfl rfl ?_
  refine V_iload d_L_law__333 rfl ?_
  refine V_iconst (v := 1) d_L_law__335 ic_1 ?_
  refine V_iadd d_L_law__336 ?_
  obtain ⟨t3, ht3, hf⟩ := ob hf
  refine V_sld hX9 ht3 d_L_law__337 ?_
  obtain ⟨q4, hq4, hf⟩ := ob hf
  refine B_callV1 (s_X12_end hG hq4) k_264 clX12 m_X12_end kv_RL_138 d_L_law__338 rfl (Nat.le_of_ble_eq_true rfl) ⟨rfl, rfl, (show K + 0 ≤ 500000 by omega), (show KS + 0 ≤ 5000000 by omega), Nat.le_of_ble_eq_true rfl⟩ (fun n => ?_)
  refine V_icmp_eq (tgt := 2708) d_L_law__341 (by decide) (fun c341 => ?_) (fun c341 => ?_)
  · replace hf := iteT c341 hf
    refine V_widen (k2 := K + 8) (s2 := KS + 48) (by omega) (by omega) ?_
    refine V_less (ls' := [some _, some _, some _, some _, some _, none, none]) ⟨rfl, rfl, rfl, rfl, rfl, trivial⟩ ?_
    cases hf
    exact hK _
  · replace hf := iteF c341 hf
    refine V_iconst (v := 0) d_L_law__344 ic_0 ?_
    cases hf
theorem s_L_law__j387 {G : Gl} (hG : G.1.stackTraces = false) {C : Cx} {n b9 K KS : Nat} {μ : Mem} {b9L : Nat} {xs : (Nat → Int32)} {l4 : Int32} (hX9 : ScX G C b9 b9L xs) (hKb : K + 8 ≤ 500000 ∧ KS + 48 ≤ 5000000) {r : Mem} (hf : f_L_law__j387 μ b9L xs l4 = some r) (hK : ∀ n, V G C F_L_law_ 2708 [some (.ref b9), some (.ref (G.2.1 + 0)), some (.ref (G.2.1 + 264)), some (.ref (G.2.1 + 275)), some (.int l4), none, none] [] (pic G r) n (K + 8) (KS + 48)) : V G C F_L_law_ 387 [some (.ref b9), some (.ref (G.2.1 + 0)), some (.ref (G.2.1 + 264)), some (.ref (G.2.1 + 275)), some (.int l4), none, none] [] (pic G μ) n (K + 2) (KS + 12) := by
  unfold f_L_law__j387 at hf
  refine V_goto (tgt := 2708) d_L_law__387 (by decide) ?_
  refine V_widen (k2 := K + 8) (s2 := KS + 48) (by omega) (by omega) ?_
  refine V_less (ls' := [some _, some _, some _, some _, some _, none, none]) ⟨rfl, rfl, rfl, rfl, rfl, trivial⟩ ?_
  cases hf
  exact hK _
theorem s_L_law__j346 {G : Gl} (hG : G.1.stackTraces = false) {C : Cx} {n b9 K KS : Nat} {μ : Mem} {b9L : Nat} {xs : (Nat → Int32)} {l4 : Int32} (hX9 : ScX G C b9 b9L xs) (hKb : K + 8 ≤ 500000 ∧ KS + 48 ≤ 5000000) {r : Mem} (hf : f_L_law__j346 μ b9L xs l4 = some r) (hK : ∀ n, V G C F_L_law_ 2708 [some (.ref b9), some (.ref (G.2.1 + 0)), some (.ref (G.2.1 + 264)), some (.ref (G.2.1 + 275)), some (.int l4), none, none] [] (pic G r) n (K + 8) (KS + 48)) : V G C F_L_law_ 346 [some (.ref b9), some (.ref (G.2.1 + 0)), some (.ref (G.2.1 + 264)), some (.ref (G.2.1 + 275)), some (.int l4), none, none] [] (pic G μ) n (K + 0) (KS + 0) := by
  unfold f_L_law__j346 at hf
  refine V_aload_n d_L_law__346 rfl rfl ?_
  refine V_aload_n d_L_law__347 rfl rfl ?_
  obtain ⟨q1, hq1, hf⟩ := ob hf
  refine B_callSH (s_L_land hG hq1) (kc' := (K + 2)) (ks' := (KS + 12)) m_L_land ks_RL_139 d_L_law__348 rfl (Nat.le_of_ble_eq_true rfl) ⟨rfl, rfl, (show K + 2 ≤ 500000 by omega), (show KS + 12 ≤ 5000000 by omega), Nat.le_of_ble_eq_true rfl⟩ (fun n => ?_)
  refine V_istore (ls' := [_, _, _, _, _, _, _]) d_L_law__351 rfl rfl ?_
  refine V_aload_n d_L_law__353 rfl rfl ?_
  obtain ⟨q2, hq2, hf⟩ := ob hf
  refine B_callV1 (s_X12_land hG hq2) k_264 clX12 m_X12_land kv_RL_144 d_L_law__354 rfl (Nat.le_of_ble_eq_true rfl) ⟨rfl, rfl, (show K + 2 ≤ 500000 by omega), (show KS + 12 ≤ 5000000 by omega), Nat.le_of_ble_eq_true rfl⟩ (fun n => ?_)
  refine V_istore (ls' := [_, _, _, _, _, _, _]) d_L_law__357 rfl rfl ?_
  refine V_aload_n d_L_law__359 rfl rfl ?_
  obtain ⟨t3, ht3, hf⟩ := ob hf
  refine B_callV1 (s_X12_thrown hG ht3) k_264 clX12 m_X12_thrown kv_RL_145 d_L_law__360 rfl (Nat.le_of_ble_eq_true rfl) ⟨rfl, rfl, (show K + 2 ≤ 500000 by omega), (show KS + 12 ≤ 5000000 by omega), Nat.le_of_ble_eq_true rfl⟩ (fun n => ?_)
  refine V_iload d_L_law__363 rfl ?_
  refine V_icmp_eq (tgt := 370) d_L_law__365 (by decide) (fun c365 => ?_) (fun c365 => ?_)
  · replace hf := iteT c365 hf
    refine V_iload d_L_law__370 rfl ?_
    refine V_if_ne (tgt := 387) d_L_law__372 (by decide) (fun c372 => ?_) (fun c372 => ?_)
    · replace hf := iteF c372 hf
      refine V_less (ls' := [some _, some _, some _, some _, some _, none, none]) ⟨rfl, rfl, rfl, rfl, rfl, trivial⟩ ?_
      exact s_L_law__j387 hG hX9 hKb hf hK
    · replace hf := iteT c372 hf
      refine V_aload_n d_L_law__375 rfl rfl ?_
      refine V_iconst (v := 0) d_L_law__376 ic_0 ?_
      obtain ⟨t4, ht4, hf⟩ := ob hf
      refine B_lald k_275 ht4 d_L_law__377 ?_
      refine V_iload d_L_law__378 rfl ?_
      refine V_i2l d_L_law__380 ?_
      refine V_lcmp d_L_law__381 ?_
      refine V_if_eq (tgt := 387) d_L_law__382 (by decide) (fun c382 => ?_) (fun c382 => ?_)
      · replace hf := iteT (lcT c382) hf
        refine V_less (ls' := [some _, some _, some _, some _, some _, none, none]) ⟨rfl, rfl, rfl, rfl, rfl, trivial⟩ ?_
        exact s_L_law__j387 hG hX9 hKb hf hK
      · replace hf := iteF (lcF c382) hf
        refine V_iconst (v := 0) d_L_law__385 ic_0 ?_
        cases hf
  · replace hf := iteF c365 hf
    refine V_iconst (v := 0) d_L_law__368 ic_0 ?_
    cases hf
theorem s_L_law__j431 {G : Gl} (hG : G.1.stackTraces = false) {C : Cx} {n b9 K KS : Nat} {μ : Mem} {b9L : Nat} {xs : (Nat → Int32)} {l4 : Int32} (hX9 : ScX G C b9 b9L xs) (hKb : K + 8 ≤ 500000 ∧ KS + 48 ≤ 5000000) {r : Mem} (hf : f_L_law__j431 μ b9L xs l4 = some r) (hK : ∀ n, V G C F_L_law_ 2708 [some (.ref b9), some (.ref (G.2.1 + 0)), some (.ref (G.2.1 + 264)), some (.ref (G.2.1 + 275)), some (.int l4), none, none] [] (pic G r) n (K + 8) (KS + 48)) : V G C F_L_law_ 431 [some (.ref b9), some (.ref (G.2.1 + 0)), some (.ref (G.2.1 + 264)), some (.ref (G.2.1 + 275)), some (.int l4), none, none] [] (pic G μ) n (K + 1) (KS + 6) := by
  unfold f_L_law__j431 at hf
  refine V_goto (tgt := 2708) d_L_law__431 (by decide) ?_
  refine V_widen (k2 := K + 8) (s2 := KS + 48) (by omega) (by omega) ?_
  refine V_less (ls' := [some _, some _, some _, some _, some _, none, none]) ⟨rfl, rfl, rfl, rfl, rfl, trivial⟩ ?_
  cases hf
  exact hK _
theorem s_L_law__j390 {G : Gl} (hG : G.1.stackTraces = false) {C : Cx} {n b9 K KS : Nat} {μ : Mem} {b9L : Nat} {xs : (Nat → Int32)} {l4 : Int32} (hX9 : ScX G C b9 b9L xs) (hKb : K + 8 ≤ 500000 ∧ KS + 48 ≤ 5000000) {r : Mem} (hf : f_L_law__j390 μ b9L xs l4 = some r) (hK : ∀ n, V G C F_L_law_ 2708 [some (.ref b9), some (.ref (G.2.1 + 0)), some (.ref (G.2.1 + 264)), some (.ref (G.2.1 + 275)), some (.int l4), none, none] [] (pic G r) n (K + 8) (KS + 48)) : V G C F_L_law_ 390 [some (.ref b9), some (.ref (G.2.1 + 0)), some (.ref (G.2.1 + 264)), some (.ref (G.2.1 + 275)), some (.int l4), none, none] [] (pic G μ) n (K + 0) (KS + 0) := by
  unfold f_L_law__j390 at hf
  refine V_aload_n d_L_law__390 rfl rfl ?_
  refine V_aload_n d_L_law__391 rfl rfl ?_
  obtain ⟨q1, hq1, hf⟩ := ob hf
  refine B_callSH (s_L_law hG hq1) (kc' := (K + 1)) (ks' := (KS + 6)) m_L_law ks_RL_148 d_L_law__392 rfl (Nat.le_of_ble_eq_true rfl) ⟨rfl, rfl, (show K + 1 ≤ 500000 by omega), (show KS + 6 ≤ 5000000 by omega), Nat.le_of_ble_eq_true rfl⟩ (fun n => ?_)
  refine V_istore (ls' := [_, _, _, _, _, _, _]) d_L_law__395 rfl rfl ?_
  refine V_aload_n d_L_law__397 rfl rfl ?_
  obtain ⟨q2, hq2, hf⟩ := ob hf
  refine B_callV1 (s_X12_law hG hq2) k_264 clX12 m_X12_law kv_RL_150 d_L_law__398 rfl (Nat.le_of_ble_eq_true rfl) ⟨rfl, rfl, (show K + 1 ≤ 500000 by omega), (show KS + 6 ≤ 5000000 by omega), Nat.le_of_ble_eq_true rfl⟩ (fun n => ?_)
  refine V_istore (ls' := [_, _, _, _, _, _, _]) d_L_law__401 rfl rfl ?_
  refine V_aload_n d_L_law__403 rfl rfl ?_
  obtain ⟨t3, ht3, hf⟩ := ob hf
  refine B_callV1 (s_X12_thrown hG ht3) k_264 clX12 m_X12_thrown kv_RL_145 d_L_law__404 rfl (Nat.le_of_ble_eq_true rfl) ⟨rfl, rfl, (show K + 1 ≤ 500000 by omega), (show KS + 6 ≤ 5000000 by omega), Nat.le_of_ble_eq_true rfl⟩ (fun n => ?_)
  refine V_iload d_L_law__407 rfl ?_
  refine V_icmp_eq (tgt := 414) d_L_law__409 (by decide) (fun c409 => ?_) (fun c409 => ?_)
  · replace hf := iteT c409 hf
    refine V_iload d_L_law__414 rfl ?_
    refine V_if_ne (tgt := 431) d_L_law__416 (by decide) (fun c416 => ?_) (fun c416 => ?_)
    · replace hf := iteF c416 hf
      refine V_less (ls' := [some _, some _, some _, some _, some _, none, none]) ⟨rfl, rfl, rfl, rfl, rfl, trivial⟩ ?_
      exact s_L_law__j431 hG hX9 hKb hf hK
    · replace hf := iteT c416 hf
      refine V_aload_n d_L_law__419 rfl rfl ?_
      refine V_iconst (v := 0) d_L_law__420 ic_0 ?_
      obtain ⟨t4, ht4, hf⟩ := ob hf
      refine B_lald k_275 ht4 d_L_law__421 ?_
      refine V_iload d_L_law__422 rfl ?_
      refine V_i2l d_L_law__424 ?_
      refine V_lcmp d_L_law__425 ?_
      refine V_if_eq (tgt := 431) d_L_law__426 (by decide) (fun c426 => ?_) (fun c426 => ?_)
      · replace hf := iteT (lcT c426) hf
        refine V_less (ls' := [some _, some _, some _, some _, some _, none, none]) ⟨rfl, rfl, rfl, rfl, rfl, trivial⟩ ?_
        exact s_L_law__j431 hG hX9 hKb hf hK
      · replace hf := iteF (lcF c426) hf
        refine V_iconst (v := 0) d_L_law__429 ic_0 ?_
        cases hf
  · replace hf := iteF c409 hf
    refine V_iconst (v := 0) d_L_law__412 ic_0 ?_
    cases hf
theorem s_L_law__j434 {G : Gl} (hG : G.1.stackTraces = false) {C : Cx} {n b9 K KS : Nat} {μ : Mem} {b9L : Nat} {xs : (Nat → Int32)} {l4 : Int32} (hX9 : ScX G C b9 b9L xs) (hKb : K + 8 ≤ 500000 ∧ KS + 48 ≤ 5000000) {r : Mem} (hf : f_L_law__j434 μ b9L xs l4 = some r) (hK : ∀ n, V G C F_L_law_ 2708 [some (.ref b9), some (.ref (G.2.1 + 0)), some (.ref (G.2.1 + 264)), some (.ref (G.2.1 + 275)), some (.int l4), none, none] [] (pic G r) n (K + 8) (KS + 48)) : V G C F_L_law_ 434 [some (.ref b9), some (.ref (G.2.1 + 0)), some (.ref (G.2.1 + 264)), some (.ref (G.2.1 + 275)), some (.int l4), none, none] [] (pic G μ) n (K + 0) (KS + 0) := by
  unfold f_L_law__j434 at hf
  refine V_aload_n d_L_law__434 rfl rfl ?_
  obtain ⟨t1, ht1, hf⟩ := ob hf
  refine B_callV1 (s_X11_fault hG ht1) k_0 clX11 m_X11_fault kv_RL_151 d_L_law__435 rfl (Nat.le_of_ble_eq_true rfl) ⟨rfl, rfl, (show K + 0 ≤ 500000 by omega), (show KS + 0 ≤ 5000000 by omega), Nat.le_of_ble_eq_true rfl⟩ (fun n => ?_)
  refine V_aload_n d_L_law__438 rfl rfl ?_
  obtain ⟨q2, hq2, hf⟩ := ob hf
  refine B_callV1 (s_X12_fault hG hq2) k_264 clX12 m_X12_fault kv_RL_154 d_L_law__439 rfl (Nat.le_of_ble_eq_true rfl) ⟨rfl, rfl, (show K + 0 ≤ 500000 by omega), (show KS + 0 ≤ 5000000 by omega), Nat.le_of_ble_eq_true rfl⟩ (fun n => ?_)
  refine V_icmp_eq (tgt := 2708) d_L_law__442 (by decide) (fun c442 => ?_) (fun c442 => ?_)
  · replace hf := iteT c442 hf
    refine V_widen (k2 := K + 8) (s2 := KS + 48) (by omega) (by omega) ?_
    refine V_less (ls' := [some _, some _, some _, some _, some _, none, none]) ⟨rfl, rfl, rfl, rfl, rfl, trivial⟩ ?_
    cases hf
    exact hK _
  · replace hf := iteF c442 hf
    refine V_iconst (v := 0) d_L_law__445 ic_0 ?_
    cases hf
theorem s_L_law__j512 {G : Gl} (hG : G.1.stackTraces = false) {C : Cx} {n b9 K KS : Nat} {μ : Mem} {b9L : Nat} {xs : (Nat → Int32)} {l4 : Int32} (hX9 : ScX G C b9 b9L xs) (hKb : K + 8 ≤ 500000 ∧ KS + 48 ≤ 5000000) {r : Mem} (hf : f_L_law__j512 μ b9L xs l4 = some r) (hK : ∀ n, V G C F_L_law_ 2708 [some (.ref b9), some (.ref (G.2.1 + 0)), some (.ref (G.2.1 + 264)), some (.ref (G.2.1 + 275)), some (.int l4), none, none] [] (pic G r) n (K + 8) (KS + 48)) : V G C F_L_law_ 512 [some (.ref b9), some (.ref (G.2.1 + 0)), some (.ref (G.2.1 + 264)), some (.ref (G.2.1 + 275)), some (.int l4), none, none] [] (pic G μ) n (K + 2) (KS + 12) := by
  unfold f_L_law__j512 at hf
  refine V_goto (tgt := 2708) d_L_law__512 (by decide) ?_
  refine V_widen (k2 := K + 8) (s2 := KS + 48) (by omega) (by omega) ?_
  refine V_less (ls' := [some _, some _, some _, some _, some _, none, none]) ⟨rfl, rfl, rfl, rfl, rfl, trivial⟩ ?_
  cases hf
  exact hK _
theorem s_L_law__j447 {G : Gl} (hG : G.1.stackTraces = false) {C : Cx} {n b9 K KS : Nat} {μ : Mem} {b9L : Nat} {xs : (Nat → Int32)} {l4 : Int32} (hX9 : ScX G C b9 b9L xs) (hKb : K + 8 ≤ 500000 ∧ KS + 48 ≤ 5000000) {r : Mem} (hf : f_L_law__j447 μ b9L xs l4 = some r) (hK : ∀ n, V G C F_L_law_ 2708 [some (.ref b9), some (.ref (G.2.1 + 0)), some (.ref (G.2.1 + 264)), some (.ref (G.2.1 + 275)), some (.int l4), none, none] [] (pic G r) n (K + 8) (KS + 48)) : V G C F_L_law_ 447 [some (.ref b9), some (.ref (G.2.1 + 0)), some (.ref (G.2.1 + 264)), some (.ref (G.2.1 + 275)), some (.int l4), none, none] [] (pic G μ) n (K + 0) (KS + 0) := by
  unfold f_L_law__j447 at hf
  refine V_aload_n d_L_law__447 rfl rfl ?_
  refine V_aload_n d_L_law__448 rfl rfl ?_
  refine V_iload d_L_law__449 rfl ?_
  refine V_iconst (v := 1) d_L_law__451 ic_1 ?_
  refine V_iadd d_L_law__452 ?_
  obtain ⟨t1, ht1, hf⟩ := ob hf
  refine V_sld hX9 ht1 d_L_law__453 ?_
  refine V_aload_n d_L_law__454 rfl rfl ?_
  refine V_iload d_L_law__455 rfl ?_
  refine V_iconst (v := 2) d_L_law__457 ic_2 ?_
  refine V_iadd d_L_law__458 ?_
  obtain ⟨t2, ht2, hf⟩ := ob hf
  refine V_sld hX9 ht2 d_L_law__459 ?_
  refine V_aload_n d_L_law__460 rfl rfl ?_
  obtain ⟨q3, hq3, hf⟩ := ob hf
  refine B_callSH (s_L_person hG hq3) (kc' := (K + 2)) (ks' := (KS + 12)) m_L_person ks_RL_155 d_L_law__461 rfl (Nat.le_of_ble_eq_true rfl) ⟨rfl, rfl, (show K + 2 ≤ 500000 by omega), (show KS + 12 ≤ 5000000 by omega), Nat.le_of_ble_eq_true rfl⟩ (fun n => ?_)
  refine V_istore (ls' := [_, _, _, _, _, _, _]) d_L_law__464 rfl rfl ?_
  refine V_aload_n d_L_law__466 rfl rfl ?_
  refine V_aload_n d_L_law__467 rfl rfl ?_
  refine V_iload d_L_law__468 rfl ?_
  refine V_iconst (v := 1) d_L_law__470 ic_1 ?_
  refine V_iadd d_L_law__471 ?_
  obtain ⟨t4, ht4, hf⟩ := ob hf
  refine V_sld hX9 ht4 d_L_law__472 ?_
  refine V_aload_n d_L_law__473 rfl rfl ?_
  refine V_iload d_L_law__474 rfl ?_
  refine V_iconst (v := 2) d_L_law__476 ic_2 ?_
  refine V_iadd d_L_law__477 ?_
  obtain ⟨t5, ht5, hf⟩ := ob hf
  refine V_sld hX9 ht5 d_L_law__478 ?_
  obtain ⟨q6, hq6, hf⟩ := ob hf
  refine B_callV1 (s_X12_person hG hq6) k_264 clX12 m_X12_person kv_RL_158 d_L_law__479 rfl (Nat.le_of_ble_eq_true rfl) ⟨rfl, rfl, (show K + 2 ≤ 500000 by omega), (show KS + 12 ≤ 5000000 by omega), Nat.le_of_ble_eq_true rfl⟩ (fun n => ?_)
  refine V_istore (ls' := [_, _, _, _, _, _, _]) d_L_law__482 rfl rfl ?_
  refine V_aload_n d_L_law__484 rfl rfl ?_
  obtain ⟨t7, ht7, hf⟩ := ob hf
  refine B_callV1 (s_X12_thrown hG ht7) k_264 clX12 m_X12_thrown kv_RL_145 d_L_law__485 rfl (Nat.le_of_ble_eq_true rfl) ⟨rfl, rfl, (show K + 2 ≤ 500000 by omega), (show KS + 12 ≤ 5000000 by omega), Nat.le_of_ble_eq_true rfl⟩ (fun n => ?_)
  refine V_iload d_L_law__488 rfl ?_
  refine V_icmp_eq (tgt := 495) d_L_law__490 (by decide) (fun c490 => ?_) (fun c490 => ?_)
  · replace hf := iteT c490 hf
    refine V_iload d_L_law__495 rfl ?_
    refine V_if_ne (tgt := 512) d_L_law__497 (by decide) (fun c497 => ?_) (fun c497 => ?_)
    · replace hf := iteF c497 hf
      refine V_less (ls' := [some _, some _, some _, some _, some _, none, none]) ⟨rfl, rfl, rfl, rfl, rfl, trivial⟩ ?_
      exact s_L_law__j512 hG hX9 hKb hf hK
    · replace hf := iteT c497 hf
      refine V_aload_n d_L_law__500 rfl rfl ?_
      refine V_iconst (v := 0) d_L_law__501 ic_0 ?_
      obtain ⟨t8, ht8, hf⟩ := ob hf
      refine B_lald k_275 ht8 d_L_law__502 ?_
      refine V_iload d_L_law__503 rfl ?_
      refine V_i2l d_L_law__505 ?_
      refine V_lcmp d_L_law__506 ?_
      refine V_if_eq (tgt := 512) d_L_law__507 (by decide) (fun c507 => ?_) (fun c507 => ?_)
      · replace hf := iteT (lcT c507) hf
        refine V_less (ls' := [some _, some _, some _, some _, some _, none, none]) ⟨rfl, rfl, rfl, rfl, rfl, trivial⟩ ?_
        exact s_L_law__j512 hG hX9 hKb hf hK
      · replace hf := iteF (lcF c507) hf
        refine V_iconst (v := 0) d_L_law__510 ic_0 ?_
        cases hf
  · replace hf := iteF c490 hf
    refine V_iconst (v := 0) d_L_law__493 ic_0 ?_
    cases hf
theorem s_L_law__j580 {G : Gl} (hG : G.1.stackTraces = false) {C : Cx} {n b9 K KS : Nat} {μ : Mem} {b9L : Nat} {xs : (Nat → Int32)} {l4 : Int32} (hX9 : ScX G C b9 b9L xs) (hKb : K + 8 ≤ 500000 ∧ KS + 48 ≤ 5000000) {r : Mem} (hf : f_L_law__j580 μ b9L xs l4 = some r) (hK : ∀ n, V G C F_L_law_ 2708 [some (.ref b9), some (.ref (G.2.1 + 0)), some (.ref (G.2.1 + 264)), some (.ref (G.2.1 + 275)), some (.int l4), none, none] [] (pic G r) n (K + 8) (KS + 48)) : V G C F_L_law_ 580 [some (.ref b9), some (.ref (G.2.1 + 0)), some (.ref (G.2.1 + 264)), some (.ref (G.2.1 + 275)), some (.int l4), none, none] [] (pic G μ) n (K + 2) (KS + 12) := by
  unfold f_L_law__j580 at hf
  refine V_goto (tgt := 2708) d_L_law__580 (by decide) ?_
  refine V_widen (k2 := K + 8) (s2 := KS + 48) (by omega) (by omega) ?_
  refine V_less (ls' := [some _, some _, some _, some _, some _, none, none]) ⟨rfl, rfl, rfl, rfl, rfl, trivial⟩ ?_
  cases hf
  exact hK _
theorem s_L_law__j515 {G : Gl} (hG : G.1.stackTraces = false) {C : Cx} {n b9 K KS : Nat} {μ : Mem} {b9L : Nat} {xs : (Nat → Int32)} {l4 : Int32} (hX9 : ScX G C b9 b9L xs) (hKb : K + 8 ≤ 500000 ∧ KS + 48 ≤ 5000000) {r : Mem} (hf : f_L_law__j515 μ b9L xs l4 = some r) (hK : ∀ n, V G C F_L_law_ 2708 [some (.ref b9), some (.ref (G.2.1 + 0)), some (.ref (G.2.1 + 264)), some (.ref (G.2.1 + 275)), some (.int l4), none, none] [] (pic G r) n (K + 8) (KS + 48)) : V G C F_L_law_ 515 [some (.ref b9), some (.ref (G.2.1 + 0)), some (.ref (G.2.1 + 264)), some (.ref (G.2.1 + 275)), some (.int l4), none, none] [] (pic G μ) n (K + 0) (KS + 0) := by
  unfold f_L_law__j515 at hf
  refine V_aload_n d_L_law__515 rfl rfl ?_
  refine V_aload_n d_L_law__516 rfl rfl ?_
  refine V_iload d_L_law__517 rfl ?_
  refine V_iconst (v := 1) d_L_law__519 ic_1 ?_
  refine V_iadd d_L_law__520 ?_
  obtain ⟨t1, ht1, hf⟩ := ob hf
  refine V_sld hX9 ht1 d_L_law__521 ?_
  refine V_aload_n d_L_law__522 rfl rfl ?_
  refine V_iload d_L_law__523 rfl ?_
  refine V_iconst (v := 2) d_L_law__525 ic_2 ?_
  refine V_iadd d_L_law__526 ?_
  obtain ⟨t2, ht2, hf⟩ := ob hf
  refine V_sld hX9 ht2 d_L_law__527 ?_
  refine V_aload_n d_L_law__528 rfl rfl ?_
  obtain ⟨q3, hq3, hf⟩ := ob hf
  refine B_callSH (s_L_lace hG hq3) (kc' := (K + 2)) (ks' := (KS + 12)) m_L_lace ks_RL_159 d_L_law__529 rfl (Nat.le_of_ble_eq_true rfl) ⟨rfl, rfl, (show K + 2 ≤ 500000 by omega), (show KS + 12 ≤ 5000000 by omega), Nat.le_of_ble_eq_true rfl⟩ (fun n => ?_)
  refine V_istore (ls' := [_, _, _, _, _, _, _]) d_L_law__532 rfl rfl ?_
  refine V_aload_n d_L_law__534 rfl rfl ?_
  refine V_aload_n d_L_law__535 rfl rfl ?_
  refine V_iload d_L_law__536 rfl ?_
  refine V_iconst (v := 1) d_L_law__538 ic_1 ?_
  refine V_iadd d_L_law__539 ?_
  obtain ⟨t4, ht4, hf⟩ := ob hf
  refine V_sld hX9 ht4 d_L_law__540 ?_
  refine V_aload_n d_L_law__541 rfl rfl ?_
  refine V_iload d_L_law__542 rfl ?_
  refine V_iconst (v := 2) d_L_law__544 ic_2 ?_
  refine V_iadd d_L_law__545 ?_
  obtain ⟨t5, ht5, hf⟩ := ob hf
  refine V_sld hX9 ht5 d_L_law__546 ?_
  obtain ⟨q6, hq6, hf⟩ := ob hf
  refine B_callV1 (s_X12_lace hG hq6) k_264 clX12 m_X12_lace kv_RL_161 d_L_law__547 rfl (Nat.le_of_ble_eq_true rfl) ⟨rfl, rfl, (show K + 2 ≤ 500000 by omega), (show KS + 12 ≤ 5000000 by omega), Nat.le_of_ble_eq_true rfl⟩ (fun n => ?_)
  refine V_istore (ls' := [_, _, _, _, _, _, _]) d_L_law__550 rfl rfl ?_
  refine V_aload_n d_L_law__552 rfl rfl ?_
  obtain ⟨t7, ht7, hf⟩ := ob hf
  refine B_callV1 (s_X12_thrown hG ht7) k_264 clX12 m_X12_thrown kv_RL_145 d_L_law__553 rfl (Nat.le_of_ble_eq_true rfl) ⟨rfl, rfl, (show K + 2 ≤ 500000 by omega), (show KS + 12 ≤ 5000000 by omega), Nat.le_of_ble_eq_true rfl⟩ (fun n => ?_)
  refine V_iload d_L_law__556 rfl ?_
  refine V_icmp_eq (tgt := 563) d_L_law__558 (by decide) (fun c558 => ?_) (fun c558 => ?_)
  · replace hf := iteT c558 hf
    refine V_iload d_L_law__563 rfl ?_
    refine V_if_ne (tgt := 580) d_L_law__565 (by decide) (fun c565 => ?_) (fun c565 => ?_)
    · replace hf := iteF c565 hf
      refine V_less (ls' := [some _, some _, some _, some _, some _, none, none]) ⟨rfl, rfl, rfl, rfl, rfl, trivial⟩ ?_
      exact s_L_law__j580 hG hX9 hKb hf hK
    · replace hf := iteT c565 hf
      refine V_aload_n d_L_law__568 rfl rfl ?_
      refine V_iconst (v := 0) d_L_law__569 ic_0 ?_
      obtain ⟨t8, ht8, hf⟩ := ob hf
      refine B_lald k_275 ht8 d_L_law__570 ?_
      refine V_iload d_L_law__571 rfl ?_
      refine V_i2l d_L_law__573 ?_
      refine V_lcmp d_L_law__574 ?_
      refine V_if_eq (tgt := 580) d_L_law__575 (by decide) (fun c575 => ?_) (fun c575 => ?_)
      · replace hf := iteT (lcT c575) hf
        refine V_less (ls' := [some _, some _, some _, some _, some _, none, none]) ⟨rfl, rfl, rfl, rfl, rfl, trivial⟩ ?_
        exact s_L_law__j580 hG hX9 hKb hf hK
      · replace hf := iteF (lcF c575) hf
        refine V_iconst (v := 0) d_L_law__578 ic_0 ?_
        cases hf
  · replace hf := iteF c558 hf
    refine V_iconst (v := 0) d_L_law__561 ic_0 ?_
    cases hf
theorem s_L_law__j636 {G : Gl} (hG : G.1.stackTraces = false) {C : Cx} {n b9 K KS : Nat} {μ : Mem} {b9L : Nat} {xs : (Nat → Int32)} {l4 : Int32} (hX9 : ScX G C b9 b9L xs) (hKb : K + 8 ≤ 500000 ∧ KS + 48 ≤ 5000000) {r : Mem} (hf : f_L_law__j636 μ b9L xs l4 = some r) (hK : ∀ n, V G C F_L_law_ 2708 [some (.ref b9), some (.ref (G.2.1 + 0)), some (.ref (G.2.1 + 264)), some (.ref (G.2.1 + 275)), some (.int l4), none, none] [] (pic G r) n (K + 8) (KS + 48)) : V G C F_L_law_ 636 [some (.ref b9), some (.ref (G.2.1 + 0)), some (.ref (G.2.1 + 264)), some (.ref (G.2.1 + 275)), some (.int l4), none, none] [] (pic G μ) n (K + 1) (KS + 6) := by
  unfold f_L_law__j636 at hf
  refine V_goto (tgt := 2708) d_L_law__636 (by decide) ?_
  refine V_widen (k2 := K + 8) (s2 := KS + 48) (by omega) (by omega) ?_
  refine V_less (ls' := [some _, some _, some _, some _, some _, none, none]) ⟨rfl, rfl, rfl, rfl, rfl, trivial⟩ ?_
  cases hf
  exact hK _
theorem s_L_law__j583 {G : Gl} (hG : G.1.stackTraces = false) {C : Cx} {n b9 K KS : Nat} {μ : Mem} {b9L : Nat} {xs : (Nat → Int32)} {l4 : Int32} (hX9 : ScX G C b9 b9L xs) (hKb : K + 8 ≤ 500000 ∧ KS + 48 ≤ 5000000) {r : Mem} (hf : f_L_law__j583 μ b9L xs l4 = some r) (hK : ∀ n, V G C F_L_law_ 2708 [some (.ref b9), some (.ref (G.2.1 + 0)), some (.ref (G.2.1 + 264)), some (.ref (G.2.1 + 275)), some (.int l4), none, none] [] (pic G r) n (K + 8) (KS + 48)) : V G C F_L_law_ 583 [some (.ref b9), some (.ref (G.2.1 + 0)), some (.ref (G.2.1 + 264)), some (.ref (G.2.1 + 275)), some (.int l4), none, none] [] (pic G μ) n (K + 0) (KS + 0) := by
  unfold f_L_law__j583 at hf
  refine V_aload_n d_L_law__583 rfl rfl ?_
  refine V_aload_n d_L_law__584 rfl rfl ?_
  refine V_iload d_L_law__585 rfl ?_
  refine V_iconst (v := 1) d_L_law__587 ic_1 ?_
  refine V_iadd d_L_law__588 ?_
  obtain ⟨t1, ht1, hf⟩ := ob hf
  refine V_sld hX9 ht1 d_L_law__589 ?_
  refine V_aload_n d_L_law__590 rfl rfl ?_
  obtain ⟨q2, hq2, hf⟩ := ob hf
  refine B_callSH (s_L_mud hG hq2) (kc' := (K + 1)) (ks' := (KS + 6)) m_L_mud ks_RL_162 d_L_law__591 rfl (Nat.le_of_ble_eq_true rfl) ⟨rfl, rfl, (show K + 1 ≤ 500000 by omega), (show KS + 6 ≤ 5000000 by omega), Nat.le_of_ble_eq_true rfl⟩ (fun n => ?_)
  refine V_istore (ls' := [_, _, _, _, _, _, _]) d_L_law__594 rfl rfl ?_
  refine V_aload_n d_L_law__596 rfl rfl ?_
  refine V_aload_n d_L_law__597 rfl rfl ?_
  refine V_iload d_L_law__598 rfl ?_
  refine V_iconst (v := 1) d_L_law__600 ic_1 ?_
  refine V_iadd d_L_law__601 ?_
  obtain ⟨t3, ht3, hf⟩ := ob hf
  refine V_sld hX9 ht3 d_L_law__602 ?_
  obtain ⟨q4, hq4, hf⟩ := ob hf
  refine B_callV1 (s_X12_mud hG hq4) k_264 clX12 m_X12_mud kv_RL_165 d_L_law__603 rfl (Nat.le_of_ble_eq_true rfl) ⟨rfl, rfl, (show K + 1 ≤ 500000 by omega), (show KS + 6 ≤ 5000000 by omega), Nat.le_of_ble_eq_true rfl⟩ (fun n => ?_)
  refine V_istore (ls' := [_, _, _, _, _, _, _]) d_L_law__606 rfl rfl ?_
  refine V_aload_n d_L_law__608 rfl rfl ?_
  obtain ⟨t5, ht5, hf⟩ := ob hf
  refine B_callV1 (s_X12_thrown hG ht5) k_264 clX12 m_X12_thrown kv_RL_145 d_L_law__609 rfl (Nat.le_of_ble_eq_true rfl) ⟨rfl, rfl, (show K + 1 ≤ 500000 by omega), (show KS + 6 ≤ 5000000 by omega), Nat.le_of_ble_eq_true rfl⟩ (fun n => ?_)
  refine V_iload d_L_law__612 rfl ?_
  refine V_icmp_eq (tgt := 619) d_L_law__614 (by decide) (fun c614 => ?_) (fun c614 => ?_)
  · replace hf := iteT c614 hf
    refine V_iload d_L_law__619 rfl ?_
    refine V_if_ne (tgt := 636) d_L_law__621 (by decide) (fun c621 => ?_) (fun c621 => ?_)
    · replace hf := iteF c621 hf
      refine V_less (ls' := [some _, some _, some _, some _, some _, none, none]) ⟨rfl, rfl, rfl, rfl, rfl, trivial⟩ ?_
      exact s_L_law__j636 hG hX9 hKb hf hK
    · replace hf := iteT c621 hf
      refine V_aload_n d_L_law__624 rfl rfl ?_
      refine V_iconst (v := 0) d_L_law__625 ic_0 ?_
      obtain ⟨t6, ht6, hf⟩ := ob hf
      refine B_lald k_275 ht6 d_L_law__626 ?_
      refine V_iload d_L_law__627 rfl ?_
      refine V_i2l d_L_law__629 ?_
      refine V_lcmp d_L_law__630 ?_
      refine V_if_eq (tgt := 636) d_L_law__631 (by decide) (fun c631 => ?_) (fun c631 => ?_)
      · replace hf := iteT (lcT c631) hf
        refine V_less (ls' := [some _, some _, some _, some _, some _, none, none]) ⟨rfl, rfl, rfl, rfl, rfl, trivial⟩ ?_
        exact s_L_law__j636 hG hX9 hKb hf hK
      · replace hf := iteF (lcF c631) hf
        refine V_iconst (v := 0) d_L_law__634 ic_0 ?_
        cases hf
  · replace hf := iteF c614 hf
    refine V_iconst (v := 0) d_L_law__617 ic_0 ?_
    cases hf
theorem s_L_law__j704 {G : Gl} (hG : G.1.stackTraces = false) {C : Cx} {n b9 K KS : Nat} {μ : Mem} {b9L : Nat} {xs : (Nat → Int32)} {l4 : Int32} (hX9 : ScX G C b9 b9L xs) (hKb : K + 8 ≤ 500000 ∧ KS + 48 ≤ 5000000) {r : Mem} (hf : f_L_law__j704 μ b9L xs l4 = some r) (hK : ∀ n, V G C F_L_law_ 2708 [some (.ref b9), some (.ref (G.2.1 + 0)), some (.ref (G.2.1 + 264)), some (.ref (G.2.1 + 275)), some (.int l4), none, none] [] (pic G r) n (K + 8) (KS + 48)) : V G C F_L_law_ 704 [some (.ref b9), some (.ref (G.2.1 + 0)), some (.ref (G.2.1 + 264)), some (.ref (G.2.1 + 275)), some (.int l4), none, none] [] (pic G μ) n (K + 2) (KS + 12) := by
  unfold f_L_law__j704 at hf
  refine V_goto (tgt := 2708) d_L_law__704 (by decide) ?_
  refine V_widen (k2 := K + 8) (s2 := KS + 48) (by omega) (by omega) ?_
  refine V_less (ls' := [some _, some _, some _, some _, some _, none, none]) ⟨rfl, rfl, rfl, rfl, rfl, trivial⟩ ?_
  cases hf
  exact hK _
theorem s_L_law__j639 {G : Gl} (hG : G.1.stackTraces = false) {C : Cx} {n b9 K KS : Nat} {μ : Mem} {b9L : Nat} {xs : (Nat → Int32)} {l4 : Int32} (hX9 : ScX G C b9 b9L xs) (hKb : K + 8 ≤ 500000 ∧ KS + 48 ≤ 5000000) {r : Mem} (hf : f_L_law__j639 μ b9L xs l4 = some r) (hK : ∀ n, V G C F_L_law_ 2708 [some (.ref b9), some (.ref (G.2.1 + 0)), some (.ref (G.2.1 + 264)), some (.ref (G.2.1 + 275)), some (.int l4), none, none] [] (pic G r) n (K + 8) (KS + 48)) : V G C F_L_law_ 639 [some (.ref b9), some (.ref (G.2.1 + 0)), some (.ref (G.2.1 + 264)), some (.ref (G.2.1 + 275)), some (.int l4), none, none] [] (pic G μ) n (K + 0) (KS + 0) := by
  unfold f_L_law__j639 at hf
  refine V_aload_n d_L_law__639 rfl rfl ?_
  refine V_aload_n d_L_law__640 rfl rfl ?_
  refine V_iload d_L_law__641 rfl ?_
  refine V_iconst (v := 1) d_L_law__643 ic_1 ?_
  refine V_iadd d_L_law__644 ?_
  obtain ⟨t1, ht1, hf⟩ := ob hf
  refine V_sld hX9 ht1 d_L_law__645 ?_
  refine V_aload_n d_L_law__646 rfl rfl ?_
  refine V_iload d_L_law__647 rfl ?_
  refine V_iconst (v := 2) d_L_law__649 ic_2 ?_
  refine V_iadd d_L_law__650 ?_
  obtain ⟨t2, ht2, hf⟩ := ob hf
  refine V_sld hX9 ht2 d_L_law__651 ?_
  refine V_aload_n d_L_law__652 rfl rfl ?_
  obtain ⟨q3, hq3, hf⟩ := ob hf
  refine B_callSH (s_L_walks hG hq3) (kc' := (K + 2)) (ks' := (KS + 12)) m_L_walks ks_RL_166 d_L_law__653 rfl (Nat.le_of_ble_eq_true rfl) ⟨rfl, rfl, (show K + 2 ≤ 500000 by omega), (show KS + 12 ≤ 5000000 by omega), Nat.le_of_ble_eq_true rfl⟩ (fun n => ?_)
  refine V_istore (ls' := [_, _, _, _, _, _, _]) d_L_law__656 rfl rfl ?_
  refine V_aload_n d_L_law__658 rfl rfl ?_
  refine V_aload_n d_L_law__659 rfl rfl ?_
  refine V_iload d_L_law__660 rfl ?_
  refine V_iconst (v := 1) d_L_law__662 ic_1 ?_
  refine V_iadd d_L_law__663 ?_
  obtain ⟨t4, ht4, hf⟩ := ob hf
  refine V_sld hX9 ht4 d_L_law__664 ?_
  refine V_aload_n d_L_law__665 rfl rfl ?_
  refine V_iload d_L_law__666 rfl ?_
  refine V_iconst (v := 2) d_L_law__668 ic_2 ?_
  refine V_iadd d_L_law__669 ?_
  obtain ⟨t5, ht5, hf⟩ := ob hf
  refine V_sld hX9 ht5 d_L_law__670 ?_
  obtain ⟨q6, hq6, hf⟩ := ob hf
  refine B_callV1 (s_X12_walks hG hq6) k_264 clX12 m_X12_walks kv_RL_168 d_L_law__671 rfl (Nat.le_of_ble_eq_true rfl) ⟨rfl, rfl, (show K + 2 ≤ 500000 by omega), (show KS + 12 ≤ 5000000 by omega), Nat.le_of_ble_eq_true rfl⟩ (fun n => ?_)
  refine V_istore (ls' := [_, _, _, _, _, _, _]) d_L_law__674 rfl rfl ?_
  refine V_aload_n d_L_law__676 rfl rfl ?_
  obtain ⟨t7, ht7, hf⟩ := ob hf
  refine B_callV1 (s_X12_thrown hG ht7) k_264 clX12 m_X12_thrown kv_RL_145 d_L_law__677 rfl (Nat.le_of_ble_eq_true rfl) ⟨rfl, rfl, (show K + 2 ≤ 500000 by omega), (show KS + 12 ≤ 5000000 by omega), Nat.le_of_ble_eq_true rfl⟩ (fun n => ?_)
  refine V_iload d_L_law__680 rfl ?_
  refine V_icmp_eq (tgt := 687) d_L_law__682 (by decide) (fun c682 => ?_) (fun c682 => ?_)
  · replace hf := iteT c682 hf
    refine V_iload d_L_law__687 rfl ?_
    refine V_if_ne (tgt := 704) d_L_law__689 (by decide) (fun c689 => ?_) (fun c689 => ?_)
    · replace hf := iteF c689 hf
      refine V_less (ls' := [some _, some _, some _, some _, some _, none, none]) ⟨rfl, rfl, rfl, rfl, rfl, trivial⟩ ?_
      exact s_L_law__j704 hG hX9 hKb hf hK
    · replace hf := iteT c689 hf
      refine V_aload_n d_L_law__692 rfl rfl ?_
      refine V_iconst (v := 0) d_L_law__693 ic_0 ?_
      obtain ⟨t8, ht8, hf⟩ := ob hf
      refine B_lald k_275 ht8 d_L_law__694 ?_
      refine V_iload d_L_law__695 rfl ?_
      refine V_i2l d_L_law__697 ?_
      refine V_lcmp d_L_law__698 ?_
      refine V_if_eq (tgt := 704) d_L_law__699 (by decide) (fun c699 => ?_) (fun c699 => ?_)
      · replace hf := iteT (lcT c699) hf
        refine V_less (ls' := [some _, some _, some _, some _, some _, none, none]) ⟨rfl, rfl, rfl, rfl, rfl, trivial⟩ ?_
        exact s_L_law__j704 hG hX9 hKb hf hK
      · replace hf := iteF (lcF c699) hf
        refine V_iconst (v := 0) d_L_law__702 ic_0 ?_
        cases hf
  · replace hf := iteF c682 hf
    refine V_iconst (v := 0) d_L_law__685 ic_0 ?_
    cases hf
theorem s_L_law__j760 {G : Gl} (hG : G.1.stackTraces = false) {C : Cx} {n b9 K KS : Nat} {μ : Mem} {b9L : Nat} {xs : (Nat → Int32)} {l4 : Int32} (hX9 : ScX G C b9 b9L xs) (hKb : K + 8 ≤ 500000 ∧ KS + 48 ≤ 5000000) {r : Mem} (hf : f_L_law__j760 μ b9L xs l4 = some r) (hK : ∀ n, V G C F_L_law_ 2708 [some (.ref b9), some (.ref (G.2.1 + 0)), some (.ref (G.2.1 + 264)), some (.ref (G.2.1 + 275)), some (.int l4), none, none] [] (pic G r) n (K + 8) (KS + 48)) : V G C F_L_law_ 760 [some (.ref b9), some (.ref (G.2.1 + 0)), some (.ref (G.2.1 + 264)), some (.ref (G.2.1 + 275)), some (.int l4), none, none] [] (pic G μ) n (K + 1) (KS + 6) := by
  unfold f_L_law__j760 at hf
  refine V_goto (tgt := 2708) d_L_law__760 (by decide) ?_
  refine V_widen (k2 := K + 8) (s2 := KS + 48) (by omega) (by omega) ?_
  refine V_less (ls' := [some _, some _, some _, some _, some _, none, none]) ⟨rfl, rfl, rfl, rfl, rfl, trivial⟩ ?_
  cases hf
  exact hK _
theorem s_L_law__j707 {G : Gl} (hG : G.1.stackTraces = false) {C : Cx} {n b9 K KS : Nat} {μ : Mem} {b9L : Nat} {xs : (Nat → Int32)} {l4 : Int32} (hX9 : ScX G C b9 b9L xs) (hKb : K + 8 ≤ 500000 ∧ KS + 48 ≤ 5000000) {r : Mem} (hf : f_L_law__j707 μ b9L xs l4 = some r) (hK : ∀ n, V G C F_L_law_ 2708 [some (.ref b9), some (.ref (G.2.1 + 0)), some (.ref (G.2.1 + 264)), some (.ref (G.2.1 + 275)), some (.int l4), none, none] [] (pic G r) n (K + 8) (KS + 48)) : V G C F_L_law_ 707 [some (.ref b9), some (.ref (G.2.1 + 0)), some (.ref (G.2.1 + 264)), some (.ref (G.2.1 + 275)), some (.int l4), none, none] [] (pic G μ) n (K + 0) (KS + 0) := by
  unfold f_L_law__j707 at hf
  refine V_aload_n d_L_law__707 rfl rfl ?_
  refine V_aload_n d_L_law__708 rfl rfl ?_
  refine V_iload d_L_law__709 rfl ?_
  refine V_iconst (v := 1) d_L_law__711 ic_1 ?_
  refine V_iadd d_L_law__712 ?_
  obtain ⟨t1, ht1, hf⟩ := ob hf
  refine V_sld hX9 ht1 d_L_law__713 ?_
  refine V_aload_n d_L_law__714 rfl rfl ?_
  obtain ⟨q2, hq2, hf⟩ := ob hf
  refine B_callSH (s_L_grows hG hq2) (kc' := (K + 1)) (ks' := (KS + 6)) m_L_grows ks_RL_169 d_L_law__715 rfl (Nat.le_of_ble_eq_true rfl) ⟨rfl, rfl, (show K + 1 ≤ 500000 by omega), (show KS + 6 ≤ 5000000 by omega), Nat.le_of_ble_eq_true rfl⟩ (fun n => ?_)
  refine V_istore (ls' := [_, _, _, _, _, _, _]) d_L_law__718 rfl rfl ?_
  refine V_aload_n d_L_law__720 rfl rfl ?_
  refine V_aload_n d_L_law__721 rfl rfl ?_
  refine V_iload d_L_law__722 rfl ?_
  refine V_iconst (v := 1) d_L_law__724 ic_1 ?_
  refine V_iadd d_L_law__725 ?_
  obtain ⟨t3, ht3, hf⟩ := ob hf
  refine V_sld hX9 ht3 d_L_law__726 ?_
  obtain ⟨q4, hq4, hf⟩ := ob hf
  refine B_callV1 (s_X12_grows hG hq4) k_264 clX12 m_X12_grows kv_RL_171 d_L_law__727 rfl (Nat.le_of_ble_eq_true rfl) ⟨rfl, rfl, (show K + 1 ≤ 500000 by omega), (show KS + 6 ≤ 5000000 by omega), Nat.le_of_ble_eq_true rfl⟩ (fun n => ?_)
  refine V_istore (ls' := [_, _, _, _, _, _, _]) d_L_law__730 rfl rfl ?_
  refine V_aload_n d_L_law__732 rfl rfl ?_
  obtain ⟨t5, ht5, hf⟩ := ob hf
  refine B_callV1 (s_X12_thrown hG ht5) k_264 clX12 m_X12_thrown kv_RL_145 d_L_law__733 rfl (Nat.le_of_ble_eq_true rfl) ⟨rfl, rfl, (show K + 1 ≤ 500000 by omega), (show KS + 6 ≤ 5000000 by omega), Nat.le_of_ble_eq_true rfl⟩ (fun n => ?_)
  refine V_iload d_L_law__736 rfl ?_
  refine V_icmp_eq (tgt := 743) d_L_law__738 (by decide) (fun c738 => ?_) (fun c738 => ?_)
  · replace hf := iteT c738 hf
    refine V_iload d_L_law__743 rfl ?_
    refine V_if_ne (tgt := 760) d_L_law__745 (by decide) (fun c745 => ?_) (fun c745 => ?_)
    · replace hf := iteF c745 hf
      refine V_less (ls' := [some _, some _, some _, some _, some _, none, none]) ⟨rfl, rfl, rfl, rfl, rfl, trivial⟩ ?_
      exact s_L_law__j760 hG hX9 hKb hf hK
    · replace hf := iteT c745 hf
      refine V_aload_n d_L_law__748 rfl rfl ?_
      refine V_iconst (v := 0) d_L_law__749 ic_0 ?_
      obtain ⟨t6, ht6, hf⟩ := ob hf
      refine B_lald k_275 ht6 d_L_law__750 ?_
      refine V_iload d_L_law__751 rfl ?_
      refine V_i2l d_L_law__753 ?_
      refine V_lcmp d_L_law__754 ?_
      refine V_if_eq (tgt := 760) d_L_law__755 (by decide) (fun c755 => ?_) (fun c755 => ?_)
      · replace hf := iteT (lcT c755) hf
        refine V_less (ls' := [some _, some _, some _, some _, some _, none, none]) ⟨rfl, rfl, rfl, rfl, rfl, trivial⟩ ?_
        exact s_L_law__j760 hG hX9 hKb hf hK
      · replace hf := iteF (lcF c755) hf
        refine V_iconst (v := 0) d_L_law__758 ic_0 ?_
        cases hf
  · replace hf := iteF c738 hf
    refine V_iconst (v := 0) d_L_law__741 ic_0 ?_
    cases hf
theorem s_L_law__j864 {G : Gl} (hG : G.1.stackTraces = false) {C : Cx} {n b9 K KS : Nat} {μ : Mem} {b9L : Nat} {xs : (Nat → Int32)} {l4 : Int32} (hX9 : ScX G C b9 b9L xs) (hKb : K + 8 ≤ 500000 ∧ KS + 48 ≤ 5000000) {r : Mem} (hf : f_L_law__j864 μ b9L xs l4 = some r) (hK : ∀ n, V G C F_L_law_ 2708 [some (.ref b9), some (.ref (G.2.1 + 0)), some (.ref (G.2.1 + 264)), some (.ref (G.2.1 + 275)), some (.int l4), none, none] [] (pic G r) n (K + 8) (KS + 48)) : V G C F_L_law_ 864 [some (.ref b9), some (.ref (G.2.1 + 0)), some (.ref (G.2.1 + 264)), some (.ref (G.2.1 + 275)), some (.int l4), none, none] [] (pic G μ) n (K + 4) (KS + 24) := by
  unfold f_L_law__j864 at hf
  refine V_goto (tgt := 2708) d_L_law__864 (by decide) ?_
  refine V_widen (k2 := K + 8) (s2 := KS + 48) (by omega) (by omega) ?_
  refine V_less (ls' := [some _, some _, some _, some _, some _, none, none]) ⟨rfl, rfl, rfl, rfl, rfl, trivial⟩ ?_
  cases hf
  exact hK _
theorem s_L_law__j763 {G : Gl} (hG : G.1.stackTraces = false) {C : Cx} {n b9 K KS : Nat} {μ : Mem} {b9L : Nat} {xs : (Nat → Int32)} {l4 : Int32} (hX9 : ScX G C b9 b9L xs) (hKb : K + 8 ≤ 500000 ∧ KS + 48 ≤ 5000000) {r : Mem} (hf : f_L_law__j763 μ b9L xs l4 = some r) (hK : ∀ n, V G C F_L_law_ 2708 [some (.ref b9), some (.ref (G.2.1 + 0)), some (.ref (G.2.1 + 264)), some (.ref (G.2.1 + 275)), some (.int l4), none, none] [] (pic G r) n (K + 8) (KS + 48)) : V G C F_L_law_ 763 [some (.ref b9), some (.ref (G.2.1 + 0)), some (.ref (G.2.1 + 264)), some (.ref (G.2.1 + 275)), some (.int l4), none, none] [] (pic G μ) n (K + 0) (KS + 0) := by
  unfold f_L_law__j763 at hf
  refine V_aload_n d_L_law__763 rfl rfl ?_
  refine V_aload_n d_L_law__764 rfl rfl ?_
  refine V_iload d_L_law__765 rfl ?_
  refine V_iconst (v := 1) d_L_law__767 ic_1 ?_
  refine V_iadd d_L_law__768 ?_
  obtain ⟨t1, ht1, hf⟩ := ob hf
  refine V_sld hX9 ht1 d_L_law__769 ?_
  refine V_aload_n d_L_law__770 rfl rfl ?_
  refine V_iload d_L_law__771 rfl ?_
  refine V_iconst (v := 2) d_L_law__773 ic_2 ?_
  refine V_iadd d_L_law__774 ?_
  obtain ⟨t2, ht2, hf⟩ := ob hf
  refine V_sld hX9 ht2 d_L_law__775 ?_
  refine V_aload_n d_L_law__776 rfl rfl ?_
  refine V_iload d_L_law__777 rfl ?_
  refine V_iconst (v := 3) d_L_law__779 ic_3 ?_
  refine V_iadd d_L_law__780 ?_
  obtain ⟨t3, ht3, hf⟩ := ob hf
  refine V_sld hX9 ht3 d_L_law__781 ?_
  refine V_aload_n d_L_law__782 rfl rfl ?_
  refine V_iload d_L_law__783 rfl ?_
  refine V_iconst (v := 4) d_L_law__785 ic_4 ?_
  refine V_iadd d_L_law__786 ?_
  obtain ⟨t4, ht4, hf⟩ := ob hf
  refine V_sld hX9 ht4 d_L_law__787 ?_
  refine V_aload_n d_L_law__788 rfl rfl ?_
  refine V_iload d_L_law__789 rfl ?_
  refine V_iconst (v := 5) d_L_law__791 ic_5 ?_
  refine V_iadd d_L_law__792 ?_
  obtain ⟨t5, ht5, hf⟩ := ob hf
  refine V_sld hX9 ht5 d_L_law__793 ?_
  refine V_aload_n d_L_law__794 rfl rfl ?_
  obtain ⟨q6, hq6, hf⟩ := ob hf
  refine B_callSH (s_L_lend hG hq6) (kc' := (K + 4)) (ks' := (KS + 24)) m_L_lend ks_RL_172 d_L_law__795 rfl (Nat.le_of_ble_eq_true rfl) ⟨rfl, rfl, (show K + 4 ≤ 500000 by omega), (show KS + 24 ≤ 5000000 by omega), Nat.le_of_ble_eq_true rfl⟩ (fun n => ?_)
  refine V_istore (ls' := [_, _, _, _, _, _, _]) d_L_law__798 rfl rfl ?_
  refine V_aload_n d_L_law__800 rfl rfl ?_
  refine V_aload_n d_L_law__801 rfl rfl ?_
  refine V_iload d_L_law__802 rfl ?_
  refine V_iconst (v := 1) d_L_law__804 ic_1 ?_
  refine V_iadd d_L_law__805 ?_
  obtain ⟨t7, ht7, hf⟩ := ob hf
  refine V_sld hX9 ht7 d_L_law__806 ?_
  refine V_aload_n d_L_law__807 rfl rfl ?_
  refine V_iload d_L_law__808 rfl ?_
  refine V_iconst (v := 2) d_L_law__810 ic_2 ?_
  refine V_iadd d_L_law__811 ?_
  obtain ⟨t8, ht8, hf⟩ := ob hf
  refine V_sld hX9 ht8 d_L_law__812 ?_
  refine V_aload_n d_L_law__813 rfl rfl ?_
  refine V_iload d_L_law__814 rfl ?_
  refine V_iconst (v := 3) d_L_law__816 ic_3 ?_
  refine V_iadd d_L_law__817 ?_
  obtain ⟨t9, ht9, hf⟩ := ob hf
  refine V_sld hX9 ht9 d_L_law__818 ?_
  refine V_aload_n d_L_law__819 rfl rfl ?_
  refine V_iload d_L_law__820 rfl ?_
  refine V_iconst (v := 4) d_L_law__822 ic_4 ?_
  refine V_iadd d_L_law__823 ?_
  obtain ⟨t10, ht10, hf⟩ := ob hf
  refine V_sld hX9 ht10 d_L_law__824 ?_
  refine V_aload_n d_L_law__825 rfl rfl ?_
  refine V_iload d_L_law__826 rfl ?_
  refine V_iconst (v := 5) d_L_law__828 ic_5 ?_
  refine V_iadd d_L_law__829 ?_
  obtain ⟨t11, ht11, hf⟩ := ob hf
  refine V_sld hX9 ht11 d_L_law__830 ?_
  obtain ⟨q12, hq12, hf⟩ := ob hf
  refine B_callV1 (s_X12_lend hG hq12) k_264 clX12 m_X12_lend kv_RL_175 d_L_law__831 rfl (Nat.le_of_ble_eq_true rfl) ⟨rfl, rfl, (show K + 4 ≤ 500000 by omega), (show KS + 24 ≤ 5000000 by omega), Nat.le_of_ble_eq_true rfl⟩ (fun n => ?_)
  refine V_istore (ls' := [_, _, _, _, _, _, _]) d_L_law__834 rfl rfl ?_
  refine V_aload_n d_L_law__836 rfl rfl ?_
  obtain ⟨t13, ht13, hf⟩ := ob hf
  refine B_callV1 (s_X12_thrown hG ht13) k_264 clX12 m_X12_thrown kv_RL_145 d_L_law__837 rfl (Nat.le_of_ble_eq_true rfl) ⟨rfl, rfl, (show K + 4 ≤ 500000 by omega), (show KS + 24 ≤ 5000000 by omega), Nat.le_of_ble_eq_true rfl⟩ (fun n => ?_)
  refine V_iload d_L_law__840 rfl ?_
  refine V_icmp_eq (tgt := 847) d_L_law__842 (by decide) (fun c842 => ?_) (fun c842 => ?_)
  · replace hf := iteT c842 hf
    refine V_iload d_L_law__847 rfl ?_
    refine V_if_ne (tgt := 864) d_L_law__849 (by decide) (fun c849 => ?_) (fun c849 => ?_)
    · replace hf := iteF c849 hf
      refine V_less (ls' := [some _, some _, some _, some _, some _, none, none]) ⟨rfl, rfl, rfl, rfl, rfl, trivial⟩ ?_
      exact s_L_law__j864 hG hX9 hKb hf hK
    · replace hf := iteT c849 hf
      refine V_aload_n d_L_law__852 rfl rfl ?_
      refine V_iconst (v := 0) d_L_law__853 ic_0 ?_
      obtain ⟨t14, ht14, hf⟩ := ob hf
      refine B_lald k_275 ht14 d_L_law__854 ?_
      refine V_iload d_L_law__855 rfl ?_
      refine V_i2l d_L_law__857 ?_
      refine V_lcmp d_L_law__858 ?_
      refine V_if_eq (tgt := 864) d_L_law__859 (by decide) (fun c859 => ?_) (fun c859 => ?_)
      · replace hf := iteT (lcT c859) hf
        refine V_less (ls' := [some _, some _, some _, some _, some _, none, none]) ⟨rfl, rfl, rfl, rfl, rfl, trivial⟩ ?_
        exact s_L_law__j864 hG hX9 hKb hf hK
      · replace hf := iteF (lcF c859) hf
        refine V_iconst (v := 0) d_L_law__862 ic_0 ?_
        cases hf
  · replace hf := iteF c842 hf
    refine V_iconst (v := 0) d_L_law__845 ic_0 ?_
    cases hf
theorem s_L_law__j920 {G : Gl} (hG : G.1.stackTraces = false) {C : Cx} {n b9 K KS : Nat} {μ : Mem} {b9L : Nat} {xs : (Nat → Int32)} {l4 : Int32} (hX9 : ScX G C b9 b9L xs) (hKb : K + 8 ≤ 500000 ∧ KS + 48 ≤ 5000000) {r : Mem} (hf : f_L_law__j920 μ b9L xs l4 = some r) (hK : ∀ n, V G C F_L_law_ 2708 [some (.ref b9), some (.ref (G.2.1 + 0)), some (.ref (G.2.1 + 264)), some (.ref (G.2.1 + 275)), some (.int l4), none, none] [] (pic G r) n (K + 8) (KS + 48)) : V G C F_L_law_ 920 [some (.ref b9), some (.ref (G.2.1 + 0)), some (.ref (G.2.1 + 264)), some (.ref (G.2.1 + 275)), some (.int l4), none, none] [] (pic G μ) n (K + 2) (KS + 12) := by
  unfold f_L_law__j920 at hf
  refine V_goto (tgt := 2708) d_L_law__920 (by decide) ?_
  refine V_widen (k2 := K + 8) (s2 := KS + 48) (by omega) (by omega) ?_
  refine V_less (ls' := [some _, some _, some _, some _, some _, none, none]) ⟨rfl, rfl, rfl, rfl, rfl, trivial⟩ ?_
  cases hf
  exact hK _
theorem s_L_law__j867 {G : Gl} (hG : G.1.stackTraces = false) {C : Cx} {n b9 K KS : Nat} {μ : Mem} {b9L : Nat} {xs : (Nat → Int32)} {l4 : Int32} (hX9 : ScX G C b9 b9L xs) (hKb : K + 8 ≤ 500000 ∧ KS + 48 ≤ 5000000) {r : Mem} (hf : f_L_law__j867 μ b9L xs l4 = some r) (hK : ∀ n, V G C F_L_law_ 2708 [some (.ref b9), some (.ref (G.2.1 + 0)), some (.ref (G.2.1 + 264)), some (.ref (G.2.1 + 275)), some (.int l4), none, none] [] (pic G r) n (K + 8) (KS + 48)) : V G C F_L_law_ 867 [some (.ref b9), some (.ref (G.2.1 + 0)), some (.ref (G.2.1 + 264)), some (.ref (G.2.1 + 275)), some (.int l4), none, none] [] (pic G μ) n (K + 0) (KS + 0) := by
  unfold f_L_law__j867 at hf
  refine V_aload_n d_L_law__867 rfl rfl ?_
  refine V_aload_n d_L_law__868 rfl rfl ?_
  refine V_iload d_L_law__869 rfl ?_
  refine V_iconst (v := 1) d_L_law__871 ic_1 ?_
  refine V_iadd d_L_law__872 ?_
  obtain ⟨t1, ht1, hf⟩ := ob hf
  refine V_sld hX9 ht1 d_L_law__873 ?_
  refine V_aload_n d_L_law__874 rfl rfl ?_
  obtain ⟨q2, hq2, hf⟩ := ob hf
  refine B_callSH (s_L_pay hG hq2) (kc' := (K + 2)) (ks' := (KS + 12)) m_L_pay ks_RL_176 d_L_law__875 rfl (Nat.le_of_ble_eq_true rfl) ⟨rfl, rfl, (show K + 2 ≤ 500000 by omega), (show KS + 12 ≤ 5000000 by omega), Nat.le_of_ble_eq_true rfl⟩ (fun n => ?_)
  refine V_istore (ls' := [_, _, _, _, _, _, _]) d_L_law__878 rfl rfl ?_
  refine V_aload_n d_L_law__880 rfl rfl ?_
  refine V_aload_n d_L_law__881 rfl rfl ?_
  refine V_iload d_L_law__882 rfl ?_
  refine V_iconst (v := 1) d_L_law__884 ic_1 ?_
  refine V_iadd d_L_law__885 ?_
  obtain ⟨t3, ht3, hf⟩ := ob hf
  refine V_sld hX9 ht3 d_L_law__886 ?_
  obtain ⟨q4, hq4, hf⟩ := ob hf
  refine B_callV1 (s_X12_pay hG hq4) k_264 clX12 m_X12_pay kv_RL_178 d_L_law__887 rfl (Nat.le_of_ble_eq_true rfl) ⟨rfl, rfl, (show K + 2 ≤ 500000 by omega), (show KS + 12 ≤ 5000000 by omega), Nat.le_of_ble_eq_true rfl⟩ (fun n => ?_)
  refine V_istore (ls' := [_, _, _, _, _, _, _]) d_L_law__890 rfl rfl ?_
  refine V_aload_n d_L_law__892 rfl rfl ?_
  obtain ⟨t5, ht5, hf⟩ := ob hf
  refine B_callV1 (s_X12_thrown hG ht5) k_264 clX12 m_X12_thrown kv_RL_145 d_L_law__893 rfl (Nat.le_of_ble_eq_true rfl) ⟨rfl, rfl, (show K + 2 ≤ 500000 by omega), (show KS + 12 ≤ 5000000 by omega), Nat.le_of_ble_eq_true rfl⟩ (fun n => ?_)
  refine V_iload d_L_law__896 rfl ?_
  refine V_icmp_eq (tgt := 903) d_L_law__898 (by decide) (fun c898 => ?_) (fun c898 => ?_)
  · replace hf := iteT c898 hf
    refine V_iload d_L_law__903 rfl ?_
    refine V_if_ne (tgt := 920) d_L_law__905 (by decide) (fun c905 => ?_) (fun c905 => ?_)
    · replace hf := iteF c905 hf
      refine V_less (ls' := [some _, some _, some _, some _, some _, none, none]) ⟨rfl, rfl, rfl, rfl, rfl, trivial⟩ ?_
      exact s_L_law__j920 hG hX9 hKb hf hK
    · replace hf := iteT c905 hf
      refine V_aload_n d_L_law__908 rfl rfl ?_
      refine V_iconst (v := 0) d_L_law__909 ic_0 ?_
      obtain ⟨t6, ht6, hf⟩ := ob hf
      refine B_lald k_275 ht6 d_L_law__910 ?_
      refine V_iload d_L_law__911 rfl ?_
      refine V_i2l d_L_law__913 ?_
      refine V_lcmp d_L_law__914 ?_
      refine V_if_eq (tgt := 920) d_L_law__915 (by decide) (fun c915 => ?_) (fun c915 => ?_)
      · replace hf := iteT (lcT c915) hf
        refine V_less (ls' := [some _, some _, some _, some _, some _, none, none]) ⟨rfl, rfl, rfl, rfl, rfl, trivial⟩ ?_
        exact s_L_law__j920 hG hX9 hKb hf hK
      · replace hf := iteF (lcF c915) hf
        refine V_iconst (v := 0) d_L_law__918 ic_0 ?_
        cases hf
  · replace hf := iteF c898 hf
    refine V_iconst (v := 0) d_L_law__901 ic_0 ?_
    cases hf
theorem s_L_law__j988 {G : Gl} (hG : G.1.stackTraces = false) {C : Cx} {n b9 K KS : Nat} {μ : Mem} {b9L : Nat} {xs : (Nat → Int32)} {l4 : Int32} (hX9 : ScX G C b9 b9L xs) (hKb : K + 8 ≤ 500000 ∧ KS + 48 ≤ 5000000) {r : Mem} (hf : f_L_law__j988 μ b9L xs l4 = some r) (hK : ∀ n, V G C F_L_law_ 2708 [some (.ref b9), some (.ref (G.2.1 + 0)), some (.ref (G.2.1 + 264)), some (.ref (G.2.1 + 275)), some (.int l4), none, none] [] (pic G r) n (K + 8) (KS + 48)) : V G C F_L_law_ 988 [some (.ref b9), some (.ref (G.2.1 + 0)), some (.ref (G.2.1 + 264)), some (.ref (G.2.1 + 275)), some (.int l4), none, none] [] (pic G μ) n (K + 4) (KS + 24) := by
  unfold f_L_law__j988 at hf
  refine V_goto (tgt := 2708) d_L_law__988 (by decide) ?_
  refine V_widen (k2 := K + 8) (s2 := KS + 48) (by omega) (by omega) ?_
  refine V_less (ls' := [some _, some _, some _, some _, some _, none, none]) ⟨rfl, rfl, rfl, rfl, rfl, trivial⟩ ?_
  cases hf
  exact hK _
theorem s_L_law__j923 {G : Gl} (hG : G.1.stackTraces = false) {C : Cx} {n b9 K KS : Nat} {μ : Mem} {b9L : Nat} {xs : (Nat → Int32)} {l4 : Int32} (hX9 : ScX G C b9 b9L xs) (hKb : K + 8 ≤ 500000 ∧ KS + 48 ≤ 5000000) {r : Mem} (hf : f_L_law__j923 μ b9L xs l4 = some r) (hK : ∀ n, V G C F_L_law_ 2708 [some (.ref b9), some (.ref (G.2.1 + 0)), some (.ref (G.2.1 + 264)), some (.ref (G.2.1 + 275)), some (.int l4), none, none] [] (pic G r) n (K + 8) (KS + 48)) : V G C F_L_law_ 923 [some (.ref b9), some (.ref (G.2.1 + 0)), some (.ref (G.2.1 + 264)), some (.ref (G.2.1 + 275)), some (.int l4), none, none] [] (pic G μ) n (K + 0) (KS + 0) := by
  unfold f_L_law__j923 at hf
  refine V_aload_n d_L_law__923 rfl rfl ?_
  refine V_aload_n d_L_law__924 rfl rfl ?_
  refine V_iload d_L_law__925 rfl ?_
  refine V_iconst (v := 1) d_L_law__927 ic_1 ?_
  refine V_iadd d_L_law__928 ?_
  obtain ⟨t1, ht1, hf⟩ := ob hf
  refine V_sld hX9 ht1 d_L_law__929 ?_
  refine V_aload_n d_L_law__930 rfl rfl ?_
  refine V_iload d_L_law__931 rfl ?_
  refine V_iconst (v := 2) d_L_law__933 ic_2 ?_
  refine V_iadd d_L_law__934 ?_
  obtain ⟨t2, ht2, hf⟩ := ob hf
  refine V_sld hX9 ht2 d_L_law__935 ?_
  refine V_aload_n d_L_law__936 rfl rfl ?_
  obtain ⟨q3, hq3, hf⟩ := ob hf
  refine B_callSH (s_L_surety hG hq3) (kc' := (K + 4)) (ks' := (KS + 24)) m_L_surety ks_RL_179 d_L_law__937 rfl (Nat.le_of_ble_eq_true rfl) ⟨rfl, rfl, (show K + 4 ≤ 500000 by omega), (show KS + 24 ≤ 5000000 by omega), Nat.le_of_ble_eq_true rfl⟩ (fun n => ?_)
  refine V_istore (ls' := [_, _, _, _, _, _, _]) d_L_law__940 rfl rfl ?_
  refine V_aload_n d_L_law__942 rfl rfl ?_
  refine V_aload_n d_L_law__943 rfl rfl ?_
  refine V_iload d_L_law__944 rfl ?_
  refine V_iconst (v := 1) d_L_law__946 ic_1 ?_
  refine V_iadd d_L_law__947 ?_
  obtain ⟨t4, ht4, hf⟩ := ob hf
  refine V_sld hX9 ht4 d_L_law__948 ?_
  refine V_aload_n d_L_law__949 rfl rfl ?_
  refine V_iload d_L_law__950 rfl ?_
  refine V_iconst (v := 2) d_L_law__952 ic_2 ?_
  refine V_iadd d_L_law__953 ?_
  obtain ⟨t5, ht5, hf⟩ := ob hf
  refine V_sld hX9 ht5 d_L_law__954 ?_
  obtain ⟨q6, hq6, hf⟩ := ob hf
  refine B_callV1 (s_X12_surety hG hq6) k_264 clX12 m_X12_surety kv_RL_181 d_L_law__955 rfl (Nat.le_of_ble_eq_true rfl) ⟨rfl, rfl, (show K + 4 ≤ 500000 by omega), (show KS + 24 ≤ 5000000 by omega), Nat.le_of_ble_eq_true rfl⟩ (fun n => ?_)
  refine V_istore (ls' := [_, _, _, _, _, _, _]) d_L_law__958 rfl rfl ?_
  refine V_aload_n d_L_law__960 rfl rfl ?_
  obtain ⟨t7, ht7, hf⟩ := ob hf
  refine B_callV1 (s_X12_thrown hG ht7) k_264 clX12 m_X12_thrown kv_RL_145 d_L_law__961 rfl (Nat.le_of_ble_eq_true rfl) ⟨rfl, rfl, (show K + 4 ≤ 500000 by omega), (show KS + 24 ≤ 5000000 by omega), Nat.le_of_ble_eq_true rfl⟩ (fun n => ?_)
  refine V_iload d_L_law__964 rfl ?_
  refine V_icmp_eq (tgt := 971) d_L_law__966 (by decide) (fun c966 => ?_) (fun c966 => ?_)
  · replace hf := iteT c966 hf
    refine V_iload d_L_law__971 rfl ?_
    refine V_if_ne (tgt := 988) d_L_law__973 (by decide) (fun c973 => ?_) (fun c973 => ?_)
    · replace hf := iteF c973 hf
      refine V_less (ls' := [some _, some _, some _, some _, some _, none, none]) ⟨rfl, rfl, rfl, rfl, rfl, trivial⟩ ?_
      exact s_L_law__j988 hG hX9 hKb hf hK
    · replace hf := iteT c973 hf
      refine V_aload_n d_L_law__976 rfl rfl ?_
      refine V_iconst (v := 0) d_L_law__977 ic_0 ?_
      obtain ⟨t8, ht8, hf⟩ := ob hf
      refine B_lald k_275 ht8 d_L_law__978 ?_
      refine V_iload d_L_law__979 rfl ?_
      refine V_i2l d_L_law__981 ?_
      refine V_lcmp d_L_law__982 ?_
      refine V_if_eq (tgt := 988) d_L_law__983 (by decide) (fun c983 => ?_) (fun c983 => ?_)
      · replace hf := iteT (lcT c983) hf
        refine V_less (ls' := [some _, some _, some _, some _, some _, none, none]) ⟨rfl, rfl, rfl, rfl, rfl, trivial⟩ ?_
        exact s_L_law__j988 hG hX9 hKb hf hK
      · replace hf := iteF (lcF c983) hf
        refine V_iconst (v := 0) d_L_law__986 ic_0 ?_
        cases hf
  · replace hf := iteF c966 hf
    refine V_iconst (v := 0) d_L_law__969 ic_0 ?_
    cases hf
theorem s_L_law__j1056 {G : Gl} (hG : G.1.stackTraces = false) {C : Cx} {n b9 K KS : Nat} {μ : Mem} {b9L : Nat} {xs : (Nat → Int32)} {l4 : Int32} (hX9 : ScX G C b9 b9L xs) (hKb : K + 8 ≤ 500000 ∧ KS + 48 ≤ 5000000) {r : Mem} (hf : f_L_law__j1056 μ b9L xs l4 = some r) (hK : ∀ n, V G C F_L_law_ 2708 [some (.ref b9), some (.ref (G.2.1 + 0)), some (.ref (G.2.1 + 264)), some (.ref (G.2.1 + 275)), some (.int l4), none, none] [] (pic G r) n (K + 8) (KS + 48)) : V G C F_L_law_ 1056 [some (.ref b9), some (.ref (G.2.1 + 0)), some (.ref (G.2.1 + 264)), some (.ref (G.2.1 + 275)), some (.int l4), none, none] [] (pic G μ) n (K + 5) (KS + 30) := by
  unfold f_L_law__j1056 at hf
  refine V_goto (tgt := 2708) d_L_law__1056 (by decide) ?_
  refine V_widen (k2 := K + 8) (s2 := KS + 48) (by omega) (by omega) ?_
  refine V_less (ls' := [some _, some _, some _, some _, some _, none, none]) ⟨rfl, rfl, rfl, rfl, rfl, trivial⟩ ?_
  cases hf
  exact hK _
theorem s_L_law__j991 {G : Gl} (hG : G.1.stackTraces = false) {C : Cx} {n b9 K KS : Nat} {μ : Mem} {b9L : Nat} {xs : (Nat → Int32)} {l4 : Int32} (hX9 : ScX G C b9 b9L xs) (hKb : K + 8 ≤ 500000 ∧ KS + 48 ≤ 5000000) {r : Mem} (hf : f_L_law__j991 μ b9L xs l4 = some r) (hK : ∀ n, V G C F_L_law_ 2708 [some (.ref b9), some (.ref (G.2.1 + 0)), some (.ref (G.2.1 + 264)), some (.ref (G.2.1 + 275)), some (.int l4), none, none] [] (pic G r) n (K + 8) (KS + 48)) : V G C F_L_law_ 991 [some (.ref b9), some (.ref (G.2.1 + 0)), some (.ref (G.2.1 + 264)), some (.ref (G.2.1 + 275)), some (.int l4), none, none] [] (pic G μ) n (K + 0) (KS + 0) := by
  unfold f_L_law__j991 at hf
  refine V_aload_n d_L_law__991 rfl rfl ?_
  refine V_aload_n d_L_law__992 rfl rfl ?_
  refine V_iload d_L_law__993 rfl ?_
  refine V_iconst (v := 1) d_L_law__995 ic_1 ?_
  refine V_iadd d_L_law__996 ?_
  obtain ⟨t1, ht1, hf⟩ := ob hf
  refine V_sld hX9 ht1 d_L_law__997 ?_
  refine V_aload_n d_L_law__998 rfl rfl ?_
  refine V_iload d_L_law__999 rfl ?_
  refine V_iconst (v := 2) d_L_law__1001 ic_2 ?_
  refine V_iadd d_L_law__1002 ?_
  obtain ⟨t2, ht2, hf⟩ := ob hf
  refine V_sld hX9 ht2 d_L_law__1003 ?_
  refine V_aload_n d_L_law__1004 rfl rfl ?_
  obtain ⟨q3, hq3, hf⟩ := ob hf
  refine B_callSH (s_L_give hG hq3) (kc' := (K + 5)) (ks' := (KS + 30)) m_L_give ks_RL_182 d_L_law__1005 rfl (Nat.le_of_ble_eq_true rfl) ⟨rfl, rfl, (show K + 5 ≤ 500000 by omega), (show KS + 30 ≤ 5000000 by omega), Nat.le_of_ble_eq_true rfl⟩ (fun n => ?_)
  refine V_istore (ls' := [_, _, _, _, _, _, _]) d_L_law__1008 rfl rfl ?_
  refine V_aload_n d_L_law__1010 rfl rfl ?_
  refine V_aload_n d_L_law__1011 rfl rfl ?_
  refine V_iload d_L_law__1012 rfl ?_
  refine V_iconst (v := 1) d_L_law__1014 ic_1 ?_
  refine V_iadd d_L_law__1015 ?_
  obtain ⟨t4, ht4, hf⟩ := ob hf
  refine V_sld hX9 ht4 d_L_law__1016 ?_
  refine V_aload_n d_L_law__1017 rfl rfl ?_
  refine V_iload d_L_law__1018 rfl ?_
  refine V_iconst (v := 2) d_L_law__1020 ic_2 ?_
  refine V_iadd d_L_law__1021 ?_
  obtain ⟨t5, ht5, hf⟩ := ob hf
  refine V_sld hX9 ht5 d_L_law__1022 ?_
  obtain ⟨q6, hq6, hf⟩ := ob hf
  refine B_callV1 (s_X12_give hG hq6) k_264 clX12 m_X12_give kv_RL_184 d_L_law__1023 rfl (Nat.le_of_ble_eq_true rfl) ⟨rfl, rfl, (show K + 5 ≤ 500000 by omega), (show KS + 30 ≤ 5000000 by omega), Nat.le_of_ble_eq_true rfl⟩ (fun n => ?_)
  refine V_istore (ls' := [_, _, _, _, _, _, _]) d_L_law__1026 rfl rfl ?_
  refine V_aload_n d_L_law__1028 rfl rfl ?_
  obtain ⟨t7, ht7, hf⟩ := ob hf
  refine B_callV1 (s_X12_thrown hG ht7) k_264 clX12 m_X12_thrown kv_RL_145 d_L_law__1029 rfl (Nat.le_of_ble_eq_true rfl) ⟨rfl, rfl, (show K + 5 ≤ 500000 by omega), (show KS + 30 ≤ 5000000 by omega), Nat.le_of_ble_eq_true rfl⟩ (fun n => ?_)
  refine V_iload d_L_law__1032 rfl ?_
  refine V_icmp_eq (tgt := 1039) d_L_law__1034 (by decide) (fun c1034 => ?_) (fun c1034 => ?_)
  · replace hf := iteT c1034 hf
    refine V_iload d_L_law__1039 rfl ?_
    refine V_if_ne (tgt := 1056) d_L_law__1041 (by decide) (fun c1041 => ?_) (fun c1041 => ?_)
    · replace hf := iteF c1041 hf
      refine V_less (ls' := [some _, some _, some _, some _, some _, none, none]) ⟨rfl, rfl, rfl, rfl, rfl, trivial⟩ ?_
      exact s_L_law__j1056 hG hX9 hKb hf hK
    · replace hf := iteT c1041 hf
      refine V_aload_n d_L_law__1044 rfl rfl ?_
      refine V_iconst (v := 0) d_L_law__1045 ic_0 ?_
      obtain ⟨t8, ht8, hf⟩ := ob hf
      refine B_lald k_275 ht8 d_L_law__1046 ?_
      refine V_iload d_L_law__1047 rfl ?_
      refine V_i2l d_L_law__1049 ?_
      refine V_lcmp d_L_law__1050 ?_
      refine V_if_eq (tgt := 1056) d_L_law__1051 (by decide) (fun c1051 => ?_) (fun c1051 => ?_)
      · replace hf := iteT (lcT c1051) hf
        refine V_less (ls' := [some _, some _, some _, some _, some _, none, none]) ⟨rfl, rfl, rfl, rfl, rfl, trivial⟩ ?_
        exact s_L_law__j1056 hG hX9 hKb hf hK
      · replace hf := iteF (lcF c1051) hf
        refine V_iconst (v := 0) d_L_law__1054 ic_0 ?_
        cases hf
  · replace hf := iteF c1034 hf
    refine V_iconst (v := 0) d_L_law__1037 ic_0 ?_
    cases hf
theorem s_L_law__j1124 {G : Gl} (hG : G.1.stackTraces = false) {C : Cx} {n b9 K KS : Nat} {μ : Mem} {b9L : Nat} {xs : (Nat → Int32)} {l4 : Int32} (hX9 : ScX G C b9 b9L xs) (hKb : K + 8 ≤ 500000 ∧ KS + 48 ≤ 5000000) {r : Mem} (hf : f_L_law__j1124 μ b9L xs l4 = some r) (hK : ∀ n, V G C F_L_law_ 2708 [some (.ref b9), some (.ref (G.2.1 + 0)), some (.ref (G.2.1 + 264)), some (.ref (G.2.1 + 275)), some (.int l4), none, none] [] (pic G r) n (K + 8) (KS + 48)) : V G C F_L_law_ 1124 [some (.ref b9), some (.ref (G.2.1 + 0)), some (.ref (G.2.1 + 264)), some (.ref (G.2.1 + 275)), some (.int l4), none, none] [] (pic G μ) n (K + 2) (KS + 12) := by
  unfold f_L_law__j1124 at hf
  refine V_goto (tgt := 2708) d_L_law__1124 (by decide) ?_
  refine V_widen (k2 := K + 8) (s2 := KS + 48) (by omega) (by omega) ?_
  refine V_less (ls' := [some _, some _, some _, some _, some _, none, none]) ⟨rfl, rfl, rfl, rfl, rfl, trivial⟩ ?_
  cases hf
  exact hK _
theorem s_L_law__j1059 {G : Gl} (hG : G.1.stackTraces = false) {C : Cx} {n b9 K KS : Nat} {μ : Mem} {b9L : Nat} {xs : (Nat → Int32)} {l4 : Int32} (hX9 : ScX G C b9 b9L xs) (hKb : K + 8 ≤ 500000 ∧ KS + 48 ≤ 5000000) {r : Mem} (hf : f_L_law__j1059 μ b9L xs l4 = some r) (hK : ∀ n, V G C F_L_law_ 2708 [some (.ref b9), some (.ref (G.2.1 + 0)), some (.ref (G.2.1 + 264)), some (.ref (G.2.1 + 275)), some (.int l4), none, none] [] (pic G r) n (K + 8) (KS + 48)) : V G C F_L_law_ 1059 [some (.ref b9), some (.ref (G.2.1 + 0)), some (.ref (G.2.1 + 264)), some (.ref (G.2.1 + 275)), some (.int l4), none, none] [] (pic G μ) n (K + 0) (KS + 0) := by
  unfold f_L_law__j1059 at hf
  refine V_aload_n d_L_law__1059 rfl rfl ?_
  refine V_aload_n d_L_law__1060 rfl rfl ?_
  refine V_iload d_L_law__1061 rfl ?_
  refine V_iconst (v := 1) d_L_law__1063 ic_1 ?_
  refine V_iadd d_L_law__1064 ?_
  obtain ⟨t1, ht1, hf⟩ := ob hf
  refine V_sld hX9 ht1 d_L_law__1065 ?_
  refine V_aload_n d_L_law__1066 rfl rfl ?_
  refine V_iload d_L_law__1067 rfl ?_
  refine V_iconst (v := 2) d_L_law__1069 ic_2 ?_
  refine V_iadd d_L_law__1070 ?_
  obtain ⟨t2, ht2, hf⟩ := ob hf
  refine V_sld hX9 ht2 d_L_law__1071 ?_
  refine V_aload_n d_L_law__1072 rfl rfl ?_
  obtain ⟨q3, hq3, hf⟩ := ob hf
  refine B_callSH (s_L_goal hG hq3) (kc' := (K + 2)) (ks' := (KS + 12)) m_L_goal ks_RL_185 d_L_law__1073 rfl (Nat.le_of_ble_eq_true rfl) ⟨rfl, rfl, (show K + 2 ≤ 500000 by omega), (show KS + 12 ≤ 5000000 by omega), Nat.le_of_ble_eq_true rfl⟩ (fun n => ?_)
  refine V_istore (ls' := [_, _, _, _, _, _, _]) d_L_law__1076 rfl rfl ?_
  refine V_aload_n d_L_law__1078 rfl rfl ?_
  refine V_aload_n d_L_law__1079 rfl rfl ?_
  refine V_iload d_L_law__1080 rfl ?_
  refine V_iconst (v := 1) d_L_law__1082 ic_1 ?_
  refine V_iadd d_L_law__1083 ?_
  obtain ⟨t4, ht4, hf⟩ := ob hf
  refine V_sld hX9 ht4 d_L_law__1084 ?_
  refine V_aload_n d_L_law__1085 rfl rfl ?_
  refine V_iload d_L_law__1086 rfl ?_
  refine V_iconst (v := 2) d_L_law__1088 ic_2 ?_
  refine V_iadd d_L_law__1089 ?_
  obtain ⟨t5, ht5, hf⟩ := ob hf
  refine V_sld hX9 ht5 d_L_law__1090 ?_
  obtain ⟨q6, hq6, hf⟩ := ob hf
  refine B_callV1 (s_X12_goal hG hq6) k_264 clX12 m_X12_goal kv_RL_187 d_L_law__1091 rfl (Nat.le_of_ble_eq_true rfl) ⟨rfl, rfl, (show K + 2 ≤ 500000 by omega), (show KS + 12 ≤ 5000000 by omega), Nat.le_of_ble_eq_true rfl⟩ (fun n => ?_)
  refine V_istore (ls' := [_, _, _, _, _, _, _]) d_L_law__1094 rfl rfl ?_
  refine V_aload_n d_L_law__1096 rfl rfl ?_
  obtain ⟨t7, ht7, hf⟩ := ob hf
  refine B_callV1 (s_X12_thrown hG ht7) k_264 clX12 m_X12_thrown kv_RL_145 d_L_law__1097 rfl (Nat.le_of_ble_eq_true rfl) ⟨rfl, rfl, (show K + 2 ≤ 500000 by omega), (show KS + 12 ≤ 5000000 by omega), Nat.le_of_ble_eq_true rfl⟩ (fun n => ?_)
  refine V_iload d_L_law__1100 rfl ?_
  refine V_icmp_eq (tgt := 1107) d_L_law__1102 (by decide) (fun c1102 => ?_) (fun c1102 => ?_)
  · replace hf := iteT c1102 hf
    refine V_iload d_L_law__1107 rfl ?_
    refine V_if_ne (tgt := 1124) d_L_law__1109 (by decide) (fun c1109 => ?_) (fun c1109 => ?_)
    · replace hf := iteF c1109 hf
      refine V_less (ls' := [some _, some _, some _, some _, some _, none, none]) ⟨rfl, rfl, rfl, rfl, rfl, trivial⟩ ?_
      exact s_L_law__j1124 hG hX9 hKb hf hK
    · replace hf := iteT c1109 hf
      refine V_aload_n d_L_law__1112 rfl rfl ?_
      refine V_iconst (v := 0) d_L_law__1113 ic_0 ?_
      obtain ⟨t8, ht8, hf⟩ := ob hf
      refine B_lald k_275 ht8 d_L_law__1114 ?_
      refine V_iload d_L_law__1115 rfl ?_
      refine V_i2l d_L_law__1117 ?_
      refine V_lcmp d_L_law__1118 ?_
      refine V_if_eq (tgt := 1124) d_L_law__1119 (by decide) (fun c1119 => ?_) (fun c1119 => ?_)
      · replace hf := iteT (lcT c1119) hf
        refine V_less (ls' := [some _, some _, some _, some _, some _, none, none]) ⟨rfl, rfl, rfl, rfl, rfl, trivial⟩ ?_
        exact s_L_law__j1124 hG hX9 hKb hf hK
      · replace hf := iteF (lcF c1119) hf
        refine V_iconst (v := 0) d_L_law__1122 ic_0 ?_
        cases hf
  · replace hf := iteF c1102 hf
    refine V_iconst (v := 0) d_L_law__1105 ic_0 ?_
    cases hf
theorem s_L_law__j1180 {G : Gl} (hG : G.1.stackTraces = false) {C : Cx} {n b9 K KS : Nat} {μ : Mem} {b9L : Nat} {xs : (Nat → Int32)} {l4 : Int32} (hX9 : ScX G C b9 b9L xs) (hKb : K + 8 ≤ 500000 ∧ KS + 48 ≤ 5000000) {r : Mem} (hf : f_L_law__j1180 μ b9L xs l4 = some r) (hK : ∀ n, V G C F_L_law_ 2708 [some (.ref b9), some (.ref (G.2.1 + 0)), some (.ref (G.2.1 + 264)), some (.ref (G.2.1 + 275)), some (.int l4), none, none] [] (pic G r) n (K + 8) (KS + 48)) : V G C F_L_law_ 1180 [some (.ref b9), some (.ref (G.2.1 + 0)), some (.ref (G.2.1 + 264)), some (.ref (G.2.1 + 275)), some (.int l4), none, none] [] (pic G μ) n (K + 1) (KS + 6) := by
  unfold f_L_law__j1180 at hf
  refine V_goto (tgt := 2708) d_L_law__1180 (by decide) ?_
  refine V_widen (k2 := K + 8) (s2 := KS + 48) (by omega) (by omega) ?_
  refine V_less (ls' := [some _, some _, some _, some _, some _, none, none]) ⟨rfl, rfl, rfl, rfl, rfl, trivial⟩ ?_
  cases hf
  exact hK _
theorem s_L_law__j1127 {G : Gl} (hG : G.1.stackTraces = false) {C : Cx} {n b9 K KS : Nat} {μ : Mem} {b9L : Nat} {xs : (Nat → Int32)} {l4 : Int32} (hX9 : ScX G C b9 b9L xs) (hKb : K + 8 ≤ 500000 ∧ KS + 48 ≤ 5000000) {r : Mem} (hf : f_L_law__j1127 μ b9L xs l4 = some r) (hK : ∀ n, V G C F_L_law_ 2708 [some (.ref b9), some (.ref (G.2.1 + 0)), some (.ref (G.2.1 + 264)), some (.ref (G.2.1 + 275)), some (.int l4), none, none] [] (pic G r) n (K + 8) (KS + 48)) : V G C F_L_law_ 1127 [some (.ref b9), some (.ref (G.2.1 + 0)), some (.ref (G.2.1 + 264)), some (.ref (G.2.1 + 275)), some (.int l4), none, none] [] (pic G μ) n (K + 0) (KS + 0) := by
  unfold f_L_law__j1127 at hf
  refine V_aload_n d_L_law__1127 rfl rfl ?_
  refine V_aload_n d_L_law__1128 rfl rfl ?_
  refine V_iload d_L_law__1129 rfl ?_
  refine V_iconst (v := 1) d_L_law__1131 ic_1 ?_
  refine V_iadd d_L_law__1132 ?_
  obtain ⟨t1, ht1, hf⟩ := ob hf
  refine V_sld hX9 ht1 d_L_law__1133 ?_
  refine V_aload_n d_L_law__1134 rfl rfl ?_
  obtain ⟨q2, hq2, hf⟩ := ob hf
  refine B_callSH (s_L_rest hG hq2) (kc' := (K + 1)) (ks' := (KS + 6)) m_L_rest ks_RL_188 d_L_law__1135 rfl (Nat.le_of_ble_eq_true rfl) ⟨rfl, rfl, (show K + 1 ≤ 500000 by omega), (show KS + 6 ≤ 5000000 by omega), Nat.le_of_ble_eq_true rfl⟩ (fun n => ?_)
  refine V_istore (ls' := [_, _, _, _, _, _, _]) d_L_law__1138 rfl rfl ?_
  refine V_aload_n d_L_law__1140 rfl rfl ?_
  refine V_aload_n d_L_law__1141 rfl rfl ?_
  refine V_iload d_L_law__1142 rfl ?_
  refine V_iconst (v := 1) d_L_law__1144 ic_1 ?_
  refine V_iadd d_L_law__1145 ?_
  obtain ⟨t3, ht3, hf⟩ := ob hf
  refine V_sld hX9 ht3 d_L_law__1146 ?_
  obtain ⟨q4, hq4, hf⟩ := ob hf
  refine B_callV1 (s_X12_rest hG hq4) k_264 clX12 m_X12_rest kv_RL_190 d_L_law__1147 rfl (Nat.le_of_ble_eq_true rfl) ⟨rfl, rfl, (show K + 1 ≤ 500000 by omega), (show KS + 6 ≤ 5000000 by omega), Nat.le_of_ble_eq_true rfl⟩ (fun n => ?_)
  refine V_istore (ls' := [_, _, _, _, _, _, _]) d_L_law__1150 rfl rfl ?_
  refine V_aload_n d_L_law__1152 rfl rfl ?_
  obtain ⟨t5, ht5, hf⟩ := ob hf
  refine B_callV1 (s_X12_thrown hG ht5) k_264 clX12 m_X12_thrown kv_RL_145 d_L_law__1153 rfl (Nat.le_of_ble_eq_true rfl) ⟨rfl, rfl, (show K + 1 ≤ 500000 by omega), (show KS + 6 ≤ 5000000 by omega), Nat.le_of_ble_eq_true rfl⟩ (fun n => ?_)
  refine V_iload d_L_law__1156 rfl ?_
  refine V_icmp_eq (tgt := 1163) d_L_law__1158 (by decide) (fun c1158 => ?_) (fun c1158 => ?_)
  · replace hf := iteT c1158 hf
    refine V_iload d_L_law__1163 rfl ?_
    refine V_if_ne (tgt := 1180) d_L_law__1165 (by decide) (fun c1165 => ?_) (fun c1165 => ?_)
    · replace hf := iteF c1165 hf
      refine V_less (ls' := [some _, some _, some _, some _, some _, none, none]) ⟨rfl, rfl, rfl, rfl, rfl, trivial⟩ ?_
      exact s_L_law__j1180 hG hX9 hKb hf hK
    · replace hf := iteT c1165 hf
      refine V_aload_n d_L_law__1168 rfl rfl ?_
      refine V_iconst (v := 0) d_L_law__1169 ic_0 ?_
      obtain ⟨t6, ht6, hf⟩ := ob hf
      refine B_lald k_275 ht6 d_L_law__1170 ?_
      refine V_iload d_L_law__1171 rfl ?_
      refine V_i2l d_L_law__1173 ?_
      refine V_lcmp d_L_law__1174 ?_
      refine V_if_eq (tgt := 1180) d_L_law__1175 (by decide) (fun c1175 => ?_) (fun c1175 => ?_)
      · replace hf := iteT (lcT c1175) hf
        refine V_less (ls' := [some _, some _, some _, some _, some _, none, none]) ⟨rfl, rfl, rfl, rfl, rfl, trivial⟩ ?_
        exact s_L_law__j1180 hG hX9 hKb hf hK
      · replace hf := iteF (lcF c1175) hf
        refine V_iconst (v := 0) d_L_law__1178 ic_0 ?_
        cases hf
  · replace hf := iteF c1158 hf
    refine V_iconst (v := 0) d_L_law__1161 ic_0 ?_
    cases hf
theorem s_L_law__j1236 {G : Gl} (hG : G.1.stackTraces = false) {C : Cx} {n b9 K KS : Nat} {μ : Mem} {b9L : Nat} {xs : (Nat → Int32)} {l4 : Int32} (hX9 : ScX G C b9 b9L xs) (hKb : K + 8 ≤ 500000 ∧ KS + 48 ≤ 5000000) {r : Mem} (hf : f_L_law__j1236 μ b9L xs l4 = some r) (hK : ∀ n, V G C F_L_law_ 2708 [some (.ref b9), some (.ref (G.2.1 + 0)), some (.ref (G.2.1 + 264)), some (.ref (G.2.1 + 275)), some (.int l4), none, none] [] (pic G r) n (K + 8) (KS + 48)) : V G C F_L_law_ 1236 [some (.ref b9), some (.ref (G.2.1 + 0)), some (.ref (G.2.1 + 264)), some (.ref (G.2.1 + 275)), some (.int l4), none, none] [] (pic G μ) n (K + 1) (KS + 6) := by
  unfold f_L_law__j1236 at hf
  refine V_goto (tgt := 2708) d_L_law__1236 (by decide) ?_
  refine V_widen (k2 := K + 8) (s2 := KS + 48) (by omega) (by omega) ?_
  refine V_less (ls' := [some _, some _, some _, some _, some _, none, none]) ⟨rfl, rfl, rfl, rfl, rfl, trivial⟩ ?_
  cases hf
  exact hK _
theorem s_L_law__j1183 {G : Gl} (hG : G.1.stackTraces = false) {C : Cx} {n b9 K KS : Nat} {μ : Mem} {b9L : Nat} {xs : (Nat → Int32)} {l4 : Int32} (hX9 : ScX G C b9 b9L xs) (hKb : K + 8 ≤ 500000 ∧ KS + 48 ≤ 5000000) {r : Mem} (hf : f_L_law__j1183 μ b9L xs l4 = some r) (hK : ∀ n, V G C F_L_law_ 2708 [some (.ref b9), some (.ref (G.2.1 + 0)), some (.ref (G.2.1 + 264)), some (.ref (G.2.1 + 275)), some (.int l4), none, none] [] (pic G r) n (K + 8) (KS + 48)) : V G C F_L_law_ 1183 [some (.ref b9), some (.ref (G.2.1 + 0)), some (.ref (G.2.1 + 264)), some (.ref (G.2.1 + 275)), some (.int l4), none, none] [] (pic G μ) n (K + 0) (KS + 0) := by
  unfold f_L_law__j1183 at hf
  refine V_aload_n d_L_law__1183 rfl rfl ?_
  refine V_aload_n d_L_law__1184 rfl rfl ?_
  refine V_iload d_L_law__1185 rfl ?_
  refine V_iconst (v := 1) d_L_law__1187 ic_1 ?_
  refine V_iadd d_L_law__1188 ?_
  obtain ⟨t1, ht1, hf⟩ := ob hf
  refine V_sld hX9 ht1 d_L_law__1189 ?_
  refine V_aload_n d_L_law__1190 rfl rfl ?_
  obtain ⟨q2, hq2, hf⟩ := ob hf
  refine B_callSH (s_L_days hG hq2) (kc' := (K + 1)) (ks' := (KS + 6)) m_L_days ks_RL_191 d_L_law__1191 rfl (Nat.le_of_ble_eq_true rfl) ⟨rfl, rfl, (show K + 1 ≤ 500000 by omega), (show KS + 6 ≤ 5000000 by omega), Nat.le_of_ble_eq_true rfl⟩ (fun n => ?_)
  refine V_istore (ls' := [_, _, _, _, _, _, _]) d_L_law__1194 rfl rfl ?_
  refine V_aload_n d_L_law__1196 rfl rfl ?_
  refine V_aload_n d_L_law__1197 rfl rfl ?_
  refine V_iload d_L_law__1198 rfl ?_
  refine V_iconst (v := 1) d_L_law__1200 ic_1 ?_
  refine V_iadd d_L_law__1201 ?_
  obtain ⟨t3, ht3, hf⟩ := ob hf
  refine V_sld hX9 ht3 d_L_law__1202 ?_
  obtain ⟨q4, hq4, hf⟩ := ob hf
  refine B_callV1 (s_X12_days hG hq4) k_264 clX12 m_X12_days kv_RL_193 d_L_law__1203 rfl (Nat.le_of_ble_eq_true rfl) ⟨rfl, rfl, (show K + 1 ≤ 500000 by omega), (show KS + 6 ≤ 5000000 by omega), Nat.le_of_ble_eq_true rfl⟩ (fun n => ?_)
  refine V_istore (ls' := [_, _, _, _, _, _, _]) d_L_law__1206 rfl rfl ?_
  refine V_aload_n d_L_law__1208 rfl rfl ?_
  obtain ⟨t5, ht5, hf⟩ := ob hf
  refine B_callV1 (s_X12_thrown hG ht5) k_264 clX12 m_X12_thrown kv_RL_145 d_L_law__1209 rfl (Nat.le_of_ble_eq_true rfl) ⟨rfl, rfl, (show K + 1 ≤ 500000 by omega), (show KS + 6 ≤ 5000000 by omega), Nat.le_of_ble_eq_true rfl⟩ (fun n => ?_)
  refine V_iload d_L_law__1212 rfl ?_
  refine V_icmp_eq (tgt := 1219) d_L_law__1214 (by decide) (fun c1214 => ?_) (fun c1214 => ?_)
  · replace hf := iteT c1214 hf
    refine V_iload d_L_law__1219 rfl ?_
    refine V_if_ne (tgt := 1236) d_L_law__1221 (by decide) (fun c1221 => ?_) (fun c1221 => ?_)
    · replace hf := iteF c1221 hf
      refine V_less (ls' := [some _, some _, some _, some _, some _, none, none]) ⟨rfl, rfl, rfl, rfl, rfl, trivial⟩ ?_
      exact s_L_law__j1236 hG hX9 hKb hf hK
    · replace hf := iteT c1221 hf
      refine V_aload_n d_L_law__1224 rfl rfl ?_
      refine V_iconst (v := 0) d_L_law__1225 ic_0 ?_
      obtain ⟨t6, ht6, hf⟩ := ob hf
      refine B_lald k_275 ht6 d_L_law__1226 ?_
      refine V_iload d_L_law__1227 rfl ?_
      refine V_i2l d_L_law__1229 ?_
      refine V_lcmp d_L_law__1230 ?_
      refine V_if_eq (tgt := 1236) d_L_law__1231 (by decide) (fun c1231 => ?_) (fun c1231 => ?_)
      · replace hf := iteT (lcT c1231) hf
        refine V_less (ls' := [some _, some _, some _, some _, some _, none, none]) ⟨rfl, rfl, rfl, rfl, rfl, trivial⟩ ?_
        exact s_L_law__j1236 hG hX9 hKb hf hK
      · replace hf := iteF (lcF c1231) hf
        refine V_iconst (v := 0) d_L_law__1234 ic_0 ?_
        cases hf
  · replace hf := iteF c1214 hf
    refine V_iconst (v := 0) d_L_law__1217 ic_0 ?_
    cases hf
theorem s_L_law__j1239 {G : Gl} (hG : G.1.stackTraces = false) {C : Cx} {n b9 K KS : Nat} {μ : Mem} {b9L : Nat} {xs : (Nat → Int32)} {l4 : Int32} (hX9 : ScX G C b9 b9L xs) (hKb : K + 8 ≤ 500000 ∧ KS + 48 ≤ 5000000) {r : Mem} (hf : f_L_law__j1239 μ b9L xs l4 = some r) (hK : ∀ n, V G C F_L_law_ 2708 [some (.ref b9), some (.ref (G.2.1 + 0)), some (.ref (G.2.1 + 264)), some (.ref (G.2.1 + 275)), some (.int l4), none, none] [] (pic G r) n (K + 8) (KS + 48)) : V G C F_L_law_ 1239 [some (.ref b9), some (.ref (G.2.1 + 0)), some (.ref (G.2.1 + 264)), some (.ref (G.2.1 + 275)), some (.int l4), none, none] [] (pic G μ) n (K + 0) (KS + 0) := by
  unfold f_L_law__j1239 at hf
  refine V_aload_n d_L_law__1239 rfl rfl ?_
  obtain ⟨t1, ht1, hf⟩ := ob hf
  refine B_callV1 (s_X11_solvent hG ht1) k_0 clX11 m_X11_solvent kv_RL_194 d_L_law__1240 rfl (Nat.le_of_ble_eq_true rfl) ⟨rfl, rfl, (show K + 0 ≤ 500000 by omega), (show KS + 0 ≤ 5000000 by omega), Nat.le_of_ble_eq_true rfl⟩ (fun n => ?_)
  refine V_aload_n d_L_law__1243 rfl rfl ?_
  obtain ⟨q2, hq2, hf⟩ := ob hf
  refine B_callV1 (s_X12_solvent hG hq2) k_264 clX12 m_X12_solvent kv_RL_197 d_L_law__1244 rfl (Nat.le_of_ble_eq_true rfl) ⟨rfl, rfl, (show K + 0 ≤ 500000 by omega), (show KS + 0 ≤ 5000000 by omega), Nat.le_of_ble_eq_true rfl⟩ (fun n => ?_)
  refine V_icmp_eq (tgt := 2708) d_L_law__1247 (by decide) (fun c1247 => ?_) (fun c1247 => ?_)
  · replace hf := iteT c1247 hf
    refine V_widen (k2 := K + 8) (s2 := KS + 48) (by omega) (by omega) ?_
    refine V_less (ls' := [some _, some _, some _, some _, some _, none, none]) ⟨rfl, rfl, rfl, rfl, rfl, trivial⟩ ?_
    cases hf
    exact hK _
  · replace hf := iteF c1247 hf
    refine V_iconst (v := 0) d_L_law__1250 ic_0 ?_
    cases hf
theorem s_L_law__j1317 {G : Gl} (hG : G.1.stackTraces = false) {C : Cx} {n b9 K KS : Nat} {μ : Mem} {b9L : Nat} {xs : (Nat → Int32)} {l4 : Int32} (hX9 : ScX G C b9 b9L xs) (hKb : K + 8 ≤ 500000 ∧ KS + 48 ≤ 5000000) {r : Mem} (hf : f_L_law__j1317 μ b9L xs l4 = some r) (hK : ∀ n, V G C F_L_law_ 2708 [some (.ref b9), some (.ref (G.2.1 + 0)), some (.ref (G.2.1 + 264)), some (.ref (G.2.1 + 275)), some (.int l4), none, none] [] (pic G r) n (K + 8) (KS + 48)) : V G C F_L_law_ 1317 [some (.ref b9), some (.ref (G.2.1 + 0)), some (.ref (G.2.1 + 264)), some (.ref (G.2.1 + 275)), some (.int l4), none, none] [] (pic G μ) n (K + 2) (KS + 12) := by
  unfold f_L_law__j1317 at hf
  refine V_goto (tgt := 2708) d_L_law__1317 (by decide) ?_
  refine V_widen (k2 := K + 8) (s2 := KS + 48) (by omega) (by omega) ?_
  refine V_less (ls' := [some _, some _, some _, some _, some _, none, none]) ⟨rfl, rfl, rfl, rfl, rfl, trivial⟩ ?_
  cases hf
  exact hK _
theorem s_L_law__j1252 {G : Gl} (hG : G.1.stackTraces = false) {C : Cx} {n b9 K KS : Nat} {μ : Mem} {b9L : Nat} {xs : (Nat → Int32)} {l4 : Int32} (hX9 : ScX G C b9 b9L xs) (hKb : K + 8 ≤ 500000 ∧ KS + 48 ≤ 5000000) {r : Mem} (hf : f_L_law__j1252 μ b9L xs l4 = some r) (hK : ∀ n, V G C F_L_law_ 2708 [some (.ref b9), some (.ref (G.2.1 + 0)), some (.ref (G.2.1 + 264)), some (.ref (G.2.1 + 275)), some (.int l4), none, none] [] (pic G r) n (K + 8) (KS + 48)) : V G C F_L_law_ 1252 [some (.ref b9), some (.ref (G.2.1 + 0)), some (.ref (G.2.1 + 264)), some (.ref (G.2.1 + 275)), some (.int l4), none, none] [] (pic G μ) n (K + 0) (KS + 0) := by
  unfold f_L_law__j1252 at hf
  refine V_aload_n d_L_law__1252 rfl rfl ?_
  refine V_aload_n d_L_law__1253 rfl rfl ?_
  refine V_iload d_L_law__1254 rfl ?_
  refine V_iconst (v := 1) d_L_law__1256 ic_1 ?_
  refine V_iadd d_L_law__1257 ?_
  obtain ⟨t1, ht1, hf⟩ := ob hf
  refine V_sld hX9 ht1 d_L_law__1258 ?_
  refine V_aload_n d_L_law__1259 rfl rfl ?_
  refine V_iload d_L_law__1260 rfl ?_
  refine V_iconst (v := 2) d_L_law__1262 ic_2 ?_
  refine V_iadd d_L_law__1263 ?_
  obtain ⟨t2, ht2, hf⟩ := ob hf
  refine V_sld hX9 ht2 d_L_law__1264 ?_
  refine V_aload_n d_L_law__1265 rfl rfl ?_
  obtain ⟨q3, hq3, hf⟩ := ob hf
  refine B_callSH (s_L_comes hG hq3) (kc' := (K + 2)) (ks' := (KS + 12)) m_L_comes ks_RL_198 d_L_law__1266 rfl (Nat.le_of_ble_eq_true rfl) ⟨rfl, rfl, (show K + 2 ≤ 500000 by omega), (show KS + 12 ≤ 5000000 by omega), Nat.le_of_ble_eq_true rfl⟩ (fun n => ?_)
  refine V_istore (ls' := [_, _, _, _, _, _, _]) d_L_law__1269 rfl rfl ?_
  refine V_aload_n d_L_law__1271 rfl rfl ?_
  refine V_aload_n d_L_law__1272 rfl rfl ?_
  refine V_iload d_L_law__1273 rfl ?_
  refine V_iconst (v := 1) d_L_law__1275 ic_1 ?_
  refine V_iadd d_L_law__1276 ?_
  obtain ⟨t4, ht4, hf⟩ := ob hf
  refine V_sld hX9 ht4 d_L_law__1277 ?_
  refine V_aload_n d_L_law__1278 rfl rfl ?_
  refine V_iload d_L_law__1279 rfl ?_
  refine V_iconst (v := 2) d_L_law__1281 ic_2 ?_
  refine V_iadd d_L_law__1282 ?_
  obtain ⟨t5, ht5, hf⟩ := ob hf
  refine V_sld hX9 ht5 d_L_law__1283 ?_
  obtain ⟨q6, hq6, hf⟩ := ob hf
  refine B_callV1 (s_X12_comes hG hq6) k_264 clX12 m_X12_comes kv_RL_200 d_L_law__1284 rfl (Nat.le_of_ble_eq_true rfl) ⟨rfl, rfl, (show K + 2 ≤ 500000 by omega), (show KS + 12 ≤ 5000000 by omega), Nat.le_of_ble_eq_true rfl⟩ (fun n => ?_)
  refine V_istore (ls' := [_, _, _, _, _, _, _]) d_L_law__1287 rfl rfl ?_
  refine V_aload_n d_L_law__1289 rfl rfl ?_
  obtain ⟨t7, ht7, hf⟩ := ob hf
  refine B_callV1 (s_X12_thrown hG ht7) k_264 clX12 m_X12_thrown kv_RL_145 d_L_law__1290 rfl (Nat.le_of_ble_eq_true rfl) ⟨rfl, rfl, (show K + 2 ≤ 500000 by omega), (show KS + 12 ≤ 5000000 by omega), Nat.le_of_ble_eq_true rfl⟩ (fun n => ?_)
  refine V_iload d_L_law__1293 rfl ?_
  refine V_icmp_eq (tgt := 1300) d_L_law__1295 (by decide) (fun c1295 => ?_) (fun c1295 => ?_)
  · replace hf := iteT c1295 hf
    refine V_iload d_L_law__1300 rfl ?_
    refine V_if_ne (tgt := 1317) d_L_law__1302 (by decide) (fun c1302 => ?_) (fun c1302 => ?_)
    · replace hf := iteF c1302 hf
      refine V_less (ls' := [some _, some _, some _, some _, some _, none, none]) ⟨rfl, rfl, rfl, rfl, rfl, trivial⟩ ?_
      exact s_L_law__j1317 hG hX9 hKb hf hK
    · replace hf := iteT c1302 hf
      refine V_aload_n d_L_law__1305 rfl rfl ?_
      refine V_iconst (v := 0) d_L_law__1306 ic_0 ?_
      obtain ⟨t8, ht8, hf⟩ := ob hf
      refine B_lald k_275 ht8 d_L_law__1307 ?_
      refine V_iload d_L_law__1308 rfl ?_
      refine V_i2l d_L_law__1310 ?_
      refine V_lcmp d_L_law__1311 ?_
      refine V_if_eq (tgt := 1317) d_L_law__1312 (by decide) (fun c1312 => ?_) (fun c1312 => ?_)
      · replace hf := iteT (lcT c1312) hf
        refine V_less (ls' := [some _, some _, some _, some _, some _, none, none]) ⟨rfl, rfl, rfl, rfl, rfl, trivial⟩ ?_
        exact s_L_law__j1317 hG hX9 hKb hf hK
      · replace hf := iteF (lcF c1312) hf
        refine V_iconst (v := 0) d_L_law__1315 ic_0 ?_
        cases hf
  · replace hf := iteF c1295 hf
    refine V_iconst (v := 0) d_L_law__1298 ic_0 ?_
    cases hf
theorem s_L_law__j1373 {G : Gl} (hG : G.1.stackTraces = false) {C : Cx} {n b9 K KS : Nat} {μ : Mem} {b9L : Nat} {xs : (Nat → Int32)} {l4 : Int32} (hX9 : ScX G C b9 b9L xs) (hKb : K + 8 ≤ 500000 ∧ KS + 48 ≤ 5000000) {r : Mem} (hf : f_L_law__j1373 μ b9L xs l4 = some r) (hK : ∀ n, V G C F_L_law_ 2708 [some (.ref b9), some (.ref (G.2.1 + 0)), some (.ref (G.2.1 + 264)), some (.ref (G.2.1 + 275)), some (.int l4), none, none] [] (pic G r) n (K + 8) (KS + 48)) : V G C F_L_law_ 1373 [some (.ref b9), some (.ref (G.2.1 + 0)), some (.ref (G.2.1 + 264)), some (.ref (G.2.1 + 275)), some (.int l4), none, none] [] (pic G μ) n (K + 1) (KS + 6) := by
  unfold f_L_law__j1373 at hf
  refine V_goto (tgt := 2708) d_L_law__1373 (by decide) ?_
  refine V_widen (k2 := K + 8) (s2 := KS + 48) (by omega) (by omega) ?_
  refine V_less (ls' := [some _, some _, some _, some _, some _, none, none]) ⟨rfl, rfl, rfl, rfl, rfl, trivial⟩ ?_
  cases hf
  exact hK _
theorem s_L_law__j1320 {G : Gl} (hG : G.1.stackTraces = false) {C : Cx} {n b9 K KS : Nat} {μ : Mem} {b9L : Nat} {xs : (Nat → Int32)} {l4 : Int32} (hX9 : ScX G C b9 b9L xs) (hKb : K + 8 ≤ 500000 ∧ KS + 48 ≤ 5000000) {r : Mem} (hf : f_L_law__j1320 μ b9L xs l4 = some r) (hK : ∀ n, V G C F_L_law_ 2708 [some (.ref b9), some (.ref (G.2.1 + 0)), some (.ref (G.2.1 + 264)), some (.ref (G.2.1 + 275)), some (.int l4), none, none] [] (pic G r) n (K + 8) (KS + 48)) : V G C F_L_law_ 1320 [some (.ref b9), some (.ref (G.2.1 + 0)), some (.ref (G.2.1 + 264)), some (.ref (G.2.1 + 275)), some (.int l4), none, none] [] (pic G μ) n (K + 0) (KS + 0) := by
  unfold f_L_law__j1320 at hf
  refine V_aload_n d_L_law__1320 rfl rfl ?_
  refine V_aload_n d_L_law__1321 rfl rfl ?_
  refine V_iload d_L_law__1322 rfl ?_
  refine V_iconst (v := 1) d_L_law__1324 ic_1 ?_
  refine V_iadd d_L_law__1325 ?_
  obtain ⟨t1, ht1, hf⟩ := ob hf
  refine V_sld hX9 ht1 d_L_law__1326 ?_
  refine V_aload_n d_L_law__1327 rfl rfl ?_
  obtain ⟨q2, hq2, hf⟩ := ob hf
  refine B_callSH (s_L_soonest hG hq2) (kc' := (K + 1)) (ks' := (KS + 6)) m_L_soonest ks_RL_201 d_L_law__1328 rfl (Nat.le_of_ble_eq_true rfl) ⟨rfl, rfl, (show K + 1 ≤ 500000 by omega), (show KS + 6 ≤ 5000000 by omega), Nat.le_of_ble_eq_true rfl⟩ (fun n => ?_)
  refine V_istore (ls' := [_, _, _, _, _, _, _]) d_L_law__1331 rfl rfl ?_
  refine V_aload_n d_L_law__1333 rfl rfl ?_
  refine V_aload_n d_L_law__1334 rfl rfl ?_
  refine V_iload d_L_law__1335 rfl ?_
  refine V_iconst (v := 1) d_L_law__1337 ic_1 ?_
  refine V_iadd d_L_law__1338 ?_
  obtain ⟨t3, ht3, hf⟩ := ob hf
  refine V_sld hX9 ht3 d_L_law__1339 ?_
  obtain ⟨q4, hq4, hf⟩ := ob hf
  refine B_callV1 (s_X12_soonest hG hq4) k_264 clX12 m_X12_soonest kv_RL_203 d_L_law__1340 rfl (Nat.le_of_ble_eq_true rfl) ⟨rfl, rfl, (show K + 1 ≤ 500000 by omega), (show KS + 6 ≤ 5000000 by omega), Nat.le_of_ble_eq_true rfl⟩ (fun n => ?_)
  refine V_istore (ls' := [_, _, _, _, _, _, _]) d_L_law__1343 rfl rfl ?_
  refine V_aload_n d_L_law__1345 rfl rfl ?_
  obtain ⟨t5, ht5, hf⟩ := ob hf
  refine B_callV1 (s_X12_thrown hG ht5) k_264 clX12 m_X12_thrown kv_RL_145 d_L_law__1346 rfl (Nat.le_of_ble_eq_true rfl) ⟨rfl, rfl, (show K + 1 ≤ 500000 by omega), (show KS + 6 ≤ 5000000 by omega), Nat.le_of_ble_eq_true rfl⟩ (fun n => ?_)
  refine V_iload d_L_law__1349 rfl ?_
  refine V_icmp_eq (tgt := 1356) d_L_law__1351 (by decide) (fun c1351 => ?_) (fun c1351 => ?_)
  · replace hf := iteT c1351 hf
    refine V_iload d_L_law__1356 rfl ?_
    refine V_if_ne (tgt := 1373) d_L_law__1358 (by decide) (fun c1358 => ?_) (fun c1358 => ?_)
    · replace hf := iteF c1358 hf
      refine V_less (ls' := [some _, some _, some _, some _, some _, none, none]) ⟨rfl, rfl, rfl, rfl, rfl, trivial⟩ ?_
      exact s_L_law__j1373 hG hX9 hKb hf hK
    · replace hf := iteT c1358 hf
      refine V_aload_n d_L_law__1361 rfl rfl ?_
      refine V_iconst (v := 0) d_L_law__1362 ic_0 ?_
      obtain ⟨t6, ht6, hf⟩ := ob hf
      refine B_lald k_275 ht6 d_L_law__1363 ?_
      refine V_iload d_L_law__1364 rfl ?_
      refine V_i2l d_L_law__1366 ?_
      refine V_lcmp d_L_law__1367 ?_
      refine V_if_eq (tgt := 1373) d_L_law__1368 (by decide) (fun c1368 => ?_) (fun c1368 => ?_)
      · replace hf := iteT (lcT c1368) hf
        refine V_less (ls' := [some _, some _, some _, some _, some _, none, none]) ⟨rfl, rfl, rfl, rfl, rfl, trivial⟩ ?_
        exact s_L_law__j1373 hG hX9 hKb hf hK
      · replace hf := iteF (lcF c1368) hf
        refine V_iconst (v := 0) d_L_law__1371 ic_0 ?_
        cases hf
  · replace hf := iteF c1351 hf
    refine V_iconst (v := 0) d_L_law__1354 ic_0 ?_
    cases hf
theorem s_L_law__j1429 {G : Gl} (hG : G.1.stackTraces = false) {C : Cx} {n b9 K KS : Nat} {μ : Mem} {b9L : Nat} {xs : (Nat → Int32)} {l4 : Int32} (hX9 : ScX G C b9 b9L xs) (hKb : K + 8 ≤ 500000 ∧ KS + 48 ≤ 5000000) {r : Mem} (hf : f_L_law__j1429 μ b9L xs l4 = some r) (hK : ∀ n, V G C F_L_law_ 2708 [some (.ref b9), some (.ref (G.2.1 + 0)), some (.ref (G.2.1 + 264)), some (.ref (G.2.1 + 275)), some (.int l4), none, none] [] (pic G r) n (K + 8) (KS + 48)) : V G C F_L_law_ 1429 [some (.ref b9), some (.ref (G.2.1 + 0)), some (.ref (G.2.1 + 264)), some (.ref (G.2.1 + 275)), some (.int l4), none, none] [] (pic G μ) n (K + 2) (KS + 12) := by
  unfold f_L_law__j1429 at hf
  refine V_goto (tgt := 2708) d_L_law__1429 (by decide) ?_
  refine V_widen (k2 := K + 8) (s2 := KS + 48) (by omega) (by omega) ?_
  refine V_less (ls' := [some _, some _, some _, some _, some _, none, none]) ⟨rfl, rfl, rfl, rfl, rfl, trivial⟩ ?_
  cases hf
  exact hK _
theorem s_L_law__j1376 {G : Gl} (hG : G.1.stackTraces = false) {C : Cx} {n b9 K KS : Nat} {μ : Mem} {b9L : Nat} {xs : (Nat → Int32)} {l4 : Int32} (hX9 : ScX G C b9 b9L xs) (hKb : K + 8 ≤ 500000 ∧ KS + 48 ≤ 5000000) {r : Mem} (hf : f_L_law__j1376 μ b9L xs l4 = some r) (hK : ∀ n, V G C F_L_law_ 2708 [some (.ref b9), some (.ref (G.2.1 + 0)), some (.ref (G.2.1 + 264)), some (.ref (G.2.1 + 275)), some (.int l4), none, none] [] (pic G r) n (K + 8) (KS + 48)) : V G C F_L_law_ 1376 [some (.ref b9), some (.ref (G.2.1 + 0)), some (.ref (G.2.1 + 264)), some (.ref (G.2.1 + 275)), some (.int l4), none, none] [] (pic G μ) n (K + 0) (KS + 0) := by
  unfold f_L_law__j1376 at hf
  refine V_aload_n d_L_law__1376 rfl rfl ?_
  refine V_aload_n d_L_law__1377 rfl rfl ?_
  refine V_iload d_L_law__1378 rfl ?_
  refine V_iconst (v := 1) d_L_law__1380 ic_1 ?_
  refine V_iadd d_L_law__1381 ?_
  obtain ⟨t1, ht1, hf⟩ := ob hf
  refine V_sld hX9 ht1 d_L_law__1382 ?_
  refine V_aload_n d_L_law__1383 rfl rfl ?_
  obtain ⟨q2, hq2, hf⟩ := ob hf
  refine B_callSH (s_L_carry hG hq2) (kc' := (K + 2)) (ks' := (KS + 12)) m_L_carry ks_RL_204 d_L_law__1384 rfl (Nat.le_of_ble_eq_true rfl) ⟨rfl, rfl, (show K + 2 ≤ 500000 by omega), (show KS + 12 ≤ 5000000 by omega), Nat.le_of_ble_eq_true rfl⟩ (fun n => ?_)
  refine V_istore (ls' := [_, _, _, _, _, _, _]) d_L_law__1387 rfl rfl ?_
  refine V_aload_n d_L_law__1389 rfl rfl ?_
  refine V_aload_n d_L_law__1390 rfl rfl ?_
  refine V_iload d_L_law__1391 rfl ?_
  refine V_iconst (v := 1) d_L_law__1393 ic_1 ?_
  refine V_iadd d_L_law__1394 ?_
  obtain ⟨t3, ht3, hf⟩ := ob hf
  refine V_sld hX9 ht3 d_L_law__1395 ?_
  obtain ⟨q4, hq4, hf⟩ := ob hf
  refine B_callV1 (s_X12_carry hG hq4) k_264 clX12 m_X12_carry kv_RL_206 d_L_law__1396 rfl (Nat.le_of_ble_eq_true rfl) ⟨rfl, rfl, (show K + 2 ≤ 500000 by omega), (show KS + 12 ≤ 5000000 by omega), Nat.le_of_ble_eq_true rfl⟩ (fun n => ?_)
  refine V_istore (ls' := [_, _, _, _, _, _, _]) d_L_law__1399 rfl rfl ?_
  refine V_aload_n d_L_law__1401 rfl rfl ?_
  obtain ⟨t5, ht5, hf⟩ := ob hf
  refine B_callV1 (s_X12_thrown hG ht5) k_264 clX12 m_X12_thrown kv_RL_145 d_L_law__1402 rfl (Nat.le_of_ble_eq_true rfl) ⟨rfl, rfl, (show K + 2 ≤ 500000 by omega), (show KS + 12 ≤ 5000000 by omega), Nat.le_of_ble_eq_true rfl⟩ (fun n => ?_)
  refine V_iload d_L_law__1405 rfl ?_
  refine V_icmp_eq (tgt := 1412) d_L_law__1407 (by decide) (fun c1407 => ?_) (fun c1407 => ?_)
  · replace hf := iteT c1407 hf
    refine V_iload d_L_law__1412 rfl ?_
    refine V_if_ne (tgt := 1429) d_L_law__1414 (by decide) (fun c1414 => ?_) (fun c1414 => ?_)
    · replace hf := iteF c1414 hf
      refine V_less (ls' := [some _, some _, some _, some _, some _, none, none]) ⟨rfl, rfl, rfl, rfl, rfl, trivial⟩ ?_
      exact s_L_law__j1429 hG hX9 hKb hf hK
    · replace hf := iteT c1414 hf
      refine V_aload_n d_L_law__1417 rfl rfl ?_
      refine V_iconst (v := 0) d_L_law__1418 ic_0 ?_
      obtain ⟨t6, ht6, hf⟩ := ob hf
      refine B_lald k_275 ht6 d_L_law__1419 ?_
      refine V_iload d_L_law__1420 rfl ?_
      refine V_i2l d_L_law__1422 ?_
      refine V_lcmp d_L_law__1423 ?_
      refine V_if_eq (tgt := 1429) d_L_law__1424 (by decide) (fun c1424 => ?_) (fun c1424 => ?_)
      · replace hf := iteT (lcT c1424) hf
        refine V_less (ls' := [some _, some _, some _, some _, some _, none, none]) ⟨rfl, rfl, rfl, rfl, rfl, trivial⟩ ?_
        exact s_L_law__j1429 hG hX9 hKb hf hK
      · replace hf := iteF (lcF c1424) hf
        refine V_iconst (v := 0) d_L_law__1427 ic_0 ?_
        cases hf
  · replace hf := iteF c1407 hf
    refine V_iconst (v := 0) d_L_law__1410 ic_0 ?_
    cases hf
theorem s_L_law__j1525 {G : Gl} (hG : G.1.stackTraces = false) {C : Cx} {n b9 K KS : Nat} {μ : Mem} {b9L : Nat} {xs : (Nat → Int32)} {l4 : Int32} (hX9 : ScX G C b9 b9L xs) (hKb : K + 8 ≤ 500000 ∧ KS + 48 ≤ 5000000) {r : Mem} (hf : f_L_law__j1525 μ b9L xs l4 = some r) (hK : ∀ n, V G C F_L_law_ 2708 [some (.ref b9), some (.ref (G.2.1 + 0)), some (.ref (G.2.1 + 264)), some (.ref (G.2.1 + 275)), some (.int l4), none, none] [] (pic G r) n (K + 8) (KS + 48)) : V G C F_L_law_ 1525 [some (.ref b9), some (.ref (G.2.1 + 0)), some (.ref (G.2.1 + 264)), some (.ref (G.2.1 + 275)), some (.int l4), none, none] [] (pic G μ) n (K + 2) (KS + 12) := by
  unfold f_L_law__j1525 at hf
  refine V_goto (tgt := 2708) d_L_law__1525 (by decide) ?_
  refine V_widen (k2 := K + 8) (s2 := KS + 48) (by omega) (by omega) ?_
  refine V_less (ls' := [some _, some _, some _, some _, some _, none, none]) ⟨rfl, rfl, rfl, rfl, rfl, trivial⟩ ?_
  cases hf
  exact hK _
theorem s_L_law__j1432 {G : Gl} (hG : G.1.stackTraces = false) {C : Cx} {n b9 K KS : Nat} {μ : Mem} {b9L : Nat} {xs : (Nat → Int32)} {l4 : Int32} (hX9 : ScX G C b9 b9L xs) (hKb : K + 8 ≤ 500000 ∧ KS + 48 ≤ 5000000) {r : Mem} (hf : f_L_law__j1432 μ b9L xs l4 = some r) (hK : ∀ n, V G C F_L_law_ 2708 [some (.ref b9), some (.ref (G.2.1 + 0)), some (.ref (G.2.1 + 264)), some (.ref (G.2.1 + 275)), some (.int l4), none, none] [] (pic G r) n (K + 8) (KS + 48)) : V G C F_L_law_ 1432 [some (.ref b9), some (.ref (G.2.1 + 0)), some (.ref (G.2.1 + 264)), some (.ref (G.2.1 + 275)), some (.int l4), none, none] [] (pic G μ) n (K + 0) (KS + 0) := by
  unfold f_L_law__j1432 at hf
  refine V_aload_n d_L_law__1432 rfl rfl ?_
  refine V_aload_n d_L_law__1433 rfl rfl ?_
  refine V_iload d_L_law__1434 rfl ?_
  refine V_iconst (v := 1) d_L_law__1436 ic_1 ?_
  refine V_iadd d_L_law__1437 ?_
  obtain ⟨t1, ht1, hf⟩ := ob hf
  refine V_sld hX9 ht1 d_L_law__1438 ?_
  refine V_aload_n d_L_law__1439 rfl rfl ?_
  refine V_iload d_L_law__1440 rfl ?_
  refine V_iconst (v := 2) d_L_law__1442 ic_2 ?_
  refine V_iadd d_L_law__1443 ?_
  obtain ⟨t2, ht2, hf⟩ := ob hf
  refine V_sld hX9 ht2 d_L_law__1444 ?_
  refine V_aload_n d_L_law__1445 rfl rfl ?_
  refine V_iload d_L_law__1446 rfl ?_
  refine V_iconst (v := 3) d_L_law__1448 ic_3 ?_
  refine V_iadd d_L_law__1449 ?_
  obtain ⟨t3, ht3, hf⟩ := ob hf
  refine V_sld hX9 ht3 d_L_law__1450 ?_
  have hJj4 : ∀ j4 : Bool, j4 = (if t3 = 0 then (false : Bool) else true) → V G C F_L_law_ 1459 [some (.ref b9), some (.ref (G.2.1 + 0)), some (.ref (G.2.1 + 264)), some (.ref (G.2.1 + 275)), some (.int l4), none, none] [.int (b2i j4), .int t2, .int t1, .ref (G.2.1 + 0)] (pic G μ) n (K + 0) (KS + 0) := by
    intro j4 ej4
    subst ej4
    refine V_aload_n d_L_law__1459 rfl rfl ?_
    obtain ⟨q5, hq5, hf⟩ := ob hf
    refine B_callSH (s_L_ahead hG hq5) (kc' := (K + 2)) (ks' := (KS + 12)) m_L_ahead ks_RL_207 d_L_law__1460 rfl (Nat.le_of_ble_eq_true rfl) ⟨rfl, rfl, (show K + 2 ≤ 500000 by omega), (show KS + 12 ≤ 5000000 by omega), Nat.le_of_ble_eq_true rfl⟩ (fun n => ?_)
    refine V_istore (ls' := [_, _, _, _, _, _, _]) d_L_law__1463 rfl rfl ?_
    refine V_aload_n d_L_law__1465 rfl rfl ?_
    refine V_aload_n d_L_law__1466 rfl rfl ?_
    refine V_iload d_L_law__1467 rfl ?_
    refine V_iconst (v := 1) d_L_law__1469 ic_1 ?_
    refine V_iadd d_L_law__1470 ?_
    obtain ⟨t6, ht6, hf⟩ := ob hf
    refine V_sld hX9 ht6 d_L_law__1471 ?_
    refine V_aload_n d_L_law__1472 rfl rfl ?_
    refine V_iload d_L_law__1473 rfl ?_
    refine V_iconst (v := 2) d_L_law__1475 ic_2 ?_
    refine V_iadd d_L_law__1476 ?_
    obtain ⟨t7, ht7, hf⟩ := ob hf
    refine V_sld hX9 ht7 d_L_law__1477 ?_
    refine V_aload_n d_L_law__1478 rfl rfl ?_
    refine V_iload d_L_law__1479 rfl ?_
    refine V_iconst (v := 3) d_L_law__1481 ic_3 ?_
    refine V_iadd d_L_law__1482 ?_
    obtain ⟨t8, ht8, hf⟩ := ob hf
    refine V_sld hX9 ht8 d_L_law__1483 ?_
    have hJj9 : ∀ j9 : Bool, j9 = (if t8 = 0 then (false : Bool) else true) → V G C F_L_law_ 1492 [some (.ref b9), some (.ref (G.2.1 + 0)), some (.ref (G.2.1 + 264)), some (.ref (G.2.1 + 275)), some (.int l4), some (.int q5.1), none] [.int (b2i j9), .int t7, .int t6, .ref (G.2.1 + 264)] (pic G q5.2) n (K + 2) (KS + 12) := by
      intro j9 ej9
      subst ej9
      obtain ⟨q10, hq10, hf⟩ := ob hf
      refine B_callV1 (s_X12_ahead hG hq10) k_264 clX12 m_X12_ahead kv_RL_210 d_L_law__1492 rfl (Nat.le_of_ble_eq_true rfl) ⟨rfl, rfl, (show K + 2 ≤ 500000 by omega), (show KS + 12 ≤ 5000000 by omega), Nat.le_of_ble_eq_true rfl⟩ (fun n => ?_)
      refine V_istore (ls' := [_, _, _, _, _, _, _]) d_L_law__1495 rfl rfl ?_
      refine V_aload_n d_L_law__1497 rfl rfl ?_
      obtain ⟨t11, ht11, hf⟩ := ob hf
      refine B_callV1 (s_X12_thrown hG ht11) k_264 clX12 m_X12_thrown kv_RL_145 d_L_law__1498 rfl (Nat.le_of_ble_eq_true rfl) ⟨rfl, rfl, (show K + 2 ≤ 500000 by omega), (show KS + 12 ≤ 5000000 by omega), Nat.le_of_ble_eq_true rfl⟩ (fun n => ?_)
      refine V_iload d_L_law__1501 rfl ?_
      refine V_icmp_eq (tgt := 1508) d_L_law__1503 (by decide) (fun c1503 => ?_) (fun c1503 => ?_)
      · replace hf := iteT c1503 hf
        refine V_iload d_L_law__1508 rfl ?_
        refine V_if_ne (tgt := 1525) d_L_law__1510 (by decide) (fun c1510 => ?_) (fun c1510 => ?_)
        · replace hf := iteF c1510 hf
          refine V_less (ls' := [some _, some _, some _, some _, some _, none, none]) ⟨rfl, rfl, rfl, rfl, rfl, trivial⟩ ?_
          exact s_L_law__j1525 hG hX9 hKb hf hK
        · replace hf := iteT c1510 hf
          refine V_aload_n d_L_law__1513 rfl rfl ?_
          refine V_iconst (v := 0) d_L_law__1514 ic_0 ?_
          obtain ⟨t12, ht12, hf⟩ := ob hf
          refine B_lald k_275 ht12 d_L_law__1515 ?_
          refine V_iload d_L_law__1516 rfl ?_
          refine V_i2l d_L_law__1518 ?_
          refine V_lcmp d_L_law__1519 ?_
          refine V_if_eq (tgt := 1525) d_L_law__1520 (by decide) (fun c1520 => ?_) (fun c1520 => ?_)
          · replace hf := iteT (lcT c1520) hf
            refine V_less (ls' := [some _, some _, some _, some _, some _, none, none]) ⟨rfl, rfl, rfl, rfl, rfl, trivial⟩ ?_
            exact s_L_law__j1525 hG hX9 hKb hf hK
          · replace hf := iteF (lcF c1520) hf
            refine V_iconst (v := 0) d_L_law__1523 ic_0 ?_
            cases hf
      · replace hf := iteF c1503 hf
        refine V_iconst (v := 0) d_L_law__1506 ic_0 ?_
        cases hf
    refine V_if_eq (tgt := 1491) d_L_law__1484 (by decide) (fun c1484 => ?_) (fun c1484 => ?_)
    · refine V_iconst (v := 0) d_L_law__1491 ic_0 ?_
      refine V_less (ls' := [some _, some _, some _, some _, some _, some _, none]) ⟨rfl, rfl, rfl, rfl, rfl, rfl, trivial⟩ ?_
      exact hJj9 false (by rw [if_pos c1484])
    · refine V_iconst (v := 1) d_L_law__1487 ic_1 ?_
      refine V_goto (tgt := 1492) d_L_law__1488 (by decide) ?_
      refine V_less (ls' := [some _, some _, some _, some _, some _, some _, none]) ⟨rfl, rfl, rfl, rfl, rfl, rfl, trivial⟩ ?_
      exact hJj9 true (by rw [if_neg c1484])
  refine V_if_eq (tgt := 1458) d_L_law__1451 (by decide) (fun c1451 => ?_) (fun c1451 => ?_)
  · refine V_iconst (v := 0) d_L_law__1458 ic_0 ?_
    refine V_less (ls' := [some _, some _, some _, some _, some _, none, none]) ⟨rfl, rfl, rfl, rfl, rfl, trivial⟩ ?_
    exact hJj4 false (by rw [if_pos c1451])
  · refine V_iconst (v := 1) d_L_law__1454 ic_1 ?_
    refine V_goto (tgt := 1459) d_L_law__1455 (by decide) ?_
    refine V_less (ls' := [some _, some _, some _, some _, some _, none, none]) ⟨rfl, rfl, rfl, rfl, rfl, trivial⟩ ?_
    exact hJj4 true (by rw [if_neg c1451])
theorem s_L_law__j1528 {G : Gl} (hG : G.1.stackTraces = false) {C : Cx} {n b9 K KS : Nat} {μ : Mem} {b9L : Nat} {xs : (Nat → Int32)} {l4 : Int32} (hX9 : ScX G C b9 b9L xs) (hKb : K + 8 ≤ 500000 ∧ KS + 48 ≤ 5000000) {r : Mem} (hf : f_L_law__j1528 μ b9L xs l4 = some r) (hK : ∀ n, V G C F_L_law_ 2708 [some (.ref b9), some (.ref (G.2.1 + 0)), some (.ref (G.2.1 + 264)), some (.ref (G.2.1 + 275)), some (.int l4), none, none] [] (pic G r) n (K + 8) (KS + 48)) : V G C F_L_law_ 1528 [some (.ref b9), some (.ref (G.2.1 + 0)), some (.ref (G.2.1 + 264)), some (.ref (G.2.1 + 275)), some (.int l4), none, none] [] (pic G μ) n (K + 0) (KS + 0) := by
  unfold f_L_law__j1528 at hf
  refine V_aload_n d_L_law__1528 rfl rfl ?_
  obtain ⟨q1, hq1, hf⟩ := ob hf
  refine B_callV1 (s_X11_rings hG hq1) k_0 clX11 m_X11_rings kv_RL_211 d_L_law__1529 rfl (Nat.le_of_ble_eq_true rfl) ⟨rfl, rfl, (show K + 0 ≤ 500000 by omega), (show KS + 0 ≤ 5000000 by omega), Nat.le_of_ble_eq_true rfl⟩ (fun n => ?_)
  refine V_aload_n d_L_law__1532 rfl rfl ?_
  obtain ⟨q2, hq2, hf⟩ := ob hf
  refine B_callV1 (s_X12_rings hG hq2) k_264 clX12 m_X12_rings kv_RL_214 d_L_law__1533 rfl (Nat.le_of_ble_eq_true rfl) ⟨rfl, rfl, (show K + 0 ≤ 500000 by omega), (show KS + 0 ≤ 5000000 by omega), Nat.le_of_ble_eq_true rfl⟩ (fun n => ?_)
  refine V_icmp_eq (tgt := 2708) d_L_law__1536 (by decide) (fun c1536 => ?_) (fun c1536 => ?_)
  · replace hf := iteT c1536 hf
    refine V_widen (k2 := K + 8) (s2 := KS + 48) (by omega) (by omega) ?_
    refine V_less (ls' := [some _, some _, some _, some _, some _, none, none]) ⟨rfl, rfl, rfl, rfl, rfl, trivial⟩ ?_
    cases hf
    exact hK _
  · replace hf := iteF c1536 hf
    refine V_iconst (v := 0) d_L_law__1539 ic_0 ?_
    cases hf
theorem s_L_law__j1541 {G : Gl} (hG : G.1.stackTraces = false) {C : Cx} {n b9 K KS : Nat} {μ : Mem} {b9L : Nat} {xs : (Nat → Int32)} {l4 : Int32} (hX9 : ScX G C b9 b9L xs) (hKb : K + 8 ≤ 500000 ∧ KS + 48 ≤ 5000000) {r : Mem} (hf : f_L_law__j1541 μ b9L xs l4 = some r) (hK : ∀ n, V G C F_L_law_ 2708 [some (.ref b9), some (.ref (G.2.1 + 0)), some (.ref (G.2.1 + 264)), some (.ref (G.2.1 + 275)), some (.int l4), none, none] [] (pic G r) n (K + 8) (KS + 48)) : V G C F_L_law_ 1541 [some (.ref b9), some (.ref (G.2.1 + 0)), some (.ref (G.2.1 + 264)), some (.ref (G.2.1 + 275)), some (.int l4), none, none] [] (pic G μ) n (K + 0) (KS + 0) := by
  unfold f_L_law__j1541 at hf
  refine V_aload_n d_L_law__1541 rfl rfl ?_
  refine V_aload_n d_L_law__1542 rfl rfl ?_
  refine V_iload d_L_law__1543 rfl ?_
  refine V_iconst (v := 1) d_L_law__1545 ic_1 ?_
  refine V_iadd d_L_law__1546 ?_
  obtain ⟨t1, ht1, hf⟩ := ob hf
  refine V_sld hX9 ht1 d_L_law__1547 ?_
  have hJj2 : ∀ j2 : Bool, j2 = (if t1 = 0 then (false : Bool) else true) → V G C F_L_law_ 1556 [some (.ref b9), some (.ref (G.2.1 + 0)), some (.ref (G.2.1 + 264)), some (.ref (G.2.1 + 275)), some (.int l4), none, none] [.int (b2i j2), .ref (G.2.1 + 0)] (pic G μ) n (K + 0) (KS + 0) := by
    intro j2 ej2
    subst ej2
    obtain ⟨q3, hq3, hf⟩ := ob hf
    refine B_callV1 (s_X11_untie hG hq3) k_0 clX11 m_X11_untie kv_RL_215 d_L_law__1556 rfl (Nat.le_of_ble_eq_true rfl) ⟨rfl, rfl, (show K + 0 ≤ 500000 by omega), (show KS + 0 ≤ 5000000 by omega), Nat.le_of_ble_eq_true rfl⟩ (fun n => ?_)
    refine V_aload_n d_L_law__1559 rfl rfl ?_
    refine V_aload_n d_L_law__1560 rfl rfl ?_
    refine V_iload d_L_law__1561 rfl ?_
    refine V_iconst (v := 1) d_L_law__1563 ic_1 ?_
    refine V_iadd d_L_law__1564 ?_
    obtain ⟨t4, ht4, hf⟩ := ob hf
    refine V_sld hX9 ht4 d_L_law__1565 ?_
    have hJj5 : ∀ j5 : Bool, j5 = (if t4 = 0 then (false : Bool) else true) → V G C F_L_law_ 1574 [some (.ref b9), some (.ref (G.2.1 + 0)), some (.ref (G.2.1 + 264)), some (.ref (G.2.1 + 275)), some (.int l4), none, none] [.int (b2i j5), .ref (G.2.1 + 264), .int q3.1] (pic G q3.2) n (K + 0) (KS + 0) := by
      intro j5 ej5
      subst ej5
      obtain ⟨q6, hq6, hf⟩ := ob hf
      refine B_callV1 (s_X12_untie hG hq6) k_264 clX12 m_X12_untie kv_RL_218 d_L_law__1574 rfl (Nat.le_of_ble_eq_true rfl) ⟨rfl, rfl, (show K + 0 ≤ 500000 by omega), (show KS + 0 ≤ 5000000 by omega), Nat.le_of_ble_eq_true rfl⟩ (fun n => ?_)
      refine V_icmp_eq (tgt := 2708) d_L_law__1577 (by decide) (fun c1577 => ?_) (fun c1577 => ?_)
      · replace hf := iteT c1577 hf
        refine V_widen (k2 := K + 8) (s2 := KS + 48) (by omega) (by omega) ?_
        refine V_less (ls' := [some _, some _, some _, some _, some _, none, none]) ⟨rfl, rfl, rfl, rfl, rfl, trivial⟩ ?_
        cases hf
        exact hK _
      · replace hf := iteF c1577 hf
        refine V_iconst (v := 0) d_L_law__1580 ic_0 ?_
        cases hf
    refine V_if_eq (tgt := 1573) d_L_law__1566 (by decide) (fun c1566 => ?_) (fun c1566 => ?_)
    · refine V_iconst (v := 0) d_L_law__1573 ic_0 ?_
      refine V_less (ls' := [some _, some _, some _, some _, some _, none, none]) ⟨rfl, rfl, rfl, rfl, rfl, trivial⟩ ?_
      exact hJj5 false (by rw [if_pos c1566])
    · refine V_iconst (v := 1) d_L_law__1569 ic_1 ?_
      refine V_goto (tgt := 1574) d_L_law__1570 (by decide) ?_
      refine V_less (ls' := [some _, some _, some _, some _, some _, none, none]) ⟨rfl, rfl, rfl, rfl, rfl, trivial⟩ ?_
      exact hJj5 true (by rw [if_neg c1566])
  refine V_if_eq (tgt := 1555) d_L_law__1548 (by decide) (fun c1548 => ?_) (fun c1548 => ?_)
  · refine V_iconst (v := 0) d_L_law__1555 ic_0 ?_
    refine V_less (ls' := [some _, some _, some _, some _, some _, none, none]) ⟨rfl, rfl, rfl, rfl, rfl, trivial⟩ ?_
    exact hJj2 false (by rw [if_pos c1548])
  · refine V_iconst (v := 1) d_L_law__1551 ic_1 ?_
    refine V_goto (tgt := 1556) d_L_law__1552 (by decide) ?_
    refine V_less (ls' := [some _, some _, some _, some _, some _, none, none]) ⟨rfl, rfl, rfl, rfl, rfl, trivial⟩ ?_
    exact hJj2 true (by rw [if_neg c1548])
theorem s_L_law__j1654 {G : Gl} (hG : G.1.stackTraces = false) {C : Cx} {n b9 K KS : Nat} {μ : Mem} {b9L : Nat} {xs : (Nat → Int32)} {l4 : Int32} (hX9 : ScX G C b9 b9L xs) (hKb : K + 8 ≤ 500000 ∧ KS + 48 ≤ 5000000) {r : Mem} (hf : f_L_law__j1654 μ b9L xs l4 = some r) (hK : ∀ n, V G C F_L_law_ 2708 [some (.ref b9), some (.ref (G.2.1 + 0)), some (.ref (G.2.1 + 264)), some (.ref (G.2.1 + 275)), some (.int l4), none, none] [] (pic G r) n (K + 8) (KS + 48)) : V G C F_L_law_ 1654 [some (.ref b9), some (.ref (G.2.1 + 0)), some (.ref (G.2.1 + 264)), some (.ref (G.2.1 + 275)), some (.int l4), none, none] [] (pic G μ) n (K + 3) (KS + 18) := by
  unfold f_L_law__j1654 at hf
  refine V_goto (tgt := 2708) d_L_law__1654 (by decide) ?_
  refine V_widen (k2 := K + 8) (s2 := KS + 48) (by omega) (by omega) ?_
  refine V_less (ls' := [some _, some _, some _, some _, some _, none, none]) ⟨rfl, rfl, rfl, rfl, rfl, trivial⟩ ?_
  cases hf
  exact hK _
theorem s_L_law__j1648 {G : Gl} (hG : G.1.stackTraces = false) {C : Cx} {n b9 K KS : Nat} {μ : Mem} {b9L : Nat} {xs : (Nat → Int32)} {l4 : Int32} {k0 : Int32} {k1 : Int32} (hX9 : ScX G C b9 b9L xs) (hKb : K + 8 ≤ 500000 ∧ KS + 48 ≤ 5000000) {r : Mem} (hf : f_L_law__j1648 μ b9L xs l4 k0 k1 = some r) (hK : ∀ n, V G C F_L_law_ 2708 [some (.ref b9), some (.ref (G.2.1 + 0)), some (.ref (G.2.1 + 264)), some (.ref (G.2.1 + 275)), some (.int l4), none, none] [] (pic G r) n (K + 8) (KS + 48)) : V G C F_L_law_ 1648 [some (.ref b9), some (.ref (G.2.1 + 0)), some (.ref (G.2.1 + 264)), some (.ref (G.2.1 + 275)), some (.int l4), none, none] [.long (Int32.toInt64 k1), .long (Int32.toInt64 k0)] (pic G μ) n (K + 3) (KS + 18) := by
  unfold f_L_law__j1648 at hf
  refine V_lcmp d_L_law__1648 ?_
  refine V_if_eq (tgt := 1654) d_L_law__1649 (by decide) (fun c1649 => ?_) (fun c1649 => ?_)
  · replace hf := iteT (lcT c1649) hf
    refine V_less (ls' := [some _, some _, some _, some _, some _, none, none]) ⟨rfl, rfl, rfl, rfl, rfl, trivial⟩ ?_
    exact s_L_law__j1654 hG hX9 hKb hf hK
  · replace hf := iteF (lcF c1649) hf
    refine V_iconst (v := 0) d_L_law__1652 ic_0 ?_
    cases hf
theorem s_L_law__j1582 {G : Gl} (hG : G.1.stackTraces = false) {C : Cx} {n b9 K KS : Nat} {μ : Mem} {b9L : Nat} {xs : (Nat → Int32)} {l4 : Int32} (hX9 : ScX G C b9 b9L xs) (hKb : K + 8 ≤ 500000 ∧ KS + 48 ≤ 5000000) {r : Mem} (hf : f_L_law__j1582 μ b9L xs l4 = some r) (hK : ∀ n, V G C F_L_law_ 2708 [some (.ref b9), some (.ref (G.2.1 + 0)), some (.ref (G.2.1 + 264)), some (.ref (G.2.1 + 275)), some (.int l4), none, none] [] (pic G r) n (K + 8) (KS + 48)) : V G C F_L_law_ 1582 [some (.ref b9), some (.ref (G.2.1 + 0)), some (.ref (G.2.1 + 264)), some (.ref (G.2.1 + 275)), some (.int l4), none, none] [] (pic G μ) n (K + 0) (KS + 0) := by
  unfold f_L_law__j1582 at hf
  refine V_aload_n d_L_law__1582 rfl rfl ?_
  refine V_aload_n d_L_law__1583 rfl rfl ?_
  refine V_iload d_L_law__1584 rfl ?_
  refine V_iconst (v := 1) d_L_law__1586 ic_1 ?_
  refine V_iadd d_L_law__1587 ?_
  obtain ⟨t1, ht1, hf⟩ := ob hf
  refine V_sld hX9 ht1 d_L_law__1588 ?_
  refine V_aload_n d_L_law__1589 rfl rfl ?_
  refine V_iload d_L_law__1590 rfl ?_
  refine V_iconst (v := 2) d_L_law__1592 ic_2 ?_
  refine V_iadd d_L_law__1593 ?_
  obtain ⟨t2, ht2, hf⟩ := ob hf
  refine V_sld hX9 ht2 d_L_law__1594 ?_
  refine V_aload_n d_L_law__1595 rfl rfl ?_
  obtain ⟨q3, hq3, hf⟩ := ob hf
  refine B_callSH (s_L_owes hG hq3) (kc' := (K + 3)) (ks' := (KS + 18)) m_L_owes ks_RL_219 d_L_law__1596 rfl (Nat.le_of_ble_eq_true rfl) ⟨rfl, rfl, (show K + 3 ≤ 500000 by omega), (show KS + 18 ≤ 5000000 by omega), Nat.le_of_ble_eq_true rfl⟩ (fun n => ?_)
  refine V_istore (ls' := [_, _, _, _, _, _, _]) d_L_law__1599 rfl rfl ?_
  refine V_aload_n d_L_law__1601 rfl rfl ?_
  refine V_aload_n d_L_law__1602 rfl rfl ?_
  refine V_iload d_L_law__1603 rfl ?_
  refine V_iconst (v := 1) d_L_law__1605 ic_1 ?_
  refine V_iadd d_L_law__1606 ?_
  obtain ⟨t4, ht4, hf⟩ := ob hf
  refine V_sld hX9 ht4 d_L_law__1607 ?_
  refine V_aload_n d_L_law__1608 rfl rfl ?_
  refine V_iload d_L_law__1609 rfl ?_
  refine V_iconst (v := 2) d_L_law__1611 ic_2 ?_
  refine V_iadd d_L_law__1612 ?_
  obtain ⟨t5, ht5, hf⟩ := ob hf
  refine V_sld hX9 ht5 d_L_law__1613 ?_
  obtain ⟨q6, hq6, hf⟩ := ob hf
  refine B_callV1 (s_X12_owes hG hq6) k_264 clX12 m_X12_owes kv_RL_221 d_L_law__1614 rfl (Nat.le_of_ble_eq_true rfl) ⟨rfl, rfl, (show K + 3 ≤ 500000 by omega), (show KS + 18 ≤ 5000000 by omega), Nat.le_of_ble_eq_true rfl⟩ (fun n => ?_)
  refine V_istore (ls' := [_, _, _, _, _, _, _]) d_L_law__1617 rfl rfl ?_
  refine V_aload_n d_L_law__1619 rfl rfl ?_
  obtain ⟨t7, ht7, hf⟩ := ob hf
  refine B_callV1 (s_X12_thrown hG ht7) k_264 clX12 m_X12_thrown kv_RL_145 d_L_law__1620 rfl (Nat.le_of_ble_eq_true rfl) ⟨rfl, rfl, (show K + 3 ≤ 500000 by omega), (show KS + 18 ≤ 5000000 by omega), Nat.le_of_ble_eq_true rfl⟩ (fun n => ?_)
  refine V_iload d_L_law__1623 rfl ?_
  refine V_icmp_eq (tgt := 1630) d_L_law__1625 (by decide) (fun c1625 => ?_) (fun c1625 => ?_)
  · replace hf := iteT c1625 hf
    refine V_iload d_L_law__1630 rfl ?_
    refine V_if_ne (tgt := 1654) d_L_law__1632 (by decide) (fun c1632 => ?_) (fun c1632 => ?_)
    · replace hf := iteF c1632 hf
      refine V_less (ls' := [some _, some _, some _, some _, some _, none, none]) ⟨rfl, rfl, rfl, rfl, rfl, trivial⟩ ?_
      exact s_L_law__j1654 hG hX9 hKb hf hK
    · replace hf := iteT c1632 hf
      refine V_aload_n d_L_law__1635 rfl rfl ?_
      refine V_iconst (v := 0) d_L_law__1636 ic_0 ?_
      obtain ⟨t8, ht8, hf⟩ := ob hf
      refine B_lald k_275 ht8 d_L_law__1637 ?_
      refine V_iload d_L_law__1638 rfl ?_
      refine V_if_eq (tgt := 1647) d_L_law__1640 (by decide) (fun c1640 => ?_) (fun c1640 => ?_)
      · replace hf := iteF (b2i_nt (b2i_eq0 c1640)) hf
        refine V_lconst (v := Int32.toInt64 0) d_L_law__1647 lc_0 ?_
        refine V_less (ls' := [some _, some _, some _, some _, some _, none, none]) ⟨rfl, rfl, rfl, rfl, rfl, trivial⟩ ?_
        exact s_L_law__j1648 hG hX9 hKb hf hK
      · replace hf := iteT (b2i_ne0 c1640) hf
        refine V_lconst (v := Int32.toInt64 1) d_L_law__1643 lc_1 ?_
        refine V_goto (tgt := 1648) d_L_law__1644 (by decide) ?_
        refine V_less (ls' := [some _, some _, some _, some _, some _, none, none]) ⟨rfl, rfl, rfl, rfl, rfl, trivial⟩ ?_
        exact s_L_law__j1648 hG hX9 hKb hf hK
  · replace hf := iteF c1625 hf
    refine V_iconst (v := 0) d_L_law__1628 ic_0 ?_
    cases hf
theorem s_L_law__j1710 {G : Gl} (hG : G.1.stackTraces = false) {C : Cx} {n b9 K KS : Nat} {μ : Mem} {b9L : Nat} {xs : (Nat → Int32)} {l4 : Int32} (hX9 : ScX G C b9 b9L xs) (hKb : K + 8 ≤ 500000 ∧ KS + 48 ≤ 5000000) {r : Mem} (hf : f_L_law__j1710 μ b9L xs l4 = some r) (hK : ∀ n, V G C F_L_law_ 2708 [some (.ref b9), some (.ref (G.2.1 + 0)), some (.ref (G.2.1 + 264)), some (.ref (G.2.1 + 275)), some (.int l4), none, none] [] (pic G r) n (K + 8) (KS + 48)) : V G C F_L_law_ 1710 [some (.ref b9), some (.ref (G.2.1 + 0)), some (.ref (G.2.1 + 264)), some (.ref (G.2.1 + 275)), some (.int l4), none, none] [] (pic G μ) n (K + 1) (KS + 6) := by
  unfold f_L_law__j1710 at hf
  refine V_goto (tgt := 2708) d_L_law__1710 (by decide) ?_
  refine V_widen (k2 := K + 8) (s2 := KS + 48) (by omega) (by omega) ?_
  refine V_less (ls' := [some _, some _, some _, some _, some _, none, none]) ⟨rfl, rfl, rfl, rfl, rfl, trivial⟩ ?_
  cases hf
  exact hK _
theorem s_L_law__j1657 {G : Gl} (hG : G.1.stackTraces = false) {C : Cx} {n b9 K KS : Nat} {μ : Mem} {b9L : Nat} {xs : (Nat → Int32)} {l4 : Int32} (hX9 : ScX G C b9 b9L xs) (hKb : K + 8 ≤ 500000 ∧ KS + 48 ≤ 5000000) {r : Mem} (hf : f_L_law__j1657 μ b9L xs l4 = some r) (hK : ∀ n, V G C F_L_law_ 2708 [some (.ref b9), some (.ref (G.2.1 + 0)), some (.ref (G.2.1 + 264)), some (.ref (G.2.1 + 275)), some (.int l4), none, none] [] (pic G r) n (K + 8) (KS + 48)) : V G C F_L_law_ 1657 [some (.ref b9), some (.ref (G.2.1 + 0)), some (.ref (G.2.1 + 264)), some (.ref (G.2.1 + 275)), some (.int l4), none, none] [] (pic G μ) n (K + 0) (KS + 0) := by
  unfold f_L_law__j1657 at hf
  refine V_aload_n d_L_law__1657 rfl rfl ?_
  refine V_aload_n d_L_law__1658 rfl rfl ?_
  refine V_iload d_L_law__1659 rfl ?_
  refine V_iconst (v := 1) d_L_law__1661 ic_1 ?_
  refine V_iadd d_L_law__1662 ?_
  obtain ⟨t1, ht1, hf⟩ := ob hf
  refine V_sld hX9 ht1 d_L_law__1663 ?_
  refine V_aload_n d_L_law__1664 rfl rfl ?_
  obtain ⟨q2, hq2, hf⟩ := ob hf
  refine B_callSH (s_L_leads hG hq2) (kc' := (K + 1)) (ks' := (KS + 6)) m_L_leads ks_RL_222 d_L_law__1665 rfl (Nat.le_of_ble_eq_true rfl) ⟨rfl, rfl, (show K + 1 ≤ 500000 by omega), (show KS + 6 ≤ 5000000 by omega), Nat.le_of_ble_eq_true rfl⟩ (fun n => ?_)
  refine V_istore (ls' := [_, _, _, _, _, _, _]) d_L_law__1668 rfl rfl ?_
  refine V_aload_n d_L_law__1670 rfl rfl ?_
  refine V_aload_n d_L_law__1671 rfl rfl ?_
  refine V_iload d_L_law__1672 rfl ?_
  refine V_iconst (v := 1) d_L_law__1674 ic_1 ?_
  refine V_iadd d_L_law__1675 ?_
  obtain ⟨t3, ht3, hf⟩ := ob hf
  refine V_sld hX9 ht3 d_L_law__1676 ?_
  obtain ⟨q4, hq4, hf⟩ := ob hf
  refine B_callV1 (s_X12_leads hG hq4) k_264 clX12 m_X12_leads kv_RL_224 d_L_law__1677 rfl (Nat.le_of_ble_eq_true rfl) ⟨rfl, rfl, (show K + 1 ≤ 500000 by omega), (show KS + 6 ≤ 5000000 by omega), Nat.le_of_ble_eq_true rfl⟩ (fun n => ?_)
  refine V_istore (ls' := [_, _, _, _, _, _, _]) d_L_law__1680 rfl rfl ?_
  refine V_aload_n d_L_law__1682 rfl rfl ?_
  obtain ⟨t5, ht5, hf⟩ := ob hf
  refine B_callV1 (s_X12_thrown hG ht5) k_264 clX12 m_X12_thrown kv_RL_145 d_L_law__1683 rfl (Nat.le_of_ble_eq_true rfl) ⟨rfl, rfl, (show K + 1 ≤ 500000 by omega), (show KS + 6 ≤ 5000000 by omega), Nat.le_of_ble_eq_true rfl⟩ (fun n => ?_)
  refine V_iload d_L_law__1686 rfl ?_
  refine V_icmp_eq (tgt := 1693) d_L_law__1688 (by decide) (fun c1688 => ?_) (fun c1688 => ?_)
  · replace hf := iteT c1688 hf
    refine V_iload d_L_law__1693 rfl ?_
    refine V_if_ne (tgt := 1710) d_L_law__1695 (by decide) (fun c1695 => ?_) (fun c1695 => ?_)
    · replace hf := iteF c1695 hf
      refine V_less (ls' := [some _, some _, some _, some _, some _, none, none]) ⟨rfl, rfl, rfl, rfl, rfl, trivial⟩ ?_
      exact s_L_law__j1710 hG hX9 hKb hf hK
    · replace hf := iteT c1695 hf
      refine V_aload_n d_L_law__1698 rfl rfl ?_
      refine V_iconst (v := 0) d_L_law__1699 ic_0 ?_
      obtain ⟨t6, ht6, hf⟩ := ob hf
      refine B_lald k_275 ht6 d_L_law__1700 ?_
      refine V_iload d_L_law__1701 rfl ?_
      refine V_i2l d_L_law__1703 ?_
      refine V_lcmp d_L_law__1704 ?_
      refine V_if_eq (tgt := 1710) d_L_law__1705 (by decide) (fun c1705 => ?_) (fun c1705 => ?_)
      · replace hf := iteT (lcT c1705) hf
        refine V_less (ls' := [some _, some _, some _, some _, some _, none, none]) ⟨rfl, rfl, rfl, rfl, rfl, trivial⟩ ?_
        exact s_L_law__j1710 hG hX9 hKb hf hK
      · replace hf := iteF (lcF c1705) hf
        refine V_iconst (v := 0) d_L_law__1708 ic_0 ?_
        cases hf
  · replace hf := iteF c1688 hf
    refine V_iconst (v := 0) d_L_law__1691 ic_0 ?_
    cases hf
theorem s_L_law__j1794 {G : Gl} (hG : G.1.stackTraces = false) {C : Cx} {n b9 K KS : Nat} {μ : Mem} {b9L : Nat} {xs : (Nat → Int32)} {l4 : Int32} (hX9 : ScX G C b9 b9L xs) (hKb : K + 8 ≤ 500000 ∧ KS + 48 ≤ 5000000) {r : Mem} (hf : f_L_law__j1794 μ b9L xs l4 = some r) (hK : ∀ n, V G C F_L_law_ 2708 [some (.ref b9), some (.ref (G.2.1 + 0)), some (.ref (G.2.1 + 264)), some (.ref (G.2.1 + 275)), some (.int l4), none, none] [] (pic G r) n (K + 8) (KS + 48)) : V G C F_L_law_ 1794 [some (.ref b9), some (.ref (G.2.1 + 0)), some (.ref (G.2.1 + 264)), some (.ref (G.2.1 + 275)), some (.int l4), none, none] [] (pic G μ) n (K + 1) (KS + 6) := by
  unfold f_L_law__j1794 at hf
  refine V_goto (tgt := 2708) d_L_law__1794 (by decide) ?_
  refine V_widen (k2 := K + 8) (s2 := KS + 48) (by omega) (by omega) ?_
  refine V_less (ls' := [some _, some _, some _, some _, some _, none, none]) ⟨rfl, rfl, rfl, rfl, rfl, trivial⟩ ?_
  cases hf
  exact hK _
theorem s_L_law__j1713 {G : Gl} (hG : G.1.stackTraces = false) {C : Cx} {n b9 K KS : Nat} {μ : Mem} {b9L : Nat} {xs : (Nat → Int32)} {l4 : Int32} (hX9 : ScX G C b9 b9L xs) (hKb : K + 8 ≤ 500000 ∧ KS + 48 ≤ 5000000) {r : Mem} (hf : f_L_law__j1713 μ b9L xs l4 = some r) (hK : ∀ n, V G C F_L_law_ 2708 [some (.ref b9), some (.ref (G.2.1 + 0)), some (.ref (G.2.1 + 264)), some (.ref (G.2.1 + 275)), some (.int l4), none, none] [] (pic G r) n (K + 8) (KS + 48)) : V G C F_L_law_ 1713 [some (.ref b9), some (.ref (G.2.1 + 0)), some (.ref (G.2.1 + 264)), some (.ref (G.2.1 + 275)), some (.int l4), none, none] [] (pic G μ) n (K + 0) (KS + 0) := by
  unfold f_L_law__j1713 at hf
  refine V_aload_n d_L_law__1713 rfl rfl ?_
  refine V_aload_n d_L_law__1714 rfl rfl ?_
  refine V_iload d_L_law__1715 rfl ?_
  refine V_iconst (v := 1) d_L_law__1717 ic_1 ?_
  refine V_iadd d_L_law__1718 ?_
  obtain ⟨t1, ht1, hf⟩ := ob hf
  refine V_sld hX9 ht1 d_L_law__1719 ?_
  refine V_aload_n d_L_law__1720 rfl rfl ?_
  refine V_iload d_L_law__1721 rfl ?_
  refine V_iconst (v := 2) d_L_law__1723 ic_2 ?_
  refine V_iadd d_L_law__1724 ?_
  obtain ⟨t2, ht2, hf⟩ := ob hf
  refine V_sld hX9 ht2 d_L_law__1725 ?_
  have hJj3 : ∀ j3 : Bool, j3 = (if t2 = 0 then (false : Bool) else true) → V G C F_L_law_ 1734 [some (.ref b9), some (.ref (G.2.1 + 0)), some (.ref (G.2.1 + 264)), some (.ref (G.2.1 + 275)), some (.int l4), none, none] [.int (b2i j3), .int t1, .ref (G.2.1 + 0)] (pic G μ) n (K + 0) (KS + 0) := by
    intro j3 ej3
    subst ej3
    refine V_aload_n d_L_law__1734 rfl rfl ?_
    obtain ⟨q4, hq4, hf⟩ := ob hf
    refine B_callSH (s_L_call hG hq4) (kc' := (K + 1)) (ks' := (KS + 6)) m_L_call ks_RL_225 d_L_law__1735 rfl (Nat.le_of_ble_eq_true rfl) ⟨rfl, rfl, (show K + 1 ≤ 500000 by omega), (show KS + 6 ≤ 5000000 by omega), Nat.le_of_ble_eq_true rfl⟩ (fun n => ?_)
    refine V_istore (ls' := [_, _, _, _, _, _, _]) d_L_law__1738 rfl rfl ?_
    refine V_aload_n d_L_law__1740 rfl rfl ?_
    refine V_aload_n d_L_law__1741 rfl rfl ?_
    refine V_iload d_L_law__1742 rfl ?_
    refine V_iconst (v := 1) d_L_law__1744 ic_1 ?_
    refine V_iadd d_L_law__1745 ?_
    obtain ⟨t5, ht5, hf⟩ := ob hf
    refine V_sld hX9 ht5 d_L_law__1746 ?_
    refine V_aload_n d_L_law__1747 rfl rfl ?_
    refine V_iload d_L_law__1748 rfl ?_
    refine V_iconst (v := 2) d_L_law__1750 ic_2 ?_
    refine V_iadd d_L_law__1751 ?_
    obtain ⟨t6, ht6, hf⟩ := ob hf
    refine V_sld hX9 ht6 d_L_law__1752 ?_
    have hJj7 : ∀ j7 : Bool, j7 = (if t6 = 0 then (false : Bool) else true) → V G C F_L_law_ 1761 [some (.ref b9), some (.ref (G.2.1 + 0)), some (.ref (G.2.1 + 264)), some (.ref (G.2.1 + 275)), some (.int l4), some (.int q4.1), none] [.int (b2i j7), .int t5, .ref (G.2.1 + 264)] (pic G q4.2) n (K + 1) (KS + 6) := by
      intro j7 ej7
      subst ej7
      obtain ⟨q8, hq8, hf⟩ := ob hf
      refine B_callV1 (s_X12_call hG hq8) k_264 clX12 m_X12_call kv_RL_228 d_L_law__1761 rfl (Nat.le_of_ble_eq_true rfl) ⟨rfl, rfl, (show K + 1 ≤ 500000 by omega), (show KS + 6 ≤ 5000000 by omega), Nat.le_of_ble_eq_true rfl⟩ (fun n => ?_)
      refine V_istore (ls' := [_, _, _, _, _, _, _]) d_L_law__1764 rfl rfl ?_
      refine V_aload_n d_L_law__1766 rfl rfl ?_
      obtain ⟨t9, ht9, hf⟩ := ob hf
      refine B_callV1 (s_X12_thrown hG ht9) k_264 clX12 m_X12_thrown kv_RL_145 d_L_law__1767 rfl (Nat.le_of_ble_eq_true rfl) ⟨rfl, rfl, (show K + 1 ≤ 500000 by omega), (show KS + 6 ≤ 5000000 by omega), Nat.le_of_ble_eq_true rfl⟩ (fun n => ?_)
      refine V_iload d_L_law__1770 rfl ?_
      refine V_icmp_eq (tgt := 1777) d_L_law__1772 (by decide) (fun c1772 => ?_) (fun c1772 => ?_)
      · replace hf := iteT c1772 hf
        refine V_iload d_L_law__1777 rfl ?_
        refine V_if_ne (tgt := 1794) d_L_law__1779 (by decide) (fun c1779 => ?_) (fun c1779 => ?_)
        · replace hf := iteF c1779 hf
          refine V_less (ls' := [some _, some _, some _, some _, some _, none, none]) ⟨rfl, rfl, rfl, rfl, rfl, trivial⟩ ?_
          exact s_L_law__j1794 hG hX9 hKb hf hK
        · replace hf := iteT c1779 hf
          refine V_aload_n d_L_law__1782 rfl rfl ?_
          refine V_iconst (v := 0) d_L_law__1783 ic_0 ?_
          obtain ⟨t10, ht10, hf⟩ := ob hf
          refine B_lald k_275 ht10 d_L_law__1784 ?_
          refine V_iload d_L_law__1785 rfl ?_
          refine V_i2l d_L_law__1787 ?_
          refine V_lcmp d_L_law__1788 ?_
          refine V_if_eq (tgt := 1794) d_L_law__1789 (by decide) (fun c1789 => ?_) (fun c1789 => ?_)
          · replace hf := iteT (lcT c1789) hf
            refine V_less (ls' := [some _, some _, some _, some _, some _, none, none]) ⟨rfl, rfl, rfl, rfl, rfl, trivial⟩ ?_
            exact s_L_law__j1794 hG hX9 hKb hf hK
          · replace hf := iteF (lcF c1789) hf
            refine V_iconst (v := 0) d_L_law__1792 ic_0 ?_
            cases hf
      · replace hf := iteF c1772 hf
        refine V_iconst (v := 0) d_L_law__1775 ic_0 ?_
        cases hf
    refine V_if_eq (tgt := 1760) d_L_law__1753 (by decide) (fun c1753 => ?_) (fun c1753 => ?_)
    · refine V_iconst (v := 0) d_L_law__1760 ic_0 ?_
      refine V_less (ls' := [some _, some _, some _, some _, some _, some _, none]) ⟨rfl, rfl, rfl, rfl, rfl, rfl, trivial⟩ ?_
      exact hJj7 false (by rw [if_pos c1753])
    · refine V_iconst (v := 1) d_L_law__1756 ic_1 ?_
      refine V_goto (tgt := 1761) d_L_law__1757 (by decide) ?_
      refine V_less (ls' := [some _, some _, some _, some _, some _, some _, none]) ⟨rfl, rfl, rfl, rfl, rfl, rfl, trivial⟩ ?_
      exact hJj7 true (by rw [if_neg c1753])
  refine V_if_eq (tgt := 1733) d_L_law__1726 (by decide) (fun c1726 => ?_) (fun c1726 => ?_)
  · refine V_iconst (v := 0) d_L_law__1733 ic_0 ?_
    refine V_less (ls' := [some _, some _, some _, some _, some _, none, none]) ⟨rfl, rfl, rfl, rfl, rfl, trivial⟩ ?_
    exact hJj3 false (by rw [if_pos c1726])
  · refine V_iconst (v := 1) d_L_law__1729 ic_1 ?_
    refine V_goto (tgt := 1734) d_L_law__1730 (by decide) ?_
    refine V_less (ls' := [some _, some _, some _, some _, some _, none, none]) ⟨rfl, rfl, rfl, rfl, rfl, trivial⟩ ?_
    exact hJj3 true (by rw [if_neg c1726])
theorem s_L_law__j1850 {G : Gl} (hG : G.1.stackTraces = false) {C : Cx} {n b9 K KS : Nat} {μ : Mem} {b9L : Nat} {xs : (Nat → Int32)} {l4 : Int32} (hX9 : ScX G C b9 b9L xs) (hKb : K + 8 ≤ 500000 ∧ KS + 48 ≤ 5000000) {r : Mem} (hf : f_L_law__j1850 μ b9L xs l4 = some r) (hK : ∀ n, V G C F_L_law_ 2708 [some (.ref b9), some (.ref (G.2.1 + 0)), some (.ref (G.2.1 + 264)), some (.ref (G.2.1 + 275)), some (.int l4), none, none] [] (pic G r) n (K + 8) (KS + 48)) : V G C F_L_law_ 1850 [some (.ref b9), some (.ref (G.2.1 + 0)), some (.ref (G.2.1 + 264)), some (.ref (G.2.1 + 275)), some (.int l4), none, none] [] (pic G μ) n (K + 1) (KS + 6) := by
  unfold f_L_law__j1850 at hf
  refine V_goto (tgt := 2708) d_L_law__1850 (by decide) ?_
  refine V_widen (k2 := K + 8) (s2 := KS + 48) (by omega) (by omega) ?_
  refine V_less (ls' := [some _, some _, some _, some _, some _, none, none]) ⟨rfl, rfl, rfl, rfl, rfl, trivial⟩ ?_
  cases hf
  exact hK _
theorem s_L_law__j1797 {G : Gl} (hG : G.1.stackTraces = false) {C : Cx} {n b9 K KS : Nat} {μ : Mem} {b9L : Nat} {xs : (Nat → Int32)} {l4 : Int32} (hX9 : ScX G C b9 b9L xs) (hKb : K + 8 ≤ 500000 ∧ KS + 48 ≤ 5000000) {r : Mem} (hf : f_L_law__j1797 μ b9L xs l4 = some r) (hK : ∀ n, V G C F_L_law_ 2708 [some (.ref b9), some (.ref (G.2.1 + 0)), some (.ref (G.2.1 + 264)), some (.ref (G.2.1 + 275)), some (.int l4), none, none] [] (pic G r) n (K + 8) (KS + 48)) : V G C F_L_law_ 1797 [some (.ref b9), some (.ref (G.2.1 + 0)), some (.ref (G.2.1 + 264)), some (.ref (G.2.1 + 275)), some (.int l4), none, none] [] (pic G μ) n (K + 0) (KS + 0) := by
  unfold f_L_law__j1797 at hf
  refine V_aload_n d_L_law__1797 rfl rfl ?_
  refine V_aload_n d_L_law__1798 rfl rfl ?_
  refine V_iload d_L_law__1799 rfl ?_
  refine V_iconst (v := 1) d_L_law__1801 ic_1 ?_
  refine V_iadd d_L_law__1802 ?_
  obtain ⟨t1, ht1, hf⟩ := ob hf
  refine V_sld hX9 ht1 d_L_law__1803 ?_
  refine V_aload_n d_L_law__1804 rfl rfl ?_
  obtain ⟨q2, hq2, hf⟩ := ob hf
  refine B_callSH (s_L_breaks hG hq2) (kc' := (K + 1)) (ks' := (KS + 6)) m_L_breaks ks_RL_229 d_L_law__1805 rfl (Nat.le_of_ble_eq_true rfl) ⟨rfl, rfl, (show K + 1 ≤ 500000 by omega), (show KS + 6 ≤ 5000000 by omega), Nat.le_of_ble_eq_true rfl⟩ (fun n => ?_)
  refine V_istore (ls' := [_, _, _, _, _, _, _]) d_L_law__1808 rfl rfl ?_
  refine V_aload_n d_L_law__1810 rfl rfl ?_
  refine V_aload_n d_L_law__1811 rfl rfl ?_
  refine V_iload d_L_law__1812 rfl ?_
  refine V_iconst (v := 1) d_L_law__1814 ic_1 ?_
  refine V_iadd d_L_law__1815 ?_
  obtain ⟨t3, ht3, hf⟩ := ob hf
  refine V_sld hX9 ht3 d_L_law__1816 ?_
  obtain ⟨q4, hq4, hf⟩ := ob hf
  refine B_callV1 (s_X12_breaks hG hq4) k_264 clX12 m_X12_breaks kv_RL_231 d_L_law__1817 rfl (Nat.le_of_ble_eq_true rfl) ⟨rfl, rfl, (show K + 1 ≤ 500000 by omega), (show KS + 6 ≤ 5000000 by omega), Nat.le_of_ble_eq_true rfl⟩ (fun n => ?_)
  refine V_istore (ls' := [_, _, _, _, _, _, _]) d_L_law__1820 rfl rfl ?_
  refine V_aload_n d_L_law__1822 rfl rfl ?_
  obtain ⟨t5, ht5, hf⟩ := ob hf
  refine B_callV1 (s_X12_thrown hG ht5) k_264 clX12 m_X12_thrown kv_RL_145 d_L_law__1823 rfl (Nat.le_of_ble_eq_true rfl) ⟨rfl, rfl, (show K + 1 ≤ 500000 by omega), (show KS + 6 ≤ 5000000 by omega), Nat.le_of_ble_eq_true rfl⟩ (fun n => ?_)
  refine V_iload d_L_law__1826 rfl ?_
  refine V_icmp_eq (tgt := 1833) d_L_law__1828 (by decide) (fun c1828 => ?_) (fun c1828 => ?_)
  · replace hf := iteT c1828 hf
    refine V_iload d_L_law__1833 rfl ?_
    refine V_if_ne (tgt := 1850) d_L_law__1835 (by decide) (fun c1835 => ?_) (fun c1835 => ?_)
    · replace hf := iteF c1835 hf
      refine V_less (ls' := [some _, some _, some _, some _, some _, none, none]) ⟨rfl, rfl, rfl, rfl, rfl, trivial⟩ ?_
      exact s_L_law__j1850 hG hX9 hKb hf hK
    · replace hf := iteT c1835 hf
      refine V_aload_n d_L_law__1838 rfl rfl ?_
      refine V_iconst (v := 0) d_L_law__1839 ic_0 ?_
      obtain ⟨t6, ht6, hf⟩ := ob hf
      refine B_lald k_275 ht6 d_L_law__1840 ?_
      refine V_iload d_L_law__1841 rfl ?_
      refine V_i2l d_L_law__1843 ?_
      refine V_lcmp d_L_law__1844 ?_
      refine V_if_eq (tgt := 1850) d_L_law__1845 (by decide) (fun c1845 => ?_) (fun c1845 => ?_)
      · replace hf := iteT (lcT c1845) hf
        refine V_less (ls' := [some _, some _, some _, some _, some _, none, none]) ⟨rfl, rfl, rfl, rfl, rfl, trivial⟩ ?_
        exact s_L_law__j1850 hG hX9 hKb hf hK
      · replace hf := iteF (lcF c1845) hf
        refine V_iconst (v := 0) d_L_law__1848 ic_0 ?_
        cases hf
  · replace hf := iteF c1828 hf
    refine V_iconst (v := 0) d_L_law__1831 ic_0 ?_
    cases hf
theorem s_L_law__j1906 {G : Gl} (hG : G.1.stackTraces = false) {C : Cx} {n b9 K KS : Nat} {μ : Mem} {b9L : Nat} {xs : (Nat → Int32)} {l4 : Int32} (hX9 : ScX G C b9 b9L xs) (hKb : K + 8 ≤ 500000 ∧ KS + 48 ≤ 5000000) {r : Mem} (hf : f_L_law__j1906 μ b9L xs l4 = some r) (hK : ∀ n, V G C F_L_law_ 2708 [some (.ref b9), some (.ref (G.2.1 + 0)), some (.ref (G.2.1 + 264)), some (.ref (G.2.1 + 275)), some (.int l4), none, none] [] (pic G r) n (K + 8) (KS + 48)) : V G C F_L_law_ 1906 [some (.ref b9), some (.ref (G.2.1 + 0)), some (.ref (G.2.1 + 264)), some (.ref (G.2.1 + 275)), some (.int l4), none, none] [] (pic G μ) n (K + 1) (KS + 6) := by
  unfold f_L_law__j1906 at hf
  refine V_goto (tgt := 2708) d_L_law__1906 (by decide) ?_
  refine V_widen (k2 := K + 8) (s2 := KS + 48) (by omega) (by omega) ?_
  refine V_less (ls' := [some _, some _, some _, some _, some _, none, none]) ⟨rfl, rfl, rfl, rfl, rfl, trivial⟩ ?_
  cases hf
  exact hK _
theorem s_L_law__j1853 {G : Gl} (hG : G.1.stackTraces = false) {C : Cx} {n b9 K KS : Nat} {μ : Mem} {b9L : Nat} {xs : (Nat → Int32)} {l4 : Int32} (hX9 : ScX G C b9 b9L xs) (hKb : K + 8 ≤ 500000 ∧ KS + 48 ≤ 5000000) {r : Mem} (hf : f_L_law__j1853 μ b9L xs l4 = some r) (hK : ∀ n, V G C F_L_law_ 2708 [some (.ref b9), some (.ref (G.2.1 + 0)), some (.ref (G.2.1 + 264)), some (.ref (G.2.1 + 275)), some (.int l4), none, none] [] (pic G r) n (K + 8) (KS + 48)) : V G C F_L_law_ 1853 [some (.ref b9), some (.ref (G.2.1 + 0)), some (.ref (G.2.1 + 264)), some (.ref (G.2.1 + 275)), some (.int l4), none, none] [] (pic G μ) n (K + 0) (KS + 0) := by
  unfold f_L_law__j1853 at hf
  refine V_aload_n d_L_law__1853 rfl rfl ?_
  refine V_aload_n d_L_law__1854 rfl rfl ?_
  refine V_iload d_L_law__1855 rfl ?_
  refine V_iconst (v := 1) d_L_law__1857 ic_1 ?_
  refine V_iadd d_L_law__1858 ?_
  obtain ⟨t1, ht1, hf⟩ := ob hf
  refine V_sld hX9 ht1 d_L_law__1859 ?_
  refine V_aload_n d_L_law__1860 rfl rfl ?_
  obtain ⟨q2, hq2, hf⟩ := ob hf
  refine B_callSH (s_L_mercy hG hq2) (kc' := (K + 1)) (ks' := (KS + 6)) m_L_mercy ks_RL_232 d_L_law__1861 rfl (Nat.le_of_ble_eq_true rfl) ⟨rfl, rfl, (show K + 1 ≤ 500000 by omega), (show KS + 6 ≤ 5000000 by omega), Nat.le_of_ble_eq_true rfl⟩ (fun n => ?_)
  refine V_istore (ls' := [_, _, _, _, _, _, _]) d_L_law__1864 rfl rfl ?_
  refine V_aload_n d_L_law__1866 rfl rfl ?_
  refine V_aload_n d_L_law__1867 rfl rfl ?_
  refine V_iload d_L_law__1868 rfl ?_
  refine V_iconst (v := 1) d_L_law__1870 ic_1 ?_
  refine V_iadd d_L_law__1871 ?_
  obtain ⟨t3, ht3, hf⟩ := ob hf
  refine V_sld hX9 ht3 d_L_law__1872 ?_
  obtain ⟨q4, hq4, hf⟩ := ob hf
  refine B_callV1 (s_X12_mercy hG hq4) k_264 clX12 m_X12_mercy kv_RL_234 d_L_law__1873 rfl (Nat.le_of_ble_eq_true rfl) ⟨rfl, rfl, (show K + 1 ≤ 500000 by omega), (show KS + 6 ≤ 5000000 by omega), Nat.le_of_ble_eq_true rfl⟩ (fun n => ?_)
  refine V_istore (ls' := [_, _, _, _, _, _, _]) d_L_law__1876 rfl rfl ?_
  refine V_aload_n d_L_law__1878 rfl rfl ?_
  obtain ⟨t5, ht5, hf⟩ := ob hf
  refine B_callV1 (s_X12_thrown hG ht5) k_264 clX12 m_X12_thrown kv_RL_145 d_L_law__1879 rfl (Nat.le_of_ble_eq_true rfl) ⟨rfl, rfl, (show K + 1 ≤ 500000 by omega), (show KS + 6 ≤ 5000000 by omega), Nat.le_of_ble_eq_true rfl⟩ (fun n => ?_)
  refine V_iload d_L_law__1882 rfl ?_
  refine V_icmp_eq (tgt := 1889) d_L_law__1884 (by decide) (fun c1884 => ?_) (fun c1884 => ?_)
  · replace hf := iteT c1884 hf
    refine V_iload d_L_law__1889 rfl ?_
    refine V_if_ne (tgt := 1906) d_L_law__1891 (by decide) (fun c1891 => ?_) (fun c1891 => ?_)
    · replace hf := iteF c1891 hf
      refine V_less (ls' := [some _, some _, some _, some _, some _, none, none]) ⟨rfl, rfl, rfl, rfl, rfl, trivial⟩ ?_
      exact s_L_law__j1906 hG hX9 hKb hf hK
    · replace hf := iteT c1891 hf
      refine V_aload_n d_L_law__1894 rfl rfl ?_
      refine V_iconst (v := 0) d_L_law__1895 ic_0 ?_
      obtain ⟨t6, ht6, hf⟩ := ob hf
      refine B_lald k_275 ht6 d_L_law__1896 ?_
      refine V_iload d_L_law__1897 rfl ?_
      refine V_i2l d_L_law__1899 ?_
      refine V_lcmp d_L_law__1900 ?_
      refine V_if_eq (tgt := 1906) d_L_law__1901 (by decide) (fun c1901 => ?_) (fun c1901 => ?_)
      · replace hf := iteT (lcT c1901) hf
        refine V_less (ls' := [some _, some _, some _, some _, some _, none, none]) ⟨rfl, rfl, rfl, rfl, rfl, trivial⟩ ?_
        exact s_L_law__j1906 hG hX9 hKb hf hK
      · replace hf := iteF (lcF c1901) hf
        refine V_iconst (v := 0) d_L_law__1904 ic_0 ?_
        cases hf
  · replace hf := iteF c1884 hf
    refine V_iconst (v := 0) d_L_law__1887 ic_0 ?_
    cases hf
theorem s_L_law__j1962 {G : Gl} (hG : G.1.stackTraces = false) {C : Cx} {n b9 K KS : Nat} {μ : Mem} {b9L : Nat} {xs : (Nat → Int32)} {l4 : Int32} (hX9 : ScX G C b9 b9L xs) (hKb : K + 8 ≤ 500000 ∧ KS + 48 ≤ 5000000) {r : Mem} (hf : f_L_law__j1962 μ b9L xs l4 = some r) (hK : ∀ n, V G C F_L_law_ 2708 [some (.ref b9), some (.ref (G.2.1 + 0)), some (.ref (G.2.1 + 264)), some (.ref (G.2.1 + 275)), some (.int l4), none, none] [] (pic G r) n (K + 8) (KS + 48)) : V G C F_L_law_ 1962 [some (.ref b9), some (.ref (G.2.1 + 0)), some (.ref (G.2.1 + 264)), some (.ref (G.2.1 + 275)), some (.int l4), none, none] [] (pic G μ) n (K + 1) (KS + 6) := by
  unfold f_L_law__j1962 at hf
  refine V_goto (tgt := 2708) d_L_law__1962 (by decide) ?_
  refine V_widen (k2 := K + 8) (s2 := KS + 48) (by omega) (by omega) ?_
  refine V_less (ls' := [some _, some _, some _, some _, some _, none, none]) ⟨rfl, rfl, rfl, rfl, rfl, trivial⟩ ?_
  cases hf
  exact hK _
theorem s_L_law__j1909 {G : Gl} (hG : G.1.stackTraces = false) {C : Cx} {n b9 K KS : Nat} {μ : Mem} {b9L : Nat} {xs : (Nat → Int32)} {l4 : Int32} (hX9 : ScX G C b9 b9L xs) (hKb : K + 8 ≤ 500000 ∧ KS + 48 ≤ 5000000) {r : Mem} (hf : f_L_law__j1909 μ b9L xs l4 = some r) (hK : ∀ n, V G C F_L_law_ 2708 [some (.ref b9), some (.ref (G.2.1 + 0)), some (.ref (G.2.1 + 264)), some (.ref (G.2.1 + 275)), some (.int l4), none, none] [] (pic G r) n (K + 8) (KS + 48)) : V G C F_L_law_ 1909 [some (.ref b9), some (.ref (G.2.1 + 0)), some (.ref (G.2.1 + 264)), some (.ref (G.2.1 + 275)), some (.int l4), none, none] [] (pic G μ) n (K + 0) (KS + 0) := by
  unfold f_L_law__j1909 at hf
  refine V_aload_n d_L_law__1909 rfl rfl ?_
  refine V_aload_n d_L_law__1910 rfl rfl ?_
  refine V_iload d_L_law__1911 rfl ?_
  refine V_iconst (v := 1) d_L_law__1913 ic_1 ?_
  refine V_iadd d_L_law__1914 ?_
  obtain ⟨t1, ht1, hf⟩ := ob hf
  refine V_sld hX9 ht1 d_L_law__1915 ?_
  refine V_aload_n d_L_law__1916 rfl rfl ?_
  obtain ⟨q2, hq2, hf⟩ := ob hf
  refine B_callSH (s_L_hangs hG hq2) (kc' := (K + 1)) (ks' := (KS + 6)) m_L_hangs ks_RL_235 d_L_law__1917 rfl (Nat.le_of_ble_eq_true rfl) ⟨rfl, rfl, (show K + 1 ≤ 500000 by omega), (show KS + 6 ≤ 5000000 by omega), Nat.le_of_ble_eq_true rfl⟩ (fun n => ?_)
  refine V_istore (ls' := [_, _, _, _, _, _, _]) d_L_law__1920 rfl rfl ?_
  refine V_aload_n d_L_law__1922 rfl rfl ?_
  refine V_aload_n d_L_law__1923 rfl rfl ?_
  refine V_iload d_L_law__1924 rfl ?_
  refine V_iconst (v := 1) d_L_law__1926 ic_1 ?_
  refine V_iadd d_L_law__1927 ?_
  obtain ⟨t3, ht3, hf⟩ := ob hf
  refine V_sld hX9 ht3 d_L_law__1928 ?_
  obtain ⟨q4, hq4, hf⟩ := ob hf
  refine B_callV1 (s_X12_hangs hG hq4) k_264 clX12 m_X12_hangs kv_RL_237 d_L_law__1929 rfl (Nat.le_of_ble_eq_true rfl) ⟨rfl, rfl, (show K + 1 ≤ 500000 by omega), (show KS + 6 ≤ 5000000 by omega), Nat.le_of_ble_eq_true rfl⟩ (fun n => ?_)
  refine V_istore (ls' := [_, _, _, _, _, _, _]) d_L_law__1932 rfl rfl ?_
  refine V_aload_n d_L_law__1934 rfl rfl ?_
  obtain ⟨t5, ht5, hf⟩ := ob hf
  refine B_callV1 (s_X12_thrown hG ht5) k_264 clX12 m_X12_thrown kv_RL_145 d_L_law__1935 rfl (Nat.le_of_ble_eq_true rfl) ⟨rfl, rfl, (show K + 1 ≤ 500000 by omega), (show KS + 6 ≤ 5000000 by omega), Nat.le_of_ble_eq_true rfl⟩ (fun n => ?_)
  refine V_iload d_L_law__1938 rfl ?_
  refine V_icmp_eq (tgt := 1945) d_L_law__1940 (by decide) (fun c1940 => ?_) (fun c1940 => ?_)
  · replace hf := iteT c1940 hf
    refine V_iload d_L_law__1945 rfl ?_
    refine V_if_ne (tgt := 1962) d_L_law__1947 (by decide) (fun c1947 => ?_) (fun c1947 => ?_)
    · replace hf := iteF c1947 hf
      refine V_less (ls' := [some _, some _, some _, some _, some _, none, none]) ⟨rfl, rfl, rfl, rfl, rfl, trivial⟩ ?_
      exact s_L_law__j1962 hG hX9 hKb hf hK
    · replace hf := iteT c1947 hf
      refine V_aload_n d_L_law__1950 rfl rfl ?_
      refine V_iconst (v := 0) d_L_law__1951 ic_0 ?_
      obtain ⟨t6, ht6, hf⟩ := ob hf
      refine B_lald k_275 ht6 d_L_law__1952 ?_
      refine V_iload d_L_law__1953 rfl ?_
      refine V_i2l d_L_law__1955 ?_
      refine V_lcmp d_L_law__1956 ?_
      refine V_if_eq (tgt := 1962) d_L_law__1957 (by decide) (fun c1957 => ?_) (fun c1957 => ?_)
      · replace hf := iteT (lcT c1957) hf
        refine V_less (ls' := [some _, some _, some _, some _, some _, none, none]) ⟨rfl, rfl, rfl, rfl, rfl, trivial⟩ ?_
        exact s_L_law__j1962 hG hX9 hKb hf hK
      · replace hf := iteF (lcF c1957) hf
        refine V_iconst (v := 0) d_L_law__1960 ic_0 ?_
        cases hf
  · replace hf := iteF c1940 hf
    refine V_iconst (v := 0) d_L_law__1943 ic_0 ?_
    cases hf
theorem s_L_law__j1965 {G : Gl} (hG : G.1.stackTraces = false) {C : Cx} {n b9 K KS : Nat} {μ : Mem} {b9L : Nat} {xs : (Nat → Int32)} {l4 : Int32} (hX9 : ScX G C b9 b9L xs) (hKb : K + 8 ≤ 500000 ∧ KS + 48 ≤ 5000000) {r : Mem} (hf : f_L_law__j1965 μ b9L xs l4 = some r) (hK : ∀ n, V G C F_L_law_ 2708 [some (.ref b9), some (.ref (G.2.1 + 0)), some (.ref (G.2.1 + 264)), some (.ref (G.2.1 + 275)), some (.int l4), none, none] [] (pic G r) n (K + 8) (KS + 48)) : V G C F_L_law_ 1965 [some (.ref b9), some (.ref (G.2.1 + 0)), some (.ref (G.2.1 + 264)), some (.ref (G.2.1 + 275)), some (.int l4), none, none] [] (pic G μ) n (K + 0) (KS + 0) := by
  unfold f_L_law__j1965 at hf
  refine V_aload_n d_L_law__1965 rfl rfl ?_
  obtain ⟨t1, ht1, hf⟩ := ob hf
  refine B_callV1 (s_X11_trust hG ht1) k_0 clX11 m_X11_trust kv_RL_238 d_L_law__1966 rfl (Nat.le_of_ble_eq_true rfl) ⟨rfl, rfl, (show K + 0 ≤ 500000 by omega), (show KS + 0 ≤ 5000000 by omega), Nat.le_of_ble_eq_true rfl⟩ (fun n => ?_)
  refine V_aload_n d_L_law__1969 rfl rfl ?_
  obtain ⟨q2, hq2, hf⟩ := ob hf
  refine B_callV1 (s_X12_trust hG hq2) k_264 clX12 m_X12_trust kv_RL_241 d_L_law__1970 rfl (Nat.le_of_ble_eq_true rfl) ⟨rfl, rfl, (show K + 0 ≤ 500000 by omega), (show KS + 0 ≤ 5000000 by omega), Nat.le_of_ble_eq_true rfl⟩ (fun n => ?_)
  refine V_icmp_eq (tgt := 2708) d_L_law__1973 (by decide) (fun c1973 => ?_) (fun c1973 => ?_)
  · replace hf := iteT c1973 hf
    refine V_widen (k2 := K + 8) (s2 := KS + 48) (by omega) (by omega) ?_
    refine V_less (ls' := [some _, some _, some _, some _, some _, none, none]) ⟨rfl, rfl, rfl, rfl, rfl, trivial⟩ ?_
    cases hf
    exact hK _
  · replace hf := iteF c1973 hf
    refine V_iconst (v := 0) d_L_law__1976 ic_0 ?_
    cases hf
theorem s_L_law__j1978 {G : Gl} (hG : G.1.stackTraces = false) {C : Cx} {n b9 K KS : Nat} {μ : Mem} {b9L : Nat} {xs : (Nat → Int32)} {l4 : Int32} (hX9 : ScX G C b9 b9L xs) (hKb : K + 8 ≤ 500000 ∧ KS + 48 ≤ 5000000) {r : Mem} (hf : f_L_law__j1978 μ b9L xs l4 = some r) (hK : ∀ n, V G C F_L_law_ 2708 [some (.ref b9), some (.ref (G.2.1 + 0)), some (.ref (G.2.1 + 264)), some (.ref (G.2.1 + 275)), some (.int l4), none, none] [] (pic G r) n (K + 8) (KS + 48)) : V G C F_L_law_ 1978 [some (.ref b9), some (.ref (G.2.1 + 0)), some (.ref (G.2.1 + 264)), some (.ref (G.2.1 + 275)), some (.int l4), none, none] [] (pic G μ) n (K + 0) (KS + 0) := by
  unfold f_L_law__j1978 at hf
  refine V_aload_n d_L_law__1978 rfl rfl ?_
  obtain ⟨t1, ht1, hf⟩ := ob hf
  refine B_callV1 (s_X11_needed hG ht1) k_0 clX11 m_X11_needed kv_RL_242 d_L_law__1979 rfl (Nat.le_of_ble_eq_true rfl) ⟨rfl, rfl, (show K + 0 ≤ 500000 by omega), (show KS + 0 ≤ 5000000 by omega), Nat.le_of_ble_eq_true rfl⟩ (fun n => ?_)
  refine V_aload_n d_L_law__1982 rfl rfl ?_
  obtain ⟨q2, hq2, hf⟩ := ob hf
  refine B_callV1 (s_X12_needed hG hq2) k_264 clX12 m_X12_needed kv_RL_245 d_L_law__1983 rfl (Nat.le_of_ble_eq_true rfl) ⟨rfl, rfl, (show K + 0 ≤ 500000 by omega), (show KS + 0 ≤ 5000000 by omega), Nat.le_of_ble_eq_true rfl⟩ (fun n => ?_)
  refine V_icmp_eq (tgt := 2708) d_L_law__1986 (by decide) (fun c1986 => ?_) (fun c1986 => ?_)
  · replace hf := iteT c1986 hf
    refine V_widen (k2 := K + 8) (s2 := KS + 48) (by omega) (by omega) ?_
    refine V_less (ls' := [some _, some _, some _, some _, some _, none, none]) ⟨rfl, rfl, rfl, rfl, rfl, trivial⟩ ?_
    cases hf
    exact hK _
  · replace hf := iteF c1986 hf
    refine V_iconst (v := 0) d_L_law__1989 ic_0 ?_
    cases hf
theorem s_L_law__j2060 {G : Gl} (hG : G.1.stackTraces = false) {C : Cx} {n b9 K KS : Nat} {μ : Mem} {b9L : Nat} {xs : (Nat → Int32)} {l4 : Int32} (hX9 : ScX G C b9 b9L xs) (hKb : K + 8 ≤ 500000 ∧ KS + 48 ≤ 5000000) {r : Mem} (hf : f_L_law__j2060 μ b9L xs l4 = some r) (hK : ∀ n, V G C F_L_law_ 2708 [some (.ref b9), some (.ref (G.2.1 + 0)), some (.ref (G.2.1 + 264)), some (.ref (G.2.1 + 275)), some (.int l4), none, none] [] (pic G r) n (K + 8) (KS + 48)) : V G C F_L_law_ 2060 [some (.ref b9), some (.ref (G.2.1 + 0)), some (.ref (G.2.1 + 264)), some (.ref (G.2.1 + 275)), some (.int l4), none, none] [] (pic G μ) n (K + 1) (KS + 6) := by
  unfold f_L_law__j2060 at hf
  refine V_goto (tgt := 2708) d_L_law__2060 (by decide) ?_
  refine V_widen (k2 := K + 8) (s2 := KS + 48) (by omega) (by omega) ?_
  refine V_less (ls' := [some _, some _, some _, some _, some _, none, none]) ⟨rfl, rfl, rfl, rfl, rfl, trivial⟩ ?_
  cases hf
  exact hK _
theorem s_L_law__j1991 {G : Gl} (hG : G.1.stackTraces = false) {C : Cx} {n b9 K KS : Nat} {μ : Mem} {b9L : Nat} {xs : (Nat → Int32)} {l4 : Int32} (hX9 : ScX G C b9 b9L xs) (hKb : K + 8 ≤ 500000 ∧ KS + 48 ≤ 5000000) {r : Mem} (hf : f_L_law__j1991 μ b9L xs l4 = some r) (hK : ∀ n, V G C F_L_law_ 2708 [some (.ref b9), some (.ref (G.2.1 + 0)), some (.ref (G.2.1 + 264)), some (.ref (G.2.1 + 275)), some (.int l4), none, none] [] (pic G r) n (K + 8) (KS + 48)) : V G C F_L_law_ 1991 [some (.ref b9), some (.ref (G.2.1 + 0)), some (.ref (G.2.1 + 264)), some (.ref (G.2.1 + 275)), some (.int l4), none, none] [] (pic G μ) n (K + 0) (KS + 0) := by
  unfold f_L_law__j1991 at hf
  refine V_aload_n d_L_law__1991 rfl rfl ?_
  refine V_aload_n d_L_law__1992 rfl rfl ?_
  refine V_iload d_L_law__1993 rfl ?_
  refine V_iconst (v := 1) d_L_law__1995 ic_1 ?_
  refine V_iadd d_L_law__1996 ?_
  obtain ⟨t1, ht1, hf⟩ := ob hf
  refine V_sld hX9 ht1 d_L_law__1997 ?_
  have hJj2 : ∀ j2 : Bool, j2 = (if t1 = 0 then (false : Bool) else true) → V G C F_L_law_ 2006 [some (.ref b9), some (.ref (G.2.1 + 0)), some (.ref (G.2.1 + 264)), some (.ref (G.2.1 + 275)), some (.int l4), none, none] [.int (b2i j2), .ref (G.2.1 + 0)] (pic G μ) n (K + 0) (KS + 0) := by
    intro j2 ej2
    subst ej2
    refine V_aload_n d_L_law__2006 rfl rfl ?_
    obtain ⟨q3, hq3, hf⟩ := ob hf
    refine B_callSH (s_L_wear hG hq3) (kc' := (K + 1)) (ks' := (KS + 6)) m_L_wear ks_RL_246 d_L_law__2007 rfl (Nat.le_of_ble_eq_true rfl) ⟨rfl, rfl, (show K + 1 ≤ 500000 by omega), (show KS + 6 ≤ 5000000 by omega), Nat.le_of_ble_eq_true rfl⟩ (fun n => ?_)
    refine V_istore (ls' := [_, _, _, _, _, _, _]) d_L_law__2010 rfl rfl ?_
    refine V_aload_n d_L_law__2012 rfl rfl ?_
    refine V_aload_n d_L_law__2013 rfl rfl ?_
    refine V_iload d_L_law__2014 rfl ?_
    refine V_iconst (v := 1) d_L_law__2016 ic_1 ?_
    refine V_iadd d_L_law__2017 ?_
    obtain ⟨t4, ht4, hf⟩ := ob hf
    refine V_sld hX9 ht4 d_L_law__2018 ?_
    have hJj5 : ∀ j5 : Bool, j5 = (if t4 = 0 then (false : Bool) else true) → V G C F_L_law_ 2027 [some (.ref b9), some (.ref (G.2.1 + 0)), some (.ref (G.2.1 + 264)), some (.ref (G.2.1 + 275)), some (.int l4), some (.int q3.1), none] [.int (b2i j5), .ref (G.2.1 + 264)] (pic G q3.2) n (K + 1) (KS + 6) := by
      intro j5 ej5
      subst ej5
      obtain ⟨q6, hq6, hf⟩ := ob hf
      refine B_callV1 (s_X12_wear hG hq6) k_264 clX12 m_X12_wear kv_RL_249 d_L_law__2027 rfl (Nat.le_of_ble_eq_true rfl) ⟨rfl, rfl, (show K + 1 ≤ 500000 by omega), (show KS + 6 ≤ 5000000 by omega), Nat.le_of_ble_eq_true rfl⟩ (fun n => ?_)
      refine V_istore (ls' := [_, _, _, _, _, _, _]) d_L_law__2030 rfl rfl ?_
      refine V_aload_n d_L_law__2032 rfl rfl ?_
      obtain ⟨t7, ht7, hf⟩ := ob hf
      refine B_callV1 (s_X12_thrown hG ht7) k_264 clX12 m_X12_thrown kv_RL_145 d_L_law__2033 rfl (Nat.le_of_ble_eq_true rfl) ⟨rfl, rfl, (show K + 1 ≤ 500000 by omega), (show KS + 6 ≤ 5000000 by omega), Nat.le_of_ble_eq_true rfl⟩ (fun n => ?_)
      refine V_iload d_L_law__2036 rfl ?_
      refine V_icmp_eq (tgt := 2043) d_L_law__2038 (by decide) (fun c2038 => ?_) (fun c2038 => ?_)
      · replace hf := iteT c2038 hf
        refine V_iload d_L_law__2043 rfl ?_
        refine V_if_ne (tgt := 2060) d_L_law__2045 (by decide) (fun c2045 => ?_) (fun c2045 => ?_)
        · replace hf := iteF c2045 hf
          refine V_less (ls' := [some _, some _, some _, some _, some _, none, none]) ⟨rfl, rfl, rfl, rfl, rfl, trivial⟩ ?_
          exact s_L_law__j2060 hG hX9 hKb hf hK
        · replace hf := iteT c2045 hf
          refine V_aload_n d_L_law__2048 rfl rfl ?_
          refine V_iconst (v := 0) d_L_law__2049 ic_0 ?_
          obtain ⟨t8, ht8, hf⟩ := ob hf
          refine B_lald k_275 ht8 d_L_law__2050 ?_
          refine V_iload d_L_law__2051 rfl ?_
          refine V_i2l d_L_law__2053 ?_
          refine V_lcmp d_L_law__2054 ?_
          refine V_if_eq (tgt := 2060) d_L_law__2055 (by decide) (fun c2055 => ?_) (fun c2055 => ?_)
          · replace hf := iteT (lcT c2055) hf
            refine V_less (ls' := [some _, some _, some _, some _, some _, none, none]) ⟨rfl, rfl, rfl, rfl, rfl, trivial⟩ ?_
            exact s_L_law__j2060 hG hX9 hKb hf hK
          · replace hf := iteF (lcF c2055) hf
            refine V_iconst (v := 0) d_L_law__2058 ic_0 ?_
            cases hf
      · replace hf := iteF c2038 hf
        refine V_iconst (v := 0) d_L_law__2041 ic_0 ?_
        cases hf
    refine V_if_eq (tgt := 2026) d_L_law__2019 (by decide) (fun c2019 => ?_) (fun c2019 => ?_)
    · refine V_iconst (v := 0) d_L_law__2026 ic_0 ?_
      refine V_less (ls' := [some _, some _, some _, some _, some _, some _, none]) ⟨rfl, rfl, rfl, rfl, rfl, rfl, trivial⟩ ?_
      exact hJj5 false (by rw [if_pos c2019])
    · refine V_iconst (v := 1) d_L_law__2022 ic_1 ?_
      refine V_goto (tgt := 2027) d_L_law__2023 (by decide) ?_
      refine V_less (ls' := [some _, some _, some _, some _, some _, some _, none]) ⟨rfl, rfl, rfl, rfl, rfl, rfl, trivial⟩ ?_
      exact hJj5 true (by rw [if_neg c2019])
  refine V_if_eq (tgt := 2005) d_L_law__1998 (by decide) (fun c1998 => ?_) (fun c1998 => ?_)
  · refine V_iconst (v := 0) d_L_law__2005 ic_0 ?_
    refine V_less (ls' := [some _, some _, some _, some _, some _, none, none]) ⟨rfl, rfl, rfl, rfl, rfl, trivial⟩ ?_
    exact hJj2 false (by rw [if_pos c1998])
  · refine V_iconst (v := 1) d_L_law__2001 ic_1 ?_
    refine V_goto (tgt := 2006) d_L_law__2002 (by decide) ?_
    refine V_less (ls' := [some _, some _, some _, some _, some _, none, none]) ⟨rfl, rfl, rfl, rfl, rfl, trivial⟩ ?_
    exact hJj2 true (by rw [if_neg c1998])
theorem s_L_law__j2104 {G : Gl} (hG : G.1.stackTraces = false) {C : Cx} {n b9 K KS : Nat} {μ : Mem} {b9L : Nat} {xs : (Nat → Int32)} {l4 : Int32} (hX9 : ScX G C b9 b9L xs) (hKb : K + 8 ≤ 500000 ∧ KS + 48 ≤ 5000000) {r : Mem} (hf : f_L_law__j2104 μ b9L xs l4 = some r) (hK : ∀ n, V G C F_L_law_ 2708 [some (.ref b9), some (.ref (G.2.1 + 0)), some (.ref (G.2.1 + 264)), some (.ref (G.2.1 + 275)), some (.int l4), none, none] [] (pic G r) n (K + 8) (KS + 48)) : V G C F_L_law_ 2104 [some (.ref b9), some (.ref (G.2.1 + 0)), some (.ref (G.2.1 + 264)), some (.ref (G.2.1 + 275)), some (.int l4), none, none] [] (pic G μ) n (K + 1) (KS + 6) := by
  unfold f_L_law__j2104 at hf
  refine V_goto (tgt := 2708) d_L_law__2104 (by decide) ?_
  refine V_widen (k2 := K + 8) (s2 := KS + 48) (by omega) (by omega) ?_
  refine V_less (ls' := [some _, some _, some _, some _, some _, none, none]) ⟨rfl, rfl, rfl, rfl, rfl, trivial⟩ ?_
  cases hf
  exact hK _
theorem s_L_law__j2063 {G : Gl} (hG : G.1.stackTraces = false) {C : Cx} {n b9 K KS : Nat} {μ : Mem} {b9L : Nat} {xs : (Nat → Int32)} {l4 : Int32} (hX9 : ScX G C b9 b9L xs) (hKb : K + 8 ≤ 500000 ∧ KS + 48 ≤ 5000000) {r : Mem} (hf : f_L_law__j2063 μ b9L xs l4 = some r) (hK : ∀ n, V G C F_L_law_ 2708 [some (.ref b9), some (.ref (G.2.1 + 0)), some (.ref (G.2.1 + 264)), some (.ref (G.2.1 + 275)), some (.int l4), none, none] [] (pic G r) n (K + 8) (KS + 48)) : V G C F_L_law_ 2063 [some (.ref b9), some (.ref (G.2.1 + 0)), some (.ref (G.2.1 + 264)), some (.ref (G.2.1 + 275)), some (.int l4), none, none] [] (pic G μ) n (K + 0) (KS + 0) := by
  unfold f_L_law__j2063 at hf
  refine V_aload_n d_L_law__2063 rfl rfl ?_
  refine V_aload_n d_L_law__2064 rfl rfl ?_
  obtain ⟨q1, hq1, hf⟩ := ob hf
  refine B_callSH (s_L_look hG hq1) (kc' := (K + 1)) (ks' := (KS + 6)) m_L_look ks_RL_250 d_L_law__2065 rfl (Nat.le_of_ble_eq_true rfl) ⟨rfl, rfl, (show K + 1 ≤ 500000 by omega), (show KS + 6 ≤ 5000000 by omega), Nat.le_of_ble_eq_true rfl⟩ (fun n => ?_)
  refine V_istore (ls' := [_, _, _, _, _, _, _]) d_L_law__2068 rfl rfl ?_
  refine V_aload_n d_L_law__2070 rfl rfl ?_
  obtain ⟨q2, hq2, hf⟩ := ob hf
  refine B_callV1 (s_X12_look hG hq2) k_264 clX12 m_X12_look kv_RL_252 d_L_law__2071 rfl (Nat.le_of_ble_eq_true rfl) ⟨rfl, rfl, (show K + 1 ≤ 500000 by omega), (show KS + 6 ≤ 5000000 by omega), Nat.le_of_ble_eq_true rfl⟩ (fun n => ?_)
  refine V_istore (ls' := [_, _, _, _, _, _, _]) d_L_law__2074 rfl rfl ?_
  refine V_aload_n d_L_law__2076 rfl rfl ?_
  obtain ⟨t3, ht3, hf⟩ := ob hf
  refine B_callV1 (s_X12_thrown hG ht3) k_264 clX12 m_X12_thrown kv_RL_145 d_L_law__2077 rfl (Nat.le_of_ble_eq_true rfl) ⟨rfl, rfl, (show K + 1 ≤ 500000 by omega), (show KS + 6 ≤ 5000000 by omega), Nat.le_of_ble_eq_true rfl⟩ (fun n => ?_)
  refine V_iload d_L_law__2080 rfl ?_
  refine V_icmp_eq (tgt := 2087) d_L_law__2082 (by decide) (fun c2082 => ?_) (fun c2082 => ?_)
  · replace hf := iteT c2082 hf
    refine V_iload d_L_law__2087 rfl ?_
    refine V_if_ne (tgt := 2104) d_L_law__2089 (by decide) (fun c2089 => ?_) (fun c2089 => ?_)
    · replace hf := iteF c2089 hf
      refine V_less (ls' := [some _, some _, some _, some _, some _, none, none]) ⟨rfl, rfl, rfl, rfl, rfl, trivial⟩ ?_
      exact s_L_law__j2104 hG hX9 hKb hf hK
    · replace hf := iteT c2089 hf
      refine V_aload_n d_L_law__2092 rfl rfl ?_
      refine V_iconst (v := 0) d_L_law__2093 ic_0 ?_
      obtain ⟨t4, ht4, hf⟩ := ob hf
      refine B_lald k_275 ht4 d_L_law__2094 ?_
      refine V_iload d_L_law__2095 rfl ?_
      refine V_i2l d_L_law__2097 ?_
      refine V_lcmp d_L_law__2098 ?_
      refine V_if_eq (tgt := 2104) d_L_law__2099 (by decide) (fun c2099 => ?_) (fun c2099 => ?_)
      · replace hf := iteT (lcT c2099) hf
        refine V_less (ls' := [some _, some _, some _, some _, some _, none, none]) ⟨rfl, rfl, rfl, rfl, rfl, trivial⟩ ?_
        exact s_L_law__j2104 hG hX9 hKb hf hK
      · replace hf := iteF (lcF c2099) hf
        refine V_iconst (v := 0) d_L_law__2102 ic_0 ?_
        cases hf
  · replace hf := iteF c2082 hf
    refine V_iconst (v := 0) d_L_law__2085 ic_0 ?_
    cases hf
theorem s_L_law__j2160 {G : Gl} (hG : G.1.stackTraces = false) {C : Cx} {n b9 K KS : Nat} {μ : Mem} {b9L : Nat} {xs : (Nat → Int32)} {l4 : Int32} (hX9 : ScX G C b9 b9L xs) (hKb : K + 8 ≤ 500000 ∧ KS + 48 ≤ 5000000) {r : Mem} (hf : f_L_law__j2160 μ b9L xs l4 = some r) (hK : ∀ n, V G C F_L_law_ 2708 [some (.ref b9), some (.ref (G.2.1 + 0)), some (.ref (G.2.1 + 264)), some (.ref (G.2.1 + 275)), some (.int l4), none, none] [] (pic G r) n (K + 8) (KS + 48)) : V G C F_L_law_ 2160 [some (.ref b9), some (.ref (G.2.1 + 0)), some (.ref (G.2.1 + 264)), some (.ref (G.2.1 + 275)), some (.int l4), none, none] [] (pic G μ) n (K + 1) (KS + 6) := by
  unfold f_L_law__j2160 at hf
  refine V_goto (tgt := 2708) d_L_law__2160 (by decide) ?_
  refine V_widen (k2 := K + 8) (s2 := KS + 48) (by omega) (by omega) ?_
  refine V_less (ls' := [some _, some _, some _, some _, some _, none, none]) ⟨rfl, rfl, rfl, rfl, rfl, trivial⟩ ?_
  cases hf
  exact hK _
theorem s_L_law__j2107 {G : Gl} (hG : G.1.stackTraces = false) {C : Cx} {n b9 K KS : Nat} {μ : Mem} {b9L : Nat} {xs : (Nat → Int32)} {l4 : Int32} (hX9 : ScX G C b9 b9L xs) (hKb : K + 8 ≤ 500000 ∧ KS + 48 ≤ 5000000) {r : Mem} (hf : f_L_law__j2107 μ b9L xs l4 = some r) (hK : ∀ n, V G C F_L_law_ 2708 [some (.ref b9), some (.ref (G.2.1 + 0)), some (.ref (G.2.1 + 264)), some (.ref (G.2.1 + 275)), some (.int l4), none, none] [] (pic G r) n (K + 8) (KS + 48)) : V G C F_L_law_ 2107 [some (.ref b9), some (.ref (G.2.1 + 0)), some (.ref (G.2.1 + 264)), some (.ref (G.2.1 + 275)), some (.int l4), none, none] [] (pic G μ) n (K + 0) (KS + 0) := by
  unfold f_L_law__j2107 at hf
  refine V_aload_n d_L_law__2107 rfl rfl ?_
  refine V_aload_n d_L_law__2108 rfl rfl ?_
  refine V_iload d_L_law__2109 rfl ?_
  refine V_iconst (v := 1) d_L_law__2111 ic_1 ?_
  refine V_iadd d_L_law__2112 ?_
  obtain ⟨t1, ht1, hf⟩ := ob hf
  refine V_sld hX9 ht1 d_L_law__2113 ?_
  refine V_aload_n d_L_law__2114 rfl rfl ?_
  obtain ⟨q2, hq2, hf⟩ := ob hf
  refine B_callSH (s_L_race hG hq2) (kc' := (K + 1)) (ks' := (KS + 6)) m_L_race ks_RL_253 d_L_law__2115 rfl (Nat.le_of_ble_eq_true rfl) ⟨rfl, rfl, (show K + 1 ≤ 500000 by omega), (show KS + 6 ≤ 5000000 by omega), Nat.le_of_ble_eq_true rfl⟩ (fun n => ?_)
  refine V_istore (ls' := [_, _, _, _, _, _, _]) d_L_law__2118 rfl rfl ?_
  refine V_aload_n d_L_law__2120 rfl rfl ?_
  refine V_aload_n d_L_law__2121 rfl rfl ?_
  refine V_iload d_L_law__2122 rfl ?_
  refine V_iconst (v := 1) d_L_law__2124 ic_1 ?_
  refine V_iadd d_L_law__2125 ?_
  obtain ⟨t3, ht3, hf⟩ := ob hf
  refine V_sld hX9 ht3 d_L_law__2126 ?_
  obtain ⟨q4, hq4, hf⟩ := ob hf
  refine B_callV1 (s_X12_race hG hq4) k_264 clX12 m_X12_race kv_RL_255 d_L_law__2127 rfl (Nat.le_of_ble_eq_true rfl) ⟨rfl, rfl, (show K + 1 ≤ 500000 by omega), (show KS + 6 ≤ 5000000 by omega), Nat.le_of_ble_eq_true rfl⟩ (fun n => ?_)
  refine V_istore (ls' := [_, _, _, _, _, _, _]) d_L_law__2130 rfl rfl ?_
  refine V_aload_n d_L_law__2132 rfl rfl ?_
  obtain ⟨t5, ht5, hf⟩ := ob hf
  refine B_callV1 (s_X12_thrown hG ht5) k_264 clX12 m_X12_thrown kv_RL_145 d_L_law__2133 rfl (Nat.le_of_ble_eq_true rfl) ⟨rfl, rfl, (show K + 1 ≤ 500000 by omega), (show KS + 6 ≤ 5000000 by omega), Nat.le_of_ble_eq_true rfl⟩ (fun n => ?_)
  refine V_iload d_L_law__2136 rfl ?_
  refine V_icmp_eq (tgt := 2143) d_L_law__2138 (by decide) (fun c2138 => ?_) (fun c2138 => ?_)
  · replace hf := iteT c2138 hf
    refine V_iload d_L_law__2143 rfl ?_
    refine V_if_ne (tgt := 2160) d_L_law__2145 (by decide) (fun c2145 => ?_) (fun c2145 => ?_)
    · replace hf := iteF c2145 hf
      refine V_less (ls' := [some _, some _, some _, some _, some _, none, none]) ⟨rfl, rfl, rfl, rfl, rfl, trivial⟩ ?_
      exact s_L_law__j2160 hG hX9 hKb hf hK
    · replace hf := iteT c2145 hf
      refine V_aload_n d_L_law__2148 rfl rfl ?_
      refine V_iconst (v := 0) d_L_law__2149 ic_0 ?_
      obtain ⟨t6, ht6, hf⟩ := ob hf
      refine B_lald k_275 ht6 d_L_law__2150 ?_
      refine V_iload d_L_law__2151 rfl ?_
      refine V_i2l d_L_law__2153 ?_
      refine V_lcmp d_L_law__2154 ?_
      refine V_if_eq (tgt := 2160) d_L_law__2155 (by decide) (fun c2155 => ?_) (fun c2155 => ?_)
      · replace hf := iteT (lcT c2155) hf
        refine V_less (ls' := [some _, some _, some _, some _, some _, none, none]) ⟨rfl, rfl, rfl, rfl, rfl, trivial⟩ ?_
        exact s_L_law__j2160 hG hX9 hKb hf hK
      · replace hf := iteF (lcF c2155) hf
        refine V_iconst (v := 0) d_L_law__2158 ic_0 ?_
        cases hf
  · replace hf := iteF c2138 hf
    refine V_iconst (v := 0) d_L_law__2141 ic_0 ?_
    cases hf
theorem s_L_law__j2163 {G : Gl} (hG : G.1.stackTraces = false) {C : Cx} {n b9 K KS : Nat} {μ : Mem} {b9L : Nat} {xs : (Nat → Int32)} {l4 : Int32} (hX9 : ScX G C b9 b9L xs) (hKb : K + 8 ≤ 500000 ∧ KS + 48 ≤ 5000000) {r : Mem} (hf : f_L_law__j2163 μ b9L xs l4 = some r) (hK : ∀ n, V G C F_L_law_ 2708 [some (.ref b9), some (.ref (G.2.1 + 0)), some (.ref (G.2.1 + 264)), some (.ref (G.2.1 + 275)), some (.int l4), none, none] [] (pic G r) n (K + 8) (KS + 48)) : V G C F_L_law_ 2163 [some (.ref b9), some (.ref (G.2.1 + 0)), some (.ref (G.2.1 + 264)), some (.ref (G.2.1 + 275)), some (.int l4), none, none] [] (pic G μ) n (K + 0) (KS + 0) := by
  unfold f_L_law__j2163 at hf
  refine V_aload_n d_L_law__2163 rfl rfl ?_
  obtain ⟨q1, hq1, hf⟩ := ob hf
  refine B_callV1 (s_X11_pairs hG hq1) k_0 clX11 m_X11_pairs kv_RL_256 d_L_law__2164 rfl (Nat.le_of_ble_eq_true rfl) ⟨rfl, rfl, (show K + 0 ≤ 500000 by omega), (show KS + 0 ≤ 5000000 by omega), Nat.le_of_ble_eq_true rfl⟩ (fun n => ?_)
  refine V_aload_n d_L_law__2167 rfl rfl ?_
  obtain ⟨q2, hq2, hf⟩ := ob hf
  refine B_callV1 (s_X12_pairs hG hq2) k_264 clX12 m_X12_pairs kv_RL_259 d_L_law__2168 rfl (Nat.le_of_ble_eq_true rfl) ⟨rfl, rfl, (show K + 0 ≤ 500000 by omega), (show KS + 0 ≤ 5000000 by omega), Nat.le_of_ble_eq_true rfl⟩ (fun n => ?_)
  refine V_icmp_eq (tgt := 2708) d_L_law__2171 (by decide) (fun c2171 => ?_) (fun c2171 => ?_)
  · replace hf := iteT c2171 hf
    refine V_widen (k2 := K + 8) (s2 := KS + 48) (by omega) (by omega) ?_
    refine V_less (ls' := [some _, some _, some _, some _, some _, none, none]) ⟨rfl, rfl, rfl, rfl, rfl, trivial⟩ ?_
    cases hf
    exact hK _
  · replace hf := iteF c2171 hf
    refine V_iconst (v := 0) d_L_law__2174 ic_0 ?_
    cases hf
theorem s_L_law__j2229 {G : Gl} (hG : G.1.stackTraces = false) {C : Cx} {n b9 K KS : Nat} {μ : Mem} {b9L : Nat} {xs : (Nat → Int32)} {l4 : Int32} (hX9 : ScX G C b9 b9L xs) (hKb : K + 8 ≤ 500000 ∧ KS + 48 ≤ 5000000) {r : Mem} (hf : f_L_law__j2229 μ b9L xs l4 = some r) (hK : ∀ n, V G C F_L_law_ 2708 [some (.ref b9), some (.ref (G.2.1 + 0)), some (.ref (G.2.1 + 264)), some (.ref (G.2.1 + 275)), some (.int l4), none, none] [] (pic G r) n (K + 8) (KS + 48)) : V G C F_L_law_ 2229 [some (.ref b9), some (.ref (G.2.1 + 0)), some (.ref (G.2.1 + 264)), some (.ref (G.2.1 + 275)), some (.int l4), none, none] [] (pic G μ) n (K + 1) (KS + 6) := by
  unfold f_L_law__j2229 at hf
  refine V_goto (tgt := 2708) d_L_law__2229 (by decide) ?_
  refine V_widen (k2 := K + 8) (s2 := KS + 48) (by omega) (by omega) ?_
  refine V_less (ls' := [some _, some _, some _, some _, some _, none, none]) ⟨rfl, rfl, rfl, rfl, rfl, trivial⟩ ?_
  cases hf
  exact hK _
theorem s_L_law__j2176 {G : Gl} (hG : G.1.stackTraces = false) {C : Cx} {n b9 K KS : Nat} {μ : Mem} {b9L : Nat} {xs : (Nat → Int32)} {l4 : Int32} (hX9 : ScX G C b9 b9L xs) (hKb : K + 8 ≤ 500000 ∧ KS + 48 ≤ 5000000) {r : Mem} (hf : f_L_law__j2176 μ b9L xs l4 = some r) (hK : ∀ n, V G C F_L_law_ 2708 [some (.ref b9), some (.ref (G.2.1 + 0)), some (.ref (G.2.1 + 264)), some (.ref (G.2.1 + 275)), some (.int l4), none, none] [] (pic G r) n (K + 8) (KS + 48)) : V G C F_L_law_ 2176 [some (.ref b9), some (.ref (G.2.1 + 0)), some (.ref (G.2.1 + 264)), some (.ref (G.2.1 + 275)), some (.int l4), none, none] [] (pic G μ) n (K + 0) (KS + 0) := by
  unfold f_L_law__j2176 at hf
  refine V_aload_n d_L_law__2176 rfl rfl ?_
  refine V_aload_n d_L_law__2177 rfl rfl ?_
  refine V_iload d_L_law__2178 rfl ?_
  refine V_iconst (v := 1) d_L_law__2180 ic_1 ?_
  refine V_iadd d_L_law__2181 ?_
  obtain ⟨t1, ht1, hf⟩ := ob hf
  refine V_sld hX9 ht1 d_L_law__2182 ?_
  refine V_aload_n d_L_law__2183 rfl rfl ?_
  obtain ⟨q2, hq2, hf⟩ := ob hf
  refine B_callSH (s_L_lends hG hq2) (kc' := (K + 1)) (ks' := (KS + 6)) m_L_lends ks_RL_260 d_L_law__2184 rfl (Nat.le_of_ble_eq_true rfl) ⟨rfl, rfl, (show K + 1 ≤ 500000 by omega), (show KS + 6 ≤ 5000000 by omega), Nat.le_of_ble_eq_true rfl⟩ (fun n => ?_)
  refine V_istore (ls' := [_, _, _, _, _, _, _]) d_L_law__2187 rfl rfl ?_
  refine V_aload_n d_L_law__2189 rfl rfl ?_
  refine V_aload_n d_L_law__2190 rfl rfl ?_
  refine V_iload d_L_law__2191 rfl ?_
  refine V_iconst (v := 1) d_L_law__2193 ic_1 ?_
  refine V_iadd d_L_law__2194 ?_
  obtain ⟨t3, ht3, hf⟩ := ob hf
  refine V_sld hX9 ht3 d_L_law__2195 ?_
  obtain ⟨q4, hq4, hf⟩ := ob hf
  refine B_callV1 (s_X12_lends hG hq4) k_264 clX12 m_X12_lends kv_RL_262 d_L_law__2196 rfl (Nat.le_of_ble_eq_true rfl) ⟨rfl, rfl, (show K + 1 ≤ 500000 by omega), (show KS + 6 ≤ 5000000 by omega), Nat.le_of_ble_eq_true rfl⟩ (fun n => ?_)
  refine V_istore (ls' := [_, _, _, _, _, _, _]) d_L_law__2199 rfl rfl ?_
  refine V_aload_n d_L_law__2201 rfl rfl ?_
  obtain ⟨t5, ht5, hf⟩ := ob hf
  refine B_callV1 (s_X12_thrown hG ht5) k_264 clX12 m_X12_thrown kv_RL_145 d_L_law__2202 rfl (Nat.le_of_ble_eq_true rfl) ⟨rfl, rfl, (show K + 1 ≤ 500000 by omega), (show KS + 6 ≤ 5000000 by omega), Nat.le_of_ble_eq_true rfl⟩ (fun n => ?_)
  refine V_iload d_L_law__2205 rfl ?_
  refine V_icmp_eq (tgt := 2212) d_L_law__2207 (by decide) (fun c2207 => ?_) (fun c2207 => ?_)
  · replace hf := iteT c2207 hf
    refine V_iload d_L_law__2212 rfl ?_
    refine V_if_ne (tgt := 2229) d_L_law__2214 (by decide) (fun c2214 => ?_) (fun c2214 => ?_)
    · replace hf := iteF c2214 hf
      refine V_less (ls' := [some _, some _, some _, some _, some _, none, none]) ⟨rfl, rfl, rfl, rfl, rfl, trivial⟩ ?_
      exact s_L_law__j2229 hG hX9 hKb hf hK
    · replace hf := iteT c2214 hf
      refine V_aload_n d_L_law__2217 rfl rfl ?_
      refine V_iconst (v := 0) d_L_law__2218 ic_0 ?_
      obtain ⟨t6, ht6, hf⟩ := ob hf
      refine B_lald k_275 ht6 d_L_law__2219 ?_
      refine V_iload d_L_law__2220 rfl ?_
      refine V_i2l d_L_law__2222 ?_
      refine V_lcmp d_L_law__2223 ?_
      refine V_if_eq (tgt := 2229) d_L_law__2224 (by decide) (fun c2224 => ?_) (fun c2224 => ?_)
      · replace hf := iteT (lcT c2224) hf
        refine V_less (ls' := [some _, some _, some _, some _, some _, none, none]) ⟨rfl, rfl, rfl, rfl, rfl, trivial⟩ ?_
        exact s_L_law__j2229 hG hX9 hKb hf hK
      · replace hf := iteF (lcF c2224) hf
        refine V_iconst (v := 0) d_L_law__2227 ic_0 ?_
        cases hf
  · replace hf := iteF c2207 hf
    refine V_iconst (v := 0) d_L_law__2210 ic_0 ?_
    cases hf
theorem s_L_law__j2285 {G : Gl} (hG : G.1.stackTraces = false) {C : Cx} {n b9 K KS : Nat} {μ : Mem} {b9L : Nat} {xs : (Nat → Int32)} {l4 : Int32} (hX9 : ScX G C b9 b9L xs) (hKb : K + 8 ≤ 500000 ∧ KS + 48 ≤ 5000000) {r : Mem} (hf : f_L_law__j2285 μ b9L xs l4 = some r) (hK : ∀ n, V G C F_L_law_ 2708 [some (.ref b9), some (.ref (G.2.1 + 0)), some (.ref (G.2.1 + 264)), some (.ref (G.2.1 + 275)), some (.int l4), none, none] [] (pic G r) n (K + 8) (KS + 48)) : V G C F_L_law_ 2285 [some (.ref b9), some (.ref (G.2.1 + 0)), some (.ref (G.2.1 + 264)), some (.ref (G.2.1 + 275)), some (.int l4), none, none] [] (pic G μ) n (K + 1) (KS + 6) := by
  unfold f_L_law__j2285 at hf
  refine V_goto (tgt := 2708) d_L_law__2285 (by decide) ?_
  refine V_widen (k2 := K + 8) (s2 := KS + 48) (by omega) (by omega) ?_
  refine V_less (ls' := [some _, some _, some _, some _, some _, none, none]) ⟨rfl, rfl, rfl, rfl, rfl, trivial⟩ ?_
  cases hf
  exact hK _
theorem s_L_law__j2232 {G : Gl} (hG : G.1.stackTraces = false) {C : Cx} {n b9 K KS : Nat} {μ : Mem} {b9L : Nat} {xs : (Nat → Int32)} {l4 : Int32} (hX9 : ScX G C b9 b9L xs) (hKb : K + 8 ≤ 500000 ∧ KS + 48 ≤ 5000000) {r : Mem} (hf : f_L_law__j2232 μ b9L xs l4 = some r) (hK : ∀ n, V G C F_L_law_ 2708 [some (.ref b9), some (.ref (G.2.1 + 0)), some (.ref (G.2.1 + 264)), some (.ref (G.2.1 + 275)), some (.int l4), none, none] [] (pic G r) n (K + 8) (KS + 48)) : V G C F_L_law_ 2232 [some (.ref b9), some (.ref (G.2.1 + 0)), some (.ref (G.2.1 + 264)), some (.ref (G.2.1 + 275)), some (.int l4), none, none] [] (pic G μ) n (K + 0) (KS + 0) := by
  unfold f_L_law__j2232 at hf
  refine V_aload_n d_L_law__2232 rfl rfl ?_
  refine V_aload_n d_L_law__2233 rfl rfl ?_
  refine V_iload d_L_law__2234 rfl ?_
  refine V_iconst (v := 1) d_L_law__2236 ic_1 ?_
  refine V_iadd d_L_law__2237 ?_
  obtain ⟨t1, ht1, hf⟩ := ob hf
  refine V_sld hX9 ht1 d_L_law__2238 ?_
  refine V_aload_n d_L_law__2239 rfl rfl ?_
  obtain ⟨q2, hq2, hf⟩ := ob hf
  refine B_callSH (s_L_loose hG hq2) (kc' := (K + 1)) (ks' := (KS + 6)) m_L_loose ks_RL_263 d_L_law__2240 rfl (Nat.le_of_ble_eq_true rfl) ⟨rfl, rfl, (show K + 1 ≤ 500000 by omega), (show KS + 6 ≤ 5000000 by omega), Nat.le_of_ble_eq_true rfl⟩ (fun n => ?_)
  refine V_istore (ls' := [_, _, _, _, _, _, _]) d_L_law__2243 rfl rfl ?_
  refine V_aload_n d_L_law__2245 rfl rfl ?_
  refine V_aload_n d_L_law__2246 rfl rfl ?_
  refine V_iload d_L_law__2247 rfl ?_
  refine V_iconst (v := 1) d_L_law__2249 ic_1 ?_
  refine V_iadd d_L_law__2250 ?_
  obtain ⟨t3, ht3, hf⟩ := ob hf
  refine V_sld hX9 ht3 d_L_law__2251 ?_
  obtain ⟨q4, hq4, hf⟩ := ob hf
  refine B_callV1 (s_X12_loose hG hq4) k_264 clX12 m_X12_loose kv_RL_265 d_L_law__2252 rfl (Nat.le_of_ble_eq_true rfl) ⟨rfl, rfl, (show K + 1 ≤ 500000 by omega), (show KS + 6 ≤ 5000000 by omega), Nat.le_of_ble_eq_true rfl⟩ (fun n => ?_)
  refine V_istore (ls' := [_, _, _, _, _, _, _]) d_L_law__2255 rfl rfl ?_
  refine V_aload_n d_L_law__2257 rfl rfl ?_
  obtain ⟨t5, ht5, hf⟩ := ob hf
  refine B_callV1 (s_X12_thrown hG ht5) k_264 clX12 m_X12_thrown kv_RL_145 d_L_law__2258 rfl (Nat.le_of_ble_eq_true rfl) ⟨rfl, rfl, (show K + 1 ≤ 500000 by omega), (show KS + 6 ≤ 5000000 by omega), Nat.le_of_ble_eq_true rfl⟩ (fun n => ?_)
  refine V_iload d_L_law__2261 rfl ?_
  refine V_icmp_eq (tgt := 2268) d_L_law__2263 (by decide) (fun c2263 => ?_) (fun c2263 => ?_)
  · replace hf := iteT c2263 hf
    refine V_iload d_L_law__2268 rfl ?_
    refine V_if_ne (tgt := 2285) d_L_law__2270 (by decide) (fun c2270 => ?_) (fun c2270 => ?_)
    · replace hf := iteF c2270 hf
      refine V_less (ls' := [some _, some _, some _, some _, some _, none, none]) ⟨rfl, rfl, rfl, rfl, rfl, trivial⟩ ?_
      exact s_L_law__j2285 hG hX9 hKb hf hK
    · replace hf := iteT c2270 hf
      refine V_aload_n d_L_law__2273 rfl rfl ?_
      refine V_iconst (v := 0) d_L_law__2274 ic_0 ?_
      obtain ⟨t6, ht6, hf⟩ := ob hf
      refine B_lald k_275 ht6 d_L_law__2275 ?_
      refine V_iload d_L_law__2276 rfl ?_
      refine V_i2l d_L_law__2278 ?_
      refine V_lcmp d_L_law__2279 ?_
      refine V_if_eq (tgt := 2285) d_L_law__2280 (by decide) (fun c2280 => ?_) (fun c2280 => ?_)
      · replace hf := iteT (lcT c2280) hf
        refine V_less (ls' := [some _, some _, some _, some _, some _, none, none]) ⟨rfl, rfl, rfl, rfl, rfl, trivial⟩ ?_
        exact s_L_law__j2285 hG hX9 hKb hf hK
      · replace hf := iteF (lcF c2280) hf
        refine V_iconst (v := 0) d_L_law__2283 ic_0 ?_
        cases hf
  · replace hf := iteF c2263 hf
    refine V_iconst (v := 0) d_L_law__2266 ic_0 ?_
    cases hf
theorem s_L_law__j2288 {G : Gl} (hG : G.1.stackTraces = false) {C : Cx} {n b9 K KS : Nat} {μ : Mem} {b9L : Nat} {xs : (Nat → Int32)} {l4 : Int32} (hX9 : ScX G C b9 b9L xs) (hKb : K + 8 ≤ 500000 ∧ KS + 48 ≤ 5000000) {r : Mem} (hf : f_L_law__j2288 μ b9L xs l4 = some r) (hK : ∀ n, V G C F_L_law_ 2708 [some (.ref b9), some (.ref (G.2.1 + 0)), some (.ref (G.2.1 + 264)), some (.ref (G.2.1 + 275)), some (.int l4), none, none] [] (pic G r) n (K + 8) (KS + 48)) : V G C F_L_law_ 2288 [some (.ref b9), some (.ref (G.2.1 + 0)), some (.ref (G.2.1 + 264)), some (.ref (G.2.1 + 275)), some (.int l4), none, none] [] (pic G μ) n (K + 0) (KS + 0) := by
  unfold f_L_law__j2288 at hf
  refine V_aload_n d_L_law__2288 rfl rfl ?_
  obtain ⟨t1, ht1, hf⟩ := ob hf
  refine B_callV1 (s_X11_rail hG ht1) k_0 clX11 m_X11_rail kv_RL_266 d_L_law__2289 rfl (Nat.le_of_ble_eq_true rfl) ⟨rfl, rfl, (show K + 0 ≤ 500000 by omega), (show KS + 0 ≤ 5000000 by omega), Nat.le_of_ble_eq_true rfl⟩ (fun n => ?_)
  refine V_aload_n d_L_law__2292 rfl rfl ?_
  obtain ⟨q2, hq2, hf⟩ := ob hf
  refine B_callV1 (s_X12_rail hG hq2) k_264 clX12 m_X12_rail kv_RL_269 d_L_law__2293 rfl (Nat.le_of_ble_eq_true rfl) ⟨rfl, rfl, (show K + 0 ≤ 500000 by omega), (show KS + 0 ≤ 5000000 by omega), Nat.le_of_ble_eq_true rfl⟩ (fun n => ?_)
  refine V_icmp_eq (tgt := 2708) d_L_law__2296 (by decide) (fun c2296 => ?_) (fun c2296 => ?_)
  · replace hf := iteT c2296 hf
    refine V_widen (k2 := K + 8) (s2 := KS + 48) (by omega) (by omega) ?_
    refine V_less (ls' := [some _, some _, some _, some _, some _, none, none]) ⟨rfl, rfl, rfl, rfl, rfl, trivial⟩ ?_
    cases hf
    exact hK _
  · replace hf := iteF c2296 hf
    refine V_iconst (v := 0) d_L_law__2299 ic_0 ?_
    cases hf
theorem s_L_law__j2382 {G : Gl} (hG : G.1.stackTraces = false) {C : Cx} {n b9 K KS : Nat} {μ : Mem} {b9L : Nat} {xs : (Nat → Int32)} {l4 : Int32} (hX9 : ScX G C b9 b9L xs) (hKb : K + 8 ≤ 500000 ∧ KS + 48 ≤ 5000000) {r : Mem} (hf : f_L_law__j2382 μ b9L xs l4 = some r) (hK : ∀ n, V G C F_L_law_ 2708 [some (.ref b9), some (.ref (G.2.1 + 0)), some (.ref (G.2.1 + 264)), some (.ref (G.2.1 + 275)), some (.int l4), none, none] [] (pic G r) n (K + 8) (KS + 48)) : V G C F_L_law_ 2382 [some (.ref b9), some (.ref (G.2.1 + 0)), some (.ref (G.2.1 + 264)), some (.ref (G.2.1 + 275)), some (.int l4), none, none] [] (pic G μ) n (K + 1) (KS + 6) := by
  unfold f_L_law__j2382 at hf
  refine V_goto (tgt := 2708) d_L_law__2382 (by decide) ?_
  refine V_widen (k2 := K + 8) (s2 := KS + 48) (by omega) (by omega) ?_
  refine V_less (ls' := [some _, some _, some _, some _, some _, none, none]) ⟨rfl, rfl, rfl, rfl, rfl, trivial⟩ ?_
  cases hf
  exact hK _
theorem s_L_law__j2301 {G : Gl} (hG : G.1.stackTraces = false) {C : Cx} {n b9 K KS : Nat} {μ : Mem} {b9L : Nat} {xs : (Nat → Int32)} {l4 : Int32} (hX9 : ScX G C b9 b9L xs) (hKb : K + 8 ≤ 500000 ∧ KS + 48 ≤ 5000000) {r : Mem} (hf : f_L_law__j2301 μ b9L xs l4 = some r) (hK : ∀ n, V G C F_L_law_ 2708 [some (.ref b9), some (.ref (G.2.1 + 0)), some (.ref (G.2.1 + 264)), some (.ref (G.2.1 + 275)), some (.int l4), none, none] [] (pic G r) n (K + 8) (KS + 48)) : V G C F_L_law_ 2301 [some (.ref b9), some (.ref (G.2.1 + 0)), some (.ref (G.2.1 + 264)), some (.ref (G.2.1 + 275)), some (.int l4), none, none] [] (pic G μ) n (K + 0) (KS + 0) := by
  unfold f_L_law__j2301 at hf
  refine V_aload_n d_L_law__2301 rfl rfl ?_
  refine V_aload_n d_L_law__2302 rfl rfl ?_
  refine V_iload d_L_law__2303 rfl ?_
  refine V_iconst (v := 1) d_L_law__2305 ic_1 ?_
  refine V_iadd d_L_law__2306 ?_
  obtain ⟨t1, ht1, hf⟩ := ob hf
  refine V_sld hX9 ht1 d_L_law__2307 ?_
  refine V_aload_n d_L_law__2308 rfl rfl ?_
  refine V_iload d_L_law__2309 rfl ?_
  refine V_iconst (v := 2) d_L_law__2311 ic_2 ?_
  refine V_iadd d_L_law__2312 ?_
  obtain ⟨t2, ht2, hf⟩ := ob hf
  refine V_sld hX9 ht2 d_L_law__2313 ?_
  have hJj3 : ∀ j3 : Bool, j3 = (if t2 = 0 then (false : Bool) else true) → V G C F_L_law_ 2322 [some (.ref b9), some (.ref (G.2.1 + 0)), some (.ref (G.2.1 + 264)), some (.ref (G.2.1 + 275)), some (.int l4), none, none] [.int (b2i j3), .int t1, .ref (G.2.1 + 0)] (pic G μ) n (K + 0) (KS + 0) := by
    intro j3 ej3
    subst ej3
    refine V_aload_n d_L_law__2322 rfl rfl ?_
    obtain ⟨q4, hq4, hf⟩ := ob hf
    refine B_callSH (s_L_trial hG hq4) (kc' := (K + 1)) (ks' := (KS + 6)) m_L_trial ks_RL_270 d_L_law__2323 rfl (Nat.le_of_ble_eq_true rfl) ⟨rfl, rfl, (show K + 1 ≤ 500000 by omega), (show KS + 6 ≤ 5000000 by omega), Nat.le_of_ble_eq_true rfl⟩ (fun n => ?_)
    refine V_istore (ls' := [_, _, _, _, _, _, _]) d_L_law__2326 rfl rfl ?_
    refine V_aload_n d_L_law__2328 rfl rfl ?_
    refine V_aload_n d_L_law__2329 rfl rfl ?_
    refine V_iload d_L_law__2330 rfl ?_
    refine V_iconst (v := 1) d_L_law__2332 ic_1 ?_
    refine V_iadd d_L_law__2333 ?_
    obtain ⟨t5, ht5, hf⟩ := ob hf
    refine V_sld hX9 ht5 d_L_law__2334 ?_
    refine V_aload_n d_L_law__2335 rfl rfl ?_
    refine V_iload d_L_law__2336 rfl ?_
    refine V_iconst (v := 2) d_L_law__2338 ic_2 ?_
    refine V_iadd d_L_law__2339 ?_
    obtain ⟨t6, ht6, hf⟩ := ob hf
    refine V_sld hX9 ht6 d_L_law__2340 ?_
    have hJj7 : ∀ j7 : Bool, j7 = (if t6 = 0 then (false : Bool) else true) → V G C F_L_law_ 2349 [some (.ref b9), some (.ref (G.2.1 + 0)), some (.ref (G.2.1 + 264)), some (.ref (G.2.1 + 275)), some (.int l4), some (.int q4.1), none] [.int (b2i j7), .int t5, .ref (G.2.1 + 264)] (pic G q4.2) n (K + 1) (KS + 6) := by
      intro j7 ej7
      subst ej7
      obtain ⟨q8, hq8, hf⟩ := ob hf
      refine B_callV1 (s_X12_trial hG hq8) k_264 clX12 m_X12_trial kv_RL_272 d_L_law__2349 rfl (Nat.le_of_ble_eq_true rfl) ⟨rfl, rfl, (show K + 1 ≤ 500000 by omega), (show KS + 6 ≤ 5000000 by omega), Nat.le_of_ble_eq_true rfl⟩ (fun n => ?_)
      refine V_istore (ls' := [_, _, _, _, _, _, _]) d_L_law__2352 rfl rfl ?_
      refine V_aload_n d_L_law__2354 rfl rfl ?_
      obtain ⟨t9, ht9, hf⟩ := ob hf
      refine B_callV1 (s_X12_thrown hG ht9) k_264 clX12 m_X12_thrown kv_RL_145 d_L_law__2355 rfl (Nat.le_of_ble_eq_true rfl) ⟨rfl, rfl, (show K + 1 ≤ 500000 by omega), (show KS + 6 ≤ 5000000 by omega), Nat.le_of_ble_eq_true rfl⟩ (fun n => ?_)
      refine V_iload d_L_law__2358 rfl ?_
      refine V_icmp_eq (tgt := 2365) d_L_law__2360 (by decide) (fun c2360 => ?_) (fun c2360 => ?_)
      · replace hf := iteT c2360 hf
        refine V_iload d_L_law__2365 rfl ?_
        refine V_if_ne (tgt := 2382) d_L_law__2367 (by decide) (fun c2367 => ?_) (fun c2367 => ?_)
        · replace hf := iteF c2367 hf
          refine V_less (ls' := [some _, some _, some _, some _, some _, none, none]) ⟨rfl, rfl, rfl, rfl, rfl, trivial⟩ ?_
          exact s_L_law__j2382 hG hX9 hKb hf hK
        · replace hf := iteT c2367 hf
          refine V_aload_n d_L_law__2370 rfl rfl ?_
          refine V_iconst (v := 0) d_L_law__2371 ic_0 ?_
          obtain ⟨t10, ht10, hf⟩ := ob hf
          refine B_lald k_275 ht10 d_L_law__2372 ?_
          refine V_iload d_L_law__2373 rfl ?_
          refine V_i2l d_L_law__2375 ?_
          refine V_lcmp d_L_law__2376 ?_
          refine V_if_eq (tgt := 2382) d_L_law__2377 (by decide) (fun c2377 => ?_) (fun c2377 => ?_)
          · replace hf := iteT (lcT c2377) hf
            refine V_less (ls' := [some _, some _, some _, some _, some _, none, none]) ⟨rfl, rfl, rfl, rfl, rfl, trivial⟩ ?_
            exact s_L_law__j2382 hG hX9 hKb hf hK
          · replace hf := iteF (lcF c2377) hf
            refine V_iconst (v := 0) d_L_law__2380 ic_0 ?_
            cases hf
      · replace hf := iteF c2360 hf
        refine V_iconst (v := 0) d_L_law__2363 ic_0 ?_
        cases hf
    refine V_if_eq (tgt := 2348) d_L_law__2341 (by decide) (fun c2341 => ?_) (fun c2341 => ?_)
    · refine V_iconst (v := 0) d_L_law__2348 ic_0 ?_
      refine V_less (ls' := [some _, some _, some _, some _, some _, some _, none]) ⟨rfl, rfl, rfl, rfl, rfl, rfl, trivial⟩ ?_
      exact hJj7 false (by rw [if_pos c2341])
    · refine V_iconst (v := 1) d_L_law__2344 ic_1 ?_
      refine V_goto (tgt := 2349) d_L_law__2345 (by decide) ?_
      refine V_less (ls' := [some _, some _, some _, some _, some _, some _, none]) ⟨rfl, rfl, rfl, rfl, rfl, rfl, trivial⟩ ?_
      exact hJj7 true (by rw [if_neg c2341])
  refine V_if_eq (tgt := 2321) d_L_law__2314 (by decide) (fun c2314 => ?_) (fun c2314 => ?_)
  · refine V_iconst (v := 0) d_L_law__2321 ic_0 ?_
    refine V_less (ls' := [some _, some _, some _, some _, some _, none, none]) ⟨rfl, rfl, rfl, rfl, rfl, trivial⟩ ?_
    exact hJj3 false (by rw [if_pos c2314])
  · refine V_iconst (v := 1) d_L_law__2317 ic_1 ?_
    refine V_goto (tgt := 2322) d_L_law__2318 (by decide) ?_
    refine V_less (ls' := [some _, some _, some _, some _, some _, none, none]) ⟨rfl, rfl, rfl, rfl, rfl, trivial⟩ ?_
    exact hJj3 true (by rw [if_neg c2314])
theorem s_L_law__j2466 {G : Gl} (hG : G.1.stackTraces = false) {C : Cx} {n b9 K KS : Nat} {μ : Mem} {b9L : Nat} {xs : (Nat → Int32)} {l4 : Int32} (hX9 : ScX G C b9 b9L xs) (hKb : K + 8 ≤ 500000 ∧ KS + 48 ≤ 5000000) {r : Mem} (hf : f_L_law__j2466 μ b9L xs l4 = some r) (hK : ∀ n, V G C F_L_law_ 2708 [some (.ref b9), some (.ref (G.2.1 + 0)), some (.ref (G.2.1 + 264)), some (.ref (G.2.1 + 275)), some (.int l4), none, none] [] (pic G r) n (K + 8) (KS + 48)) : V G C F_L_law_ 2466 [some (.ref b9), some (.ref (G.2.1 + 0)), some (.ref (G.2.1 + 264)), some (.ref (G.2.1 + 275)), some (.int l4), none, none] [] (pic G μ) n (K + 1) (KS + 6) := by
  unfold f_L_law__j2466 at hf
  refine V_goto (tgt := 2708) d_L_law__2466 (by decide) ?_
  refine V_widen (k2 := K + 8) (s2 := KS + 48) (by omega) (by omega) ?_
  refine V_less (ls' := [some _, some _, some _, some _, some _, none, none]) ⟨rfl, rfl, rfl, rfl, rfl, trivial⟩ ?_
  cases hf
  exact hK _
theorem s_L_law__j2385 {G : Gl} (hG : G.1.stackTraces = false) {C : Cx} {n b9 K KS : Nat} {μ : Mem} {b9L : Nat} {xs : (Nat → Int32)} {l4 : Int32} (hX9 : ScX G C b9 b9L xs) (hKb : K + 8 ≤ 500000 ∧ KS + 48 ≤ 5000000) {r : Mem} (hf : f_L_law__j2385 μ b9L xs l4 = some r) (hK : ∀ n, V G C F_L_law_ 2708 [some (.ref b9), some (.ref (G.2.1 + 0)), some (.ref (G.2.1 + 264)), some (.ref (G.2.1 + 275)), some (.int l4), none, none] [] (pic G r) n (K + 8) (KS + 48)) : V G C F_L_law_ 2385 [some (.ref b9), some (.ref (G.2.1 + 0)), some (.ref (G.2.1 + 264)), some (.ref (G.2.1 + 275)), some (.int l4), none, none] [] (pic G μ) n (K + 0) (KS + 0) := by
  unfold f_L_law__j2385 at hf
  refine V_aload_n d_L_law__2385 rfl rfl ?_
  refine V_aload_n d_L_law__2386 rfl rfl ?_
  refine V_iload d_L_law__2387 rfl ?_
  refine V_iconst (v := 1) d_L_law__2389 ic_1 ?_
  refine V_iadd d_L_law__2390 ?_
  obtain ⟨t1, ht1, hf⟩ := ob hf
  refine V_sld hX9 ht1 d_L_law__2391 ?_
  refine V_aload_n d_L_law__2392 rfl rfl ?_
  refine V_iload d_L_law__2393 rfl ?_
  refine V_iconst (v := 2) d_L_law__2395 ic_2 ?_
  refine V_iadd d_L_law__2396 ?_
  obtain ⟨t2, ht2, hf⟩ := ob hf
  refine V_sld hX9 ht2 d_L_law__2397 ?_
  have hJj3 : ∀ j3 : Bool, j3 = (if t2 = 0 then (false : Bool) else true) → V G C F_L_law_ 2406 [some (.ref b9), some (.ref (G.2.1 + 0)), some (.ref (G.2.1 + 264)), some (.ref (G.2.1 + 275)), some (.int l4), none, none] [.int (b2i j3), .int t1, .ref (G.2.1 + 0)] (pic G μ) n (K + 0) (KS + 0) := by
    intro j3 ej3
    subst ej3
    refine V_aload_n d_L_law__2406 rfl rfl ?_
    obtain ⟨q4, hq4, hf⟩ := ob hf
    refine B_callSH (s_L_span hG hq4) (kc' := (K + 1)) (ks' := (KS + 6)) m_L_span ks_RL_273 d_L_law__2407 rfl (Nat.le_of_ble_eq_true rfl) ⟨rfl, rfl, (show K + 1 ≤ 500000 by omega), (show KS + 6 ≤ 5000000 by omega), Nat.le_of_ble_eq_true rfl⟩ (fun n => ?_)
    refine V_istore (ls' := [_, _, _, _, _, _, _]) d_L_law__2410 rfl rfl ?_
    refine V_aload_n d_L_law__2412 rfl rfl ?_
    refine V_aload_n d_L_law__2413 rfl rfl ?_
    refine V_iload d_L_law__2414 rfl ?_
    refine V_iconst (v := 1) d_L_law__2416 ic_1 ?_
    refine V_iadd d_L_law__2417 ?_
    obtain ⟨t5, ht5, hf⟩ := ob hf
    refine V_sld hX9 ht5 d_L_law__2418 ?_
    refine V_aload_n d_L_law__2419 rfl rfl ?_
    refine V_iload d_L_law__2420 rfl ?_
    refine V_iconst (v := 2) d_L_law__2422 ic_2 ?_
    refine V_iadd d_L_law__2423 ?_
    obtain ⟨t6, ht6, hf⟩ := ob hf
    refine V_sld hX9 ht6 d_L_law__2424 ?_
    have hJj7 : ∀ j7 : Bool, j7 = (if t6 = 0 then (false : Bool) else true) → V G C F_L_law_ 2433 [some (.ref b9), some (.ref (G.2.1 + 0)), some (.ref (G.2.1 + 264)), some (.ref (G.2.1 + 275)), some (.int l4), some (.int q4.1), none] [.int (b2i j7), .int t5, .ref (G.2.1 + 264)] (pic G q4.2) n (K + 1) (KS + 6) := by
      intro j7 ej7
      subst ej7
      obtain ⟨q8, hq8, hf⟩ := ob hf
      refine B_callV1 (s_X12_span hG hq8) k_264 clX12 m_X12_span kv_RL_275 d_L_law__2433 rfl (Nat.le_of_ble_eq_true rfl) ⟨rfl, rfl, (show K + 1 ≤ 500000 by omega), (show KS + 6 ≤ 5000000 by omega), Nat.le_of_ble_eq_true rfl⟩ (fun n => ?_)
      refine V_istore (ls' := [_, _, _, _, _, _, _]) d_L_law__2436 rfl rfl ?_
      refine V_aload_n d_L_law__2438 rfl rfl ?_
      obtain ⟨t9, ht9, hf⟩ := ob hf
      refine B_callV1 (s_X12_thrown hG ht9) k_264 clX12 m_X12_thrown kv_RL_145 d_L_law__2439 rfl (Nat.le_of_ble_eq_true rfl) ⟨rfl, rfl, (show K + 1 ≤ 500000 by omega), (show KS + 6 ≤ 5000000 by omega), Nat.le_of_ble_eq_true rfl⟩ (fun n => ?_)
      refine V_iload d_L_law__2442 rfl ?_
      refine V_icmp_eq (tgt := 2449) d_L_law__2444 (by decide) (fun c2444 => ?_) (fun c2444 => ?_)
      · replace hf := iteT c2444 hf
        refine V_iload d_L_law__2449 rfl ?_
        refine V_if_ne (tgt := 2466) d_L_law__2451 (by decide) (fun c2451 => ?_) (fun c2451 => ?_)
        · replace hf := iteF c2451 hf
          refine V_less (ls' := [some _, some _, some _, some _, some _, none, none]) ⟨rfl, rfl, rfl, rfl, rfl, trivial⟩ ?_
          exact s_L_law__j2466 hG hX9 hKb hf hK
        · replace hf := iteT c2451 hf
          refine V_aload_n d_L_law__2454 rfl rfl ?_
          refine V_iconst (v := 0) d_L_law__2455 ic_0 ?_
          obtain ⟨t10, ht10, hf⟩ := ob hf
          refine B_lald k_275 ht10 d_L_law__2456 ?_
          refine V_iload d_L_law__2457 rfl ?_
          refine V_i2l d_L_law__2459 ?_
          refine V_lcmp d_L_law__2460 ?_
          refine V_if_eq (tgt := 2466) d_L_law__2461 (by decide) (fun c2461 => ?_) (fun c2461 => ?_)
          · replace hf := iteT (lcT c2461) hf
            refine V_less (ls' := [some _, some _, some _, some _, some _, none, none]) ⟨rfl, rfl, rfl, rfl, rfl, trivial⟩ ?_
            exact s_L_law__j2466 hG hX9 hKb hf hK
          · replace hf := iteF (lcF c2461) hf
            refine V_iconst (v := 0) d_L_law__2464 ic_0 ?_
            cases hf
      · replace hf := iteF c2444 hf
        refine V_iconst (v := 0) d_L_law__2447 ic_0 ?_
        cases hf
    refine V_if_eq (tgt := 2432) d_L_law__2425 (by decide) (fun c2425 => ?_) (fun c2425 => ?_)
    · refine V_iconst (v := 0) d_L_law__2432 ic_0 ?_
      refine V_less (ls' := [some _, some _, some _, some _, some _, some _, none]) ⟨rfl, rfl, rfl, rfl, rfl, rfl, trivial⟩ ?_
      exact hJj7 false (by rw [if_pos c2425])
    · refine V_iconst (v := 1) d_L_law__2428 ic_1 ?_
      refine V_goto (tgt := 2433) d_L_law__2429 (by decide) ?_
      refine V_less (ls' := [some _, some _, some _, some _, some _, some _, none]) ⟨rfl, rfl, rfl, rfl, rfl, rfl, trivial⟩ ?_
      exact hJj7 true (by rw [if_neg c2425])
  refine V_if_eq (tgt := 2405) d_L_law__2398 (by decide) (fun c2398 => ?_) (fun c2398 => ?_)
  · refine V_iconst (v := 0) d_L_law__2405 ic_0 ?_
    refine V_less (ls' := [some _, some _, some _, some _, some _, none, none]) ⟨rfl, rfl, rfl, rfl, rfl, trivial⟩ ?_
    exact hJj3 false (by rw [if_pos c2398])
  · refine V_iconst (v := 1) d_L_law__2401 ic_1 ?_
    refine V_goto (tgt := 2406) d_L_law__2402 (by decide) ?_
    refine V_less (ls' := [some _, some _, some _, some _, some _, none, none]) ⟨rfl, rfl, rfl, rfl, rfl, trivial⟩ ?_
    exact hJj3 true (by rw [if_neg c2398])
theorem s_L_law__j2550 {G : Gl} (hG : G.1.stackTraces = false) {C : Cx} {n b9 K KS : Nat} {μ : Mem} {b9L : Nat} {xs : (Nat → Int32)} {l4 : Int32} (hX9 : ScX G C b9 b9L xs) (hKb : K + 8 ≤ 500000 ∧ KS + 48 ≤ 5000000) {r : Mem} (hf : f_L_law__j2550 μ b9L xs l4 = some r) (hK : ∀ n, V G C F_L_law_ 2708 [some (.ref b9), some (.ref (G.2.1 + 0)), some (.ref (G.2.1 + 264)), some (.ref (G.2.1 + 275)), some (.int l4), none, none] [] (pic G r) n (K + 8) (KS + 48)) : V G C F_L_law_ 2550 [some (.ref b9), some (.ref (G.2.1 + 0)), some (.ref (G.2.1 + 264)), some (.ref (G.2.1 + 275)), some (.int l4), none, none] [] (pic G μ) n (K + 1) (KS + 6) := by
  unfold f_L_law__j2550 at hf
  refine V_goto (tgt := 2708) d_L_law__2550 (by decide) ?_
  refine V_widen (k2 := K + 8) (s2 := KS + 48) (by omega) (by omega) ?_
  refine V_less (ls' := [some _, some _, some _, some _, some _, none, none]) ⟨rfl, rfl, rfl, rfl, rfl, trivial⟩ ?_
  cases hf
  exact hK _
theorem s_L_law__j2469 {G : Gl} (hG : G.1.stackTraces = false) {C : Cx} {n b9 K KS : Nat} {μ : Mem} {b9L : Nat} {xs : (Nat → Int32)} {l4 : Int32} (hX9 : ScX G C b9 b9L xs) (hKb : K + 8 ≤ 500000 ∧ KS + 48 ≤ 5000000) {r : Mem} (hf : f_L_law__j2469 μ b9L xs l4 = some r) (hK : ∀ n, V G C F_L_law_ 2708 [some (.ref b9), some (.ref (G.2.1 + 0)), some (.ref (G.2.1 + 264)), some (.ref (G.2.1 + 275)), some (.int l4), none, none] [] (pic G r) n (K + 8) (KS + 48)) : V G C F_L_law_ 2469 [some (.ref b9), some (.ref (G.2.1 + 0)), some (.ref (G.2.1 + 264)), some (.ref (G.2.1 + 275)), some (.int l4), none, none] [] (pic G μ) n (K + 0) (KS + 0) := by
  unfold f_L_law__j2469 at hf
  refine V_aload_n d_L_law__2469 rfl rfl ?_
  refine V_aload_n d_L_law__2470 rfl rfl ?_
  refine V_iload d_L_law__2471 rfl ?_
  refine V_iconst (v := 1) d_L_law__2473 ic_1 ?_
  refine V_iadd d_L_law__2474 ?_
  obtain ⟨t1, ht1, hf⟩ := ob hf
  refine V_sld hX9 ht1 d_L_law__2475 ?_
  refine V_aload_n d_L_law__2476 rfl rfl ?_
  refine V_iload d_L_law__2477 rfl ?_
  refine V_iconst (v := 2) d_L_law__2479 ic_2 ?_
  refine V_iadd d_L_law__2480 ?_
  obtain ⟨t2, ht2, hf⟩ := ob hf
  refine V_sld hX9 ht2 d_L_law__2481 ?_
  have hJj3 : ∀ j3 : Bool, j3 = (if t2 = 0 then (false : Bool) else true) → V G C F_L_law_ 2490 [some (.ref b9), some (.ref (G.2.1 + 0)), some (.ref (G.2.1 + 264)), some (.ref (G.2.1 + 275)), some (.int l4), none, none] [.int (b2i j3), .int t1, .ref (G.2.1 + 0)] (pic G μ) n (K + 0) (KS + 0) := by
    intro j3 ej3
    subst ej3
    refine V_aload_n d_L_law__2490 rfl rfl ?_
    obtain ⟨q4, hq4, hf⟩ := ob hf
    refine B_callSH (s_L_led hG hq4) (kc' := (K + 1)) (ks' := (KS + 6)) m_L_led ks_RL_276 d_L_law__2491 rfl (Nat.le_of_ble_eq_true rfl) ⟨rfl, rfl, (show K + 1 ≤ 500000 by omega), (show KS + 6 ≤ 5000000 by omega), Nat.le_of_ble_eq_true rfl⟩ (fun n => ?_)
    refine V_istore (ls' := [_, _, _, _, _, _, _]) d_L_law__2494 rfl rfl ?_
    refine V_aload_n d_L_law__2496 rfl rfl ?_
    refine V_aload_n d_L_law__2497 rfl rfl ?_
    refine V_iload d_L_law__2498 rfl ?_
    refine V_iconst (v := 1) d_L_law__2500 ic_1 ?_
    refine V_iadd d_L_law__2501 ?_
    obtain ⟨t5, ht5, hf⟩ := ob hf
    refine V_sld hX9 ht5 d_L_law__2502 ?_
    refine V_aload_n d_L_law__2503 rfl rfl ?_
    refine V_iload d_L_law__2504 rfl ?_
    refine V_iconst (v := 2) d_L_law__2506 ic_2 ?_
    refine V_iadd d_L_law__2507 ?_
    obtain ⟨t6, ht6, hf⟩ := ob hf
    refine V_sld hX9 ht6 d_L_law__2508 ?_
    have hJj7 : ∀ j7 : Bool, j7 = (if t6 = 0 then (false : Bool) else true) → V G C F_L_law_ 2517 [some (.ref b9), some (.ref (G.2.1 + 0)), some (.ref (G.2.1 + 264)), some (.ref (G.2.1 + 275)), some (.int l4), some (.int q4.1), none] [.int (b2i j7), .int t5, .ref (G.2.1 + 264)] (pic G q4.2) n (K + 1) (KS + 6) := by
      intro j7 ej7
      subst ej7
      obtain ⟨q8, hq8, hf⟩ := ob hf
      refine B_callV1 (s_X12_led hG hq8) k_264 clX12 m_X12_led kv_RL_278 d_L_law__2517 rfl (Nat.le_of_ble_eq_true rfl) ⟨rfl, rfl, (show K + 1 ≤ 500000 by omega), (show KS + 6 ≤ 5000000 by omega), Nat.le_of_ble_eq_true rfl⟩ (fun n => ?_)
      refine V_istore (ls' := [_, _, _, _, _, _, _]) d_L_law__2520 rfl rfl ?_
      refine V_aload_n d_L_law__2522 rfl rfl ?_
      obtain ⟨t9, ht9, hf⟩ := ob hf
      refine B_callV1 (s_X12_thrown hG ht9) k_264 clX12 m_X12_thrown kv_RL_145 d_L_law__2523 rfl (Nat.le_of_ble_eq_true rfl) ⟨rfl, rfl, (show K + 1 ≤ 500000 by omega), (show KS + 6 ≤ 5000000 by omega), Nat.le_of_ble_eq_true rfl⟩ (fun n => ?_)
      refine V_iload d_L_law__2526 rfl ?_
      refine V_icmp_eq (tgt := 2533) d_L_law__2528 (by decide) (fun c2528 => ?_) (fun c2528 => ?_)
      · replace hf := iteT c2528 hf
        refine V_iload d_L_law__2533 rfl ?_
        refine V_if_ne (tgt := 2550) d_L_law__2535 (by decide) (fun c2535 => ?_) (fun c2535 => ?_)
        · replace hf := iteF c2535 hf
          refine V_less (ls' := [some _, some _, some _, some _, some _, none, none]) ⟨rfl, rfl, rfl, rfl, rfl, trivial⟩ ?_
          exact s_L_law__j2550 hG hX9 hKb hf hK
        · replace hf := iteT c2535 hf
          refine V_aload_n d_L_law__2538 rfl rfl ?_
          refine V_iconst (v := 0) d_L_law__2539 ic_0 ?_
          obtain ⟨t10, ht10, hf⟩ := ob hf
          refine B_lald k_275 ht10 d_L_law__2540 ?_
          refine V_iload d_L_law__2541 rfl ?_
          refine V_i2l d_L_law__2543 ?_
          refine V_lcmp d_L_law__2544 ?_
          refine V_if_eq (tgt := 2550) d_L_law__2545 (by decide) (fun c2545 => ?_) (fun c2545 => ?_)
          · replace hf := iteT (lcT c2545) hf
            refine V_less (ls' := [some _, some _, some _, some _, some _, none, none]) ⟨rfl, rfl, rfl, rfl, rfl, trivial⟩ ?_
            exact s_L_law__j2550 hG hX9 hKb hf hK
          · replace hf := iteF (lcF c2545) hf
            refine V_iconst (v := 0) d_L_law__2548 ic_0 ?_
            cases hf
      · replace hf := iteF c2528 hf
        refine V_iconst (v := 0) d_L_law__2531 ic_0 ?_
        cases hf
    refine V_if_eq (tgt := 2516) d_L_law__2509 (by decide) (fun c2509 => ?_) (fun c2509 => ?_)
    · refine V_iconst (v := 0) d_L_law__2516 ic_0 ?_
      refine V_less (ls' := [some _, some _, some _, some _, some _, some _, none]) ⟨rfl, rfl, rfl, rfl, rfl, rfl, trivial⟩ ?_
      exact hJj7 false (by rw [if_pos c2509])
    · refine V_iconst (v := 1) d_L_law__2512 ic_1 ?_
      refine V_goto (tgt := 2517) d_L_law__2513 (by decide) ?_
      refine V_less (ls' := [some _, some _, some _, some _, some _, some _, none]) ⟨rfl, rfl, rfl, rfl, rfl, rfl, trivial⟩ ?_
      exact hJj7 true (by rw [if_neg c2509])
  refine V_if_eq (tgt := 2489) d_L_law__2482 (by decide) (fun c2482 => ?_) (fun c2482 => ?_)
  · refine V_iconst (v := 0) d_L_law__2489 ic_0 ?_
    refine V_less (ls' := [some _, some _, some _, some _, some _, none, none]) ⟨rfl, rfl, rfl, rfl, rfl, trivial⟩ ?_
    exact hJj3 false (by rw [if_pos c2482])
  · refine V_iconst (v := 1) d_L_law__2485 ic_1 ?_
    refine V_goto (tgt := 2490) d_L_law__2486 (by decide) ?_
    refine V_less (ls' := [some _, some _, some _, some _, some _, none, none]) ⟨rfl, rfl, rfl, rfl, rfl, trivial⟩ ?_
    exact hJj3 true (by rw [if_neg c2482])
theorem s_L_law__j2618 {G : Gl} (hG : G.1.stackTraces = false) {C : Cx} {n b9 K KS : Nat} {μ : Mem} {b9L : Nat} {xs : (Nat → Int32)} {l4 : Int32} (hX9 : ScX G C b9 b9L xs) (hKb : K + 8 ≤ 500000 ∧ KS + 48 ≤ 5000000) {r : Mem} (hf : f_L_law__j2618 μ b9L xs l4 = some r) (hK : ∀ n, V G C F_L_law_ 2708 [some (.ref b9), some (.ref (G.2.1 + 0)), some (.ref (G.2.1 + 264)), some (.ref (G.2.1 + 275)), some (.int l4), none, none] [] (pic G r) n (K + 8) (KS + 48)) : V G C F_L_law_ 2618 [some (.ref b9), some (.ref (G.2.1 + 0)), some (.ref (G.2.1 + 264)), some (.ref (G.2.1 + 275)), some (.int l4), none, none] [] (pic G μ) n (K + 1) (KS + 6) := by
  unfold f_L_law__j2618 at hf
  refine V_goto (tgt := 2708) d_L_law__2618 (by decide) ?_
  refine V_widen (k2 := K + 8) (s2 := KS + 48) (by omega) (by omega) ?_
  refine V_less (ls' := [some _, some _, some _, some _, some _, none, none]) ⟨rfl, rfl, rfl, rfl, rfl, trivial⟩ ?_
  cases hf
  exact hK _
theorem s_L_law__j2553 {G : Gl} (hG : G.1.stackTraces = false) {C : Cx} {n b9 K KS : Nat} {μ : Mem} {b9L : Nat} {xs : (Nat → Int32)} {l4 : Int32} (hX9 : ScX G C b9 b9L xs) (hKb : K + 8 ≤ 500000 ∧ KS + 48 ≤ 5000000) {r : Mem} (hf : f_L_law__j2553 μ b9L xs l4 = some r) (hK : ∀ n, V G C F_L_law_ 2708 [some (.ref b9), some (.ref (G.2.1 + 0)), some (.ref (G.2.1 + 264)), some (.ref (G.2.1 + 275)), some (.int l4), none, none] [] (pic G r) n (K + 8) (KS + 48)) : V G C F_L_law_ 2553 [some (.ref b9), some (.ref (G.2.1 + 0)), some (.ref (G.2.1 + 264)), some (.ref (G.2.1 + 275)), some (.int l4), none, none] [] (pic G μ) n (K + 0) (KS + 0) := by
  unfold f_L_law__j2553 at hf
  refine V_aload_n d_L_law__2553 rfl rfl ?_
  refine V_aload_n d_L_law__2554 rfl rfl ?_
  refine V_iload d_L_law__2555 rfl ?_
  refine V_iconst (v := 1) d_L_law__2557 ic_1 ?_
  refine V_iadd d_L_law__2558 ?_
  obtain ⟨t1, ht1, hf⟩ := ob hf
  refine V_sld hX9 ht1 d_L_law__2559 ?_
  refine V_aload_n d_L_law__2560 rfl rfl ?_
  refine V_iload d_L_law__2561 rfl ?_
  refine V_iconst (v := 2) d_L_law__2563 ic_2 ?_
  refine V_iadd d_L_law__2564 ?_
  obtain ⟨t2, ht2, hf⟩ := ob hf
  refine V_sld hX9 ht2 d_L_law__2565 ?_
  refine V_aload_n d_L_law__2566 rfl rfl ?_
  obtain ⟨q3, hq3, hf⟩ := ob hf
  refine B_callSH (s_L_log hG hq3) (kc' := (K + 1)) (ks' := (KS + 6)) m_L_log ks_RL_279 d_L_law__2567 rfl (Nat.le_of_ble_eq_true rfl) ⟨rfl, rfl, (show K + 1 ≤ 500000 by omega), (show KS + 6 ≤ 5000000 by omega), Nat.le_of_ble_eq_true rfl⟩ (fun n => ?_)
  refine V_istore (ls' := [_, _, _, _, _, _, _]) d_L_law__2570 rfl rfl ?_
  refine V_aload_n d_L_law__2572 rfl rfl ?_
  refine V_aload_n d_L_law__2573 rfl rfl ?_
  refine V_iload d_L_law__2574 rfl ?_
  refine V_iconst (v := 1) d_L_law__2576 ic_1 ?_
  refine V_iadd d_L_law__2577 ?_
  obtain ⟨t4, ht4, hf⟩ := ob hf
  refine V_sld hX9 ht4 d_L_law__2578 ?_
  refine V_aload_n d_L_law__2579 rfl rfl ?_
  refine V_iload d_L_law__2580 rfl ?_
  refine V_iconst (v := 2) d_L_law__2582 ic_2 ?_
  refine V_iadd d_L_law__2583 ?_
  obtain ⟨t5, ht5, hf⟩ := ob hf
  refine V_sld hX9 ht5 d_L_law__2584 ?_
  obtain ⟨q6, hq6, hf⟩ := ob hf
  refine B_callV1 (s_X12_log hG hq6) k_264 clX12 m_X12_log kv_RL_281 d_L_law__2585 rfl (Nat.le_of_ble_eq_true rfl) ⟨rfl, rfl, (show K + 1 ≤ 500000 by omega), (show KS + 6 ≤ 5000000 by omega), Nat.le_of_ble_eq_true rfl⟩ (fun n => ?_)
  refine V_istore (ls' := [_, _, _, _, _, _, _]) d_L_law__2588 rfl rfl ?_
  refine V_aload_n d_L_law__2590 rfl rfl ?_
  obtain ⟨t7, ht7, hf⟩ := ob hf
  refine B_callV1 (s_X12_thrown hG ht7) k_264 clX12 m_X12_thrown kv_RL_145 d_L_law__2591 rfl (Nat.le_of_ble_eq_true rfl) ⟨rfl, rfl, (show K + 1 ≤ 500000 by omega), (show KS + 6 ≤ 5000000 by omega), Nat.le_of_ble_eq_true rfl⟩ (fun n => ?_)
  refine V_iload d_L_law__2594 rfl ?_
  refine V_icmp_eq (tgt := 2601) d_L_law__2596 (by decide) (fun c2596 => ?_) (fun c2596 => ?_)
  · replace hf := iteT c2596 hf
    refine V_iload d_L_law__2601 rfl ?_
    refine V_if_ne (tgt := 2618) d_L_law__2603 (by decide) (fun c2603 => ?_) (fun c2603 => ?_)
    · replace hf := iteF c2603 hf
      refine V_less (ls' := [some _, some _, some _, some _, some _, none, none]) ⟨rfl, rfl, rfl, rfl, rfl, trivial⟩ ?_
      exact s_L_law__j2618 hG hX9 hKb hf hK
    · replace hf := iteT c2603 hf
      refine V_aload_n d_L_law__2606 rfl rfl ?_
      refine V_iconst (v := 0) d_L_law__2607 ic_0 ?_
      obtain ⟨t8, ht8, hf⟩ := ob hf
      refine B_lald k_275 ht8 d_L_law__2608 ?_
      refine V_iload d_L_law__2609 rfl ?_
      refine V_i2l d_L_law__2611 ?_
      refine V_lcmp d_L_law__2612 ?_
      refine V_if_eq (tgt := 2618) d_L_law__2613 (by decide) (fun c2613 => ?_) (fun c2613 => ?_)
      · replace hf := iteT (lcT c2613) hf
        refine V_less (ls' := [some _, some _, some _, some _, some _, none, none]) ⟨rfl, rfl, rfl, rfl, rfl, trivial⟩ ?_
        exact s_L_law__j2618 hG hX9 hKb hf hK
      · replace hf := iteF (lcF c2613) hf
        refine V_iconst (v := 0) d_L_law__2616 ic_0 ?_
        cases hf
  · replace hf := iteF c2596 hf
    refine V_iconst (v := 0) d_L_law__2599 ic_0 ?_
    cases hf
theorem s_L_law__j2621 {G : Gl} (hG : G.1.stackTraces = false) {C : Cx} {n b9 K KS : Nat} {μ : Mem} {b9L : Nat} {xs : (Nat → Int32)} {l4 : Int32} (hX9 : ScX G C b9 b9L xs) (hKb : K + 8 ≤ 500000 ∧ KS + 48 ≤ 5000000) {r : Mem} (hf : f_L_law__j2621 μ b9L xs l4 = some r) (hK : ∀ n, V G C F_L_law_ 2708 [some (.ref b9), some (.ref (G.2.1 + 0)), some (.ref (G.2.1 + 264)), some (.ref (G.2.1 + 275)), some (.int l4), none, none] [] (pic G r) n (K + 8) (KS + 48)) : V G C F_L_law_ 2621 [some (.ref b9), some (.ref (G.2.1 + 0)), some (.ref (G.2.1 + 264)), some (.ref (G.2.1 + 275)), some (.int l4), none, none] [] (pic G μ) n (K + 0) (KS + 0) := by
  unfold f_L_law__j2621 at hf
  refine V_aload_n d_L_law__2621 rfl rfl ?_
  refine V_aload_n d_L_law__2622 rfl rfl ?_
  refine V_iload d_L_law__2623 rfl ?_
  refine V_iconst (v := 1) d_L_law__2625 ic_1 ?_
  refine V_iadd d_L_law__2626 ?_
  obtain ⟨t1, ht1, hf⟩ := ob hf
  refine V_sld hX9 ht1 d_L_law__2627 ?_
  obtain ⟨q2, hq2, hf⟩ := ob hf
  refine B_callV1 (s_X11_seed hG hq2) k_0 clX11 m_X11_seed kv_RL_282 d_L_law__2628 rfl (Nat.le_of_ble_eq_true rfl) ⟨rfl, rfl, (show K + 0 ≤ 500000 by omega), (show KS + 0 ≤ 5000000 by omega), Nat.le_of_ble_eq_true rfl⟩ (fun n => ?_)
  refine V_aload_n d_L_law__2631 rfl rfl ?_
  refine V_aload_n d_L_law__2632 rfl rfl ?_
  refine V_iload d_L_law__2633 rfl ?_
  refine V_iconst (v := 1) d_L_law__2635 ic_1 ?_
  refine V_iadd d_L_law__2636 ?_
  obtain ⟨t3, ht3, hf⟩ := ob hf
  refine V_sld hX9 ht3 d_L_law__2637 ?_
  obtain ⟨q4, hq4, hf⟩ := ob hf
  refine B_callV1 (s_X12_seed hG hq4) k_264 clX12 m_X12_seed kv_RL_285 d_L_law__2638 rfl (Nat.le_of_ble_eq_true rfl) ⟨rfl, rfl, (show K + 0 ≤ 500000 by omega), (show KS + 0 ≤ 5000000 by omega), Nat.le_of_ble_eq_true rfl⟩ (fun n => ?_)
  refine V_icmp_eq (tgt := 2708) d_L_law__2641 (by decide) (fun c2641 => ?_) (fun c2641 => ?_)
  · replace hf := iteT c2641 hf
    refine V_widen (k2 := K + 8) (s2 := KS + 48) (by omega) (by omega) ?_
    refine V_less (ls' := [some _, some _, some _, some _, some _, none, none]) ⟨rfl, rfl, rfl, rfl, rfl, trivial⟩ ?_
    cases hf
    exact hK _
  · replace hf := iteF c2641 hf
    refine V_iconst (v := 0) d_L_law__2644 ic_0 ?_
    cases hf
theorem s_L_law__j2646 {G : Gl} (hG : G.1.stackTraces = false) {C : Cx} {n b9 K KS : Nat} {μ : Mem} {b9L : Nat} {xs : (Nat → Int32)} {l4 : Int32} (hX9 : ScX G C b9 b9L xs) (hKb : K + 8 ≤ 500000 ∧ KS + 48 ≤ 5000000) {r : Mem} (hf : f_L_law__j2646 μ b9L xs l4 = some r) (hK : ∀ n, V G C F_L_law_ 2708 [some (.ref b9), some (.ref (G.2.1 + 0)), some (.ref (G.2.1 + 264)), some (.ref (G.2.1 + 275)), some (.int l4), none, none] [] (pic G r) n (K + 8) (KS + 48)) : V G C F_L_law_ 2646 [some (.ref b9), some (.ref (G.2.1 + 0)), some (.ref (G.2.1 + 264)), some (.ref (G.2.1 + 275)), some (.int l4), none, none] [] (pic G μ) n (K + 0) (KS + 0) := by
  unfold f_L_law__j2646 at hf
  refine V_aload_n d_L_law__2646 rfl rfl ?_
  obtain ⟨q1, hq1, hf⟩ := ob hf
  refine B_callV1 (s_X11_undo hG hq1) k_0 clX11 m_X11_undo kv_RL_286 d_L_law__2647 rfl (Nat.le_of_ble_eq_true rfl) ⟨rfl, rfl, (show K + 0 ≤ 500000 by omega), (show KS + 0 ≤ 5000000 by omega), Nat.le_of_ble_eq_true rfl⟩ (fun n => ?_)
  refine V_aload_n d_L_law__2650 rfl rfl ?_
  obtain ⟨q2, hq2, hf⟩ := ob hf
  refine B_callV1 (s_X12_undo hG hq2) k_264 clX12 m_X12_undo kv_RL_290 d_L_law__2651 rfl (Nat.le_of_ble_eq_true rfl) ⟨rfl, rfl, (show K + 0 ≤ 500000 by omega), (show KS + 0 ≤ 5000000 by omega), Nat.le_of_ble_eq_true rfl⟩ (fun n => ?_)
  refine V_icmp_eq (tgt := 2708) d_L_law__2654 (by decide) (fun c2654 => ?_) (fun c2654 => ?_)
  · replace hf := iteT c2654 hf
    refine V_widen (k2 := K + 8) (s2 := KS + 48) (by omega) (by omega) ?_
    refine V_less (ls' := [some _, some _, some _, some _, some _, none, none]) ⟨rfl, rfl, rfl, rfl, rfl, trivial⟩ ?_
    cases hf
    exact hK _
  · replace hf := iteF c2654 hf
    refine V_iconst (v := 0) d_L_law__2657 ic_0 ?_
    cases hf
theorem s_L_law__j2659 {G : Gl} (hG : G.1.stackTraces = false) {C : Cx} {n b9 K KS : Nat} {μ : Mem} {b9L : Nat} {xs : (Nat → Int32)} {l4 : Int32} (hX9 : ScX G C b9 b9L xs) (hKb : K + 8 ≤ 500000 ∧ KS + 48 ≤ 5000000) {r : Mem} (hf : f_L_law__j2659 μ b9L xs l4 = some r) (hK : ∀ n, V G C F_L_law_ 2708 [some (.ref b9), some (.ref (G.2.1 + 0)), some (.ref (G.2.1 + 264)), some (.ref (G.2.1 + 275)), some (.int l4), none, none] [] (pic G r) n (K + 8) (KS + 48)) : V G C F_L_law_ 2659 [some (.ref b9), some (.ref (G.2.1 + 0)), some (.ref (G.2.1 + 264)), some (.ref (G.2.1 + 275)), some (.int l4), none, none] [] (pic G μ) n (K + 0) (KS + 0) := by
  unfold f_L_law__j2659 at hf
  refine V_aload_n d_L_law__2659 rfl rfl ?_
  obtain ⟨q1, hq1, hf⟩ := ob hf
  refine B_callV0 (s_X11_image hG hq1) k_0 clX11 m_X11_image kv_RL_291 d_L_law__2660 rfl (Nat.le_of_ble_eq_true rfl) ⟨rfl, rfl, (show K + 0 ≤ 500000 by omega), (show KS + 0 ≤ 5000000 by omega), Nat.le_of_ble_eq_true rfl⟩ (fun n => ?_)
  refine V_aload_n d_L_law__2663 rfl rfl ?_
  obtain ⟨q2, hq2, hf⟩ := ob hf
  refine B_callV0 (s_X12_image hG hq2) k_264 clX12 m_X12_image kv_RL_294 d_L_law__2664 rfl (Nat.le_of_ble_eq_true rfl) ⟨rfl, rfl, (show K + 0 ≤ 500000 by omega), (show KS + 0 ≤ 5000000 by omega), Nat.le_of_ble_eq_true rfl⟩ (fun n => ?_)
  refine V_goto (tgt := 2708) d_L_law__2667 (by decide) ?_
  refine V_widen (k2 := K + 8) (s2 := KS + 48) (by omega) (by omega) ?_
  refine V_less (ls' := [some _, some _, some _, some _, some _, none, none]) ⟨rfl, rfl, rfl, rfl, rfl, trivial⟩ ?_
  cases hf
  exact hK _
theorem s_L_law__j2670 {G : Gl} (hG : G.1.stackTraces = false) {C : Cx} {n b9 K KS : Nat} {μ : Mem} {b9L : Nat} {xs : (Nat → Int32)} {l4 : Int32} (hX9 : ScX G C b9 b9L xs) (hKb : K + 8 ≤ 500000 ∧ KS + 48 ≤ 5000000) {r : Mem} (hf : f_L_law__j2670 μ b9L xs l4 = some r) (hK : ∀ n, V G C F_L_law_ 2708 [some (.ref b9), some (.ref (G.2.1 + 0)), some (.ref (G.2.1 + 264)), some (.ref (G.2.1 + 275)), some (.int l4), none, none] [] (pic G r) n (K + 8) (KS + 48)) : V G C F_L_law_ 2670 [some (.ref b9), some (.ref (G.2.1 + 0)), some (.ref (G.2.1 + 264)), some (.ref (G.2.1 + 275)), some (.int l4), none, none] [] (pic G μ) n (K + 0) (KS + 0) := by
  unfold f_L_law__j2670 at hf
  refine V_aload_n d_L_law__2670 rfl rfl ?_
  obtain ⟨q1, hq1, hf⟩ := ob hf
  refine B_callV1 (s_X11_back hG hq1) k_0 clX11 m_X11_back kv_RL_295 d_L_law__2671 rfl (Nat.le_of_ble_eq_true rfl) ⟨rfl, rfl, (show K + 0 ≤ 500000 by omega), (show KS + 0 ≤ 5000000 by omega), Nat.le_of_ble_eq_true rfl⟩ (fun n => ?_)
  refine V_aload_n d_L_law__2674 rfl rfl ?_
  obtain ⟨q2, hq2, hf⟩ := ob hf
  refine B_callV1 (s_X12_back hG hq2) k_264 clX12 m_X12_back kv_RL_298 d_L_law__2675 rfl (Nat.le_of_ble_eq_true rfl) ⟨rfl, rfl, (show K + 0 ≤ 500000 by omega), (show KS + 0 ≤ 5000000 by omega), Nat.le_of_ble_eq_true rfl⟩ (fun n => ?_)
  refine V_icmp_eq (tgt := 2708) d_L_law__2678 (by decide) (fun c2678 => ?_) (fun c2678 => ?_)
  · replace hf := iteT c2678 hf
    refine V_widen (k2 := K + 8) (s2 := KS + 48) (by omega) (by omega) ?_
    refine V_less (ls' := [some _, some _, some _, some _, some _, none, none]) ⟨rfl, rfl, rfl, rfl, rfl, trivial⟩ ?_
    cases hf
    exact hK _
  · replace hf := iteF c2678 hf
    refine V_iconst (v := 0) d_L_law__2681 ic_0 ?_
    cases hf
theorem s_L_law__j2683 {G : Gl} (hG : G.1.stackTraces = false) {C : Cx} {n b9 K KS : Nat} {μ : Mem} {b9L : Nat} {xs : (Nat → Int32)} {l4 : Int32} (hX9 : ScX G C b9 b9L xs) (hKb : K + 8 ≤ 500000 ∧ KS + 48 ≤ 5000000) {r : Mem} (hf : f_L_law__j2683 μ b9L xs l4 = some r) (hK : ∀ n, V G C F_L_law_ 2708 [some (.ref b9), some (.ref (G.2.1 + 0)), some (.ref (G.2.1 + 264)), some (.ref (G.2.1 + 275)), some (.int l4), none, none] [] (pic G r) n (K + 8) (KS + 48)) : V G C F_L_law_ 2683 [some (.ref b9), some (.ref (G.2.1 + 0)), some (.ref (G.2.1 + 264)), some (.ref (G.2.1 + 275)), some (.int l4), none, none] [] (pic G μ) n (K + 0) (KS + 0) := by
  unfold f_L_law__j2683 at hf
  refine V_aload_n d_L_law__2683 rfl rfl ?_
  refine V_aload_n d_L_law__2684 rfl rfl ?_
  refine V_iload d_L_law__2685 rfl ?_
  refine V_iconst (v := 1) d_L_law__2687 ic_1 ?_
  refine V_iadd d_L_law__2688 ?_
  obtain ⟨t1, ht1, hf⟩ := ob hf
  refine V_sld hX9 ht1 d_L_law__2689 ?_
  obtain ⟨t2, ht2, hf⟩ := ob hf
  refine B_callV1 (s_X11_count hG ht2) k_0 clX11 m_X11_count kv_RL_299 d_L_law__2690 rfl (Nat.le_of_ble_eq_true rfl) ⟨rfl, rfl, (show K + 0 ≤ 500000 by omega), (show KS + 0 ≤ 5000000 by omega), Nat.le_of_ble_eq_true rfl⟩ (fun n => ?_)
  refine V_aload_n d_L_law__2693 rfl rfl ?_
  refine V_aload_n d_L_law__2694 rfl rfl ?_
  refine V_iload d_L_law__2695 rfl ?_
  refine V_iconst (v := 1) d_L_law__2697 ic_1 ?_
  refine V_iadd d_L_law__2698 ?_
  obtain ⟨t3, ht3, hf⟩ := ob hf
  refine V_sld hX9 ht3 d_L_law__2699 ?_
  obtain ⟨q4, hq4, hf⟩ := ob hf
  refine B_callV1 (s_X12_count hG hq4) k_264 clX12 m_X12_count kv_RL_302 d_L_law__2700 rfl (Nat.le_of_ble_eq_true rfl) ⟨rfl, rfl, (show K + 0 ≤ 500000 by omega), (show KS + 0 ≤ 5000000 by omega), Nat.le_of_ble_eq_true rfl⟩ (fun n => ?_)
  refine V_icmp_eq (tgt := 2708) d_L_law__2703 (by decide) (fun c2703 => ?_) (fun c2703 => ?_)
  · replace hf := iteT c2703 hf
    refine V_widen (k2 := K + 8) (s2 := KS + 48) (by omega) (by omega) ?_
    refine V_less (ls' := [some _, some _, some _, some _, some _, none, none]) ⟨rfl, rfl, rfl, rfl, rfl, trivial⟩ ?_
    cases hf
    exact hK _
  · replace hf := iteF c2703 hf
    refine V_iconst (v := 0) d_L_law__2706 ic_0 ?_
    cases hf
theorem s_L_law__j33 {G : Gl} (hG : G.1.stackTraces = false) {C : Cx} {n b9 K KS : Nat} {μ : Mem} {b9L : Nat} {xs : (Nat → Int32)} {l4 : Int32} (hX9 : ScX G C b9 b9L xs) (hKb : K + 8 ≤ 500000 ∧ KS + 48 ≤ 5000000) {r : Mem} (hf : f_L_law__j33 μ b9L xs l4 = some r) (hK : ∀ n, V G C F_L_law_ 2708 [some (.ref b9), some (.ref (G.2.1 + 0)), some (.ref (G.2.1 + 264)), some (.ref (G.2.1 + 275)), some (.int l4), none, none] [] (pic G r) n (K + 8) (KS + 48)) : V G C F_L_law_ 33 [some (.ref b9), some (.ref (G.2.1 + 0)), some (.ref (G.2.1 + 264)), some (.ref (G.2.1 + 275)), some (.int l4), none, none] [] (pic G μ) n (K + 0) (KS + 0) := by
  unfold f_L_law__j33 at hf
  refine V_aload_n d_L_law__33 rfl rfl ?_
  refine V_iload d_L_law__34 rfl ?_
  obtain ⟨t1, ht1, hf⟩ := ob hf
  refine V_sld hX9 ht1 d_L_law__36 ?_
  refine V_bipush (v := 63) d_L_law__37 bp_63 ?_
  refine V_iand d_L_law__39 ?_
  by_cases c40_0 : (t1 &&& 63) = 0
  · replace hf := iteT c40_0 hf
    refine V_tabC (q := 0) (off := 208) (tgt := 248) d_L_law__40 c40_0 (by decide) (by decide) ?_
    refine V_less (ls' := [some _, some _, some _, some _, some _, none, none]) ⟨rfl, rfl, rfl, rfl, rfl, trivial⟩ ?_
    exact s_L_law__j248 hG hX9 hKb hf hK
  replace hf := iteF c40_0 hf
  by_cases c40_1 : (t1 &&& 63) = 1
  · replace hf := iteT c40_1 hf
    refine V_tabC (q := 1) (off := 281) (tgt := 321) d_L_law__40 c40_1 (by decide) (by decide) ?_
    refine V_less (ls' := [some _, some _, some _, some _, some _, none, none]) ⟨rfl, rfl, rfl, rfl, rfl, trivial⟩ ?_
    exact s_L_law__j321 hG hX9 hKb hf hK
  replace hf := iteF c40_1 hf
  by_cases c40_2 : (t1 &&& 63) = 2
  · replace hf := iteT c40_2 hf
    refine V_tabC (q := 2) (off := 306) (tgt := 346) d_L_law__40 c40_2 (by decide) (by decide) ?_
    refine V_less (ls' := [some _, some _, some _, some _, some _, none, none]) ⟨rfl, rfl, rfl, rfl, rfl, trivial⟩ ?_
    exact s_L_law__j346 hG hX9 hKb hf hK
  replace hf := iteF c40_2 hf
  by_cases c40_3 : (t1 &&& 63) = 3
  · replace hf := iteT c40_3 hf
    refine V_tabC (q := 3) (off := 350) (tgt := 390) d_L_law__40 c40_3 (by decide) (by decide) ?_
    refine V_less (ls' := [some _, some _, some _, some _, some _, none, none]) ⟨rfl, rfl, rfl, rfl, rfl, trivial⟩ ?_
    exact s_L_law__j390 hG hX9 hKb hf hK
  replace hf := iteF c40_3 hf
  by_cases c40_4 : (t1 &&& 63) = 4
  · replace hf := iteT c40_4 hf
    refine V_tabC (q := 4) (off := 394) (tgt := 434) d_L_law__40 c40_4 (by decide) (by decide) ?_
    refine V_less (ls' := [some _, some _, some _, some _, some _, none, none]) ⟨rfl, rfl, rfl, rfl, rfl, trivial⟩ ?_
    exact s_L_law__j434 hG hX9 hKb hf hK
  replace hf := iteF c40_4 hf
  by_cases c40_5 : (t1 &&& 63) = 5
  · replace hf := iteT c40_5 hf
    refine V_tabC (q := 5) (off := 407) (tgt := 447) d_L_law__40 c40_5 (by decide) (by decide) ?_
    refine V_less (ls' := [some _, some _, some _, some _, some _, none, none]) ⟨rfl, rfl, rfl, rfl, rfl, trivial⟩ ?_
    exact s_L_law__j447 hG hX9 hKb hf hK
  replace hf := iteF c40_5 hf
  by_cases c40_6 : (t1 &&& 63) = 6
  · replace hf := iteT c40_6 hf
    refine V_tabC (q := 6) (off := 475) (tgt := 515) d_L_law__40 c40_6 (by decide) (by decide) ?_
    refine V_less (ls' := [some _, some _, some _, some _, some _, none, none]) ⟨rfl, rfl, rfl, rfl, rfl, trivial⟩ ?_
    exact s_L_law__j515 hG hX9 hKb hf hK
  replace hf := iteF c40_6 hf
  by_cases c40_7 : (t1 &&& 63) = 7
  · replace hf := iteT c40_7 hf
    refine V_tabC (q := 7) (off := 543) (tgt := 583) d_L_law__40 c40_7 (by decide) (by decide) ?_
    refine V_less (ls' := [some _, some _, some _, some _, some _, none, none]) ⟨rfl, rfl, rfl, rfl, rfl, trivial⟩ ?_
    exact s_L_law__j583 hG hX9 hKb hf hK
  replace hf := iteF c40_7 hf
  by_cases c40_8 : (t1 &&& 63) = 8
  · replace hf := iteT c40_8 hf
    refine V_tabC (q := 8) (off := 599) (tgt := 639) d_L_law__40 c40_8 (by decide) (by decide) ?_
    refine V_less (ls' := [some _, some _, some _, some _, some _, none, none]) ⟨rfl, rfl, rfl, rfl, rfl, trivial⟩ ?_
    exact s_L_law__j639 hG hX9 hKb hf hK
  replace hf := iteF c40_8 hf
  by_cases c40_9 : (t1 &&& 63) = 9
  · replace hf := iteT c40_9 hf
    refine V_tabC (q := 9) (off := 667) (tgt := 707) d_L_law__40 c40_9 (by decide) (by decide) ?_
    refine V_less (ls' := [some _, some _, some _, some _, some _, none, none]) ⟨rfl, rfl, rfl, rfl, rfl, trivial⟩ ?_
    exact s_L_law__j707 hG hX9 hKb hf hK
  replace hf := iteF c40_9 hf
  by_cases c40_10 : (t1 &&& 63) = 10
  · replace hf := iteT c40_10 hf
    refine V_tabC (q := 10) (off := 723) (tgt := 763) d_L_law__40 c40_10 (by decide) (by decide) ?_
    refine V_less (ls' := [some _, some _, some _, some _, some _, none, none]) ⟨rfl, rfl, rfl, rfl, rfl, trivial⟩ ?_
    exact s_L_law__j763 hG hX9 hKb hf hK
  replace hf := iteF c40_10 hf
  by_cases c40_11 : (t1 &&& 63) = 11
  · replace hf := iteT c40_11 hf
    refine V_tabC (q := 11) (off := 827) (tgt := 867) d_L_law__40 c40_11 (by decide) (by decide) ?_
    refine V_less (ls' := [some _, some _, some _, some _, some _, none, none]) ⟨rfl, rfl, rfl, rfl, rfl, trivial⟩ ?_
    exact s_L_law__j867 hG hX9 hKb hf hK
  replace hf := iteF c40_11 hf
  by_cases c40_12 : (t1 &&& 63) = 12
  · replace hf := iteT c40_12 hf
    refine V_tabC (q := 12) (off := 883) (tgt := 923) d_L_law__40 c40_12 (by decide) (by decide) ?_
    refine V_less (ls' := [some _, some _, some _, some _, some _, none, none]) ⟨rfl, rfl, rfl, rfl, rfl, trivial⟩ ?_
    exact s_L_law__j923 hG hX9 hKb hf hK
  replace hf := iteF c40_12 hf
  by_cases c40_13 : (t1 &&& 63) = 13
  · replace hf := iteT c40_13 hf
    refine V_tabC (q := 13) (off := 951) (tgt := 991) d_L_law__40 c40_13 (by decide) (by decide) ?_
    refine V_less (ls' := [some _, some _, some _, some _, some _, none, none]) ⟨rfl, rfl, rfl, rfl, rfl, trivial⟩ ?_
    exact s_L_law__j991 hG hX9 hKb hf hK
  replace hf := iteF c40_13 hf
  by_cases c40_14 : (t1 &&& 63) = 14
  · replace hf := iteT c40_14 hf
    refine V_tabC (q := 14) (off := 1019) (tgt := 1059) d_L_law__40 c40_14 (by decide) (by decide) ?_
    refine V_less (ls' := [some _, some _, some _, some _, some _, none, none]) ⟨rfl, rfl, rfl, rfl, rfl, trivial⟩ ?_
    exact s_L_law__j1059 hG hX9 hKb hf hK
  replace hf := iteF c40_14 hf
  by_cases c40_15 : (t1 &&& 63) = 15
  · replace hf := iteT c40_15 hf
    refine V_tabC (q := 15) (off := 1087) (tgt := 1127) d_L_law__40 c40_15 (by decide) (by decide) ?_
    refine V_less (ls' := [some _, some _, some _, some _, some _, none, none]) ⟨rfl, rfl, rfl, rfl, rfl, trivial⟩ ?_
    exact s_L_law__j1127 hG hX9 hKb hf hK
  replace hf := iteF c40_15 hf
  by_cases c40_16 : (t1 &&& 63) = 16
  · replace hf := iteT c40_16 hf
    refine V_tabC (q := 16) (off := 1143) (tgt := 1183) d_L_law__40 c40_16 (by decide) (by decide) ?_
    refine V_less (ls' := [some _, some _, some _, some _, some _, none, none]) ⟨rfl, rfl, rfl, rfl, rfl, trivial⟩ ?_
    exact s_L_law__j1183 hG hX9 hKb hf hK
  replace hf := iteF c40_16 hf
  by_cases c40_17 : (t1 &&& 63) = 17
  · replace hf := iteT c40_17 hf
    refine V_tabC (q := 17) (off := 1199) (tgt := 1239) d_L_law__40 c40_17 (by decide) (by decide) ?_
    refine V_less (ls' := [some _, some _, some _, some _, some _, none, none]) ⟨rfl, rfl, rfl, rfl, rfl, trivial⟩ ?_
    exact s_L_law__j1239 hG hX9 hKb hf hK
  replace hf := iteF c40_17 hf
  by_cases c40_18 : (t1 &&& 63) = 18
  · replace hf := iteT c40_18 hf
    refine V_tabC (q := 18) (off := 1212) (tgt := 1252) d_L_law__40 c40_18 (by decide) (by decide) ?_
    refine V_less (ls' := [some _, some _, some _, some _, some _, none, none]) ⟨rfl, rfl, rfl, rfl, rfl, trivial⟩ ?_
    exact s_L_law__j1252 hG hX9 hKb hf hK
  replace hf := iteF c40_18 hf
  by_cases c40_19 : (t1 &&& 63) = 19
  · replace hf := iteT c40_19 hf
    refine V_tabC (q := 19) (off := 1280) (tgt := 1320) d_L_law__40 c40_19 (by decide) (by decide) ?_
    refine V_less (ls' := [some _, some _, some _, some _, some _, none, none]) ⟨rfl, rfl, rfl, rfl, rfl, trivial⟩ ?_
    exact s_L_law__j1320 hG hX9 hKb hf hK
  replace hf := iteF c40_19 hf
  by_cases c40_20 : (t1 &&& 63) = 20
  · replace hf := iteT c40_20 hf
    refine V_tabC (q := 20) (off := 1336) (tgt := 1376) d_L_law__40 c40_20 (by decide) (by decide) ?_
    refine V_less (ls' := [some _, some _, some _, some _, some _, none, none]) ⟨rfl, rfl, rfl, rfl, rfl, trivial⟩ ?_
    exact s_L_law__j1376 hG hX9 hKb hf hK
  replace hf := iteF c40_20 hf
  by_cases c40_21 : (t1 &&& 63) = 21
  · replace hf := iteT c40_21 hf
    refine V_tabC (q := 21) (off := 1392) (tgt := 1432) d_L_law__40 c40_21 (by decide) (by decide) ?_
    refine V_less (ls' := [some _, some _, some _, some _, some _, none, none]) ⟨rfl, rfl, rfl, rfl, rfl, trivial⟩ ?_
    exact s_L_law__j1432 hG hX9 hKb hf hK
  replace hf := iteF c40_21 hf
  by_cases c40_22 : (t1 &&& 63) = 22
  · replace hf := iteT c40_22 hf
    refine V_tabC (q := 22) (off := 1488) (tgt := 1528) d_L_law__40 c40_22 (by decide) (by decide) ?_
    refine V_less (ls' := [some _, some _, some _, some _, some _, none, none]) ⟨rfl, rfl, rfl, rfl, rfl, trivial⟩ ?_
    exact s_L_law__j1528 hG hX9 hKb hf hK
  replace hf := iteF c40_22 hf
  by_cases c40_23 : (t1 &&& 63) = 23
  · replace hf := iteT c40_23 hf
    refine V_tabC (q := 23) (off := 1501) (tgt := 1541) d_L_law__40 c40_23 (by decide) (by decide) ?_
    refine V_less (ls' := [some _, some _, some _, some _, some _, none, none]) ⟨rfl, rfl, rfl, rfl, rfl, trivial⟩ ?_
    exact s_L_law__j1541 hG hX9 hKb hf hK
  replace hf := iteF c40_23 hf
  by_cases c40_24 : (t1 &&& 63) = 24
  · replace hf := iteT c40_24 hf
    refine V_tabC (q := 24) (off := 1542) (tgt := 1582) d_L_law__40 c40_24 (by decide) (by decide) ?_
    refine V_less (ls' := [some _, some _, some _, some _, some _, none, none]) ⟨rfl, rfl, rfl, rfl, rfl, trivial⟩ ?_
    exact s_L_law__j1582 hG hX9 hKb hf hK
  replace hf := iteF c40_24 hf
  by_cases c40_25 : (t1 &&& 63) = 25
  · replace hf := iteT c40_25 hf
    refine V_tabC (q := 25) (off := 1617) (tgt := 1657) d_L_law__40 c40_25 (by decide) (by decide) ?_
    refine V_less (ls' := [some _, some _, some _, some _, some _, none, none]) ⟨rfl, rfl, rfl, rfl, rfl, trivial⟩ ?_
    exact s_L_law__j1657 hG hX9 hKb hf hK
  replace hf := iteF c40_25 hf
  by_cases c40_26 : (t1 &&& 63) = 26
  · replace hf := iteT c40_26 hf
    refine V_tabC (q := 26) (off := 1673) (tgt := 1713) d_L_law__40 c40_26 (by decide) (by decide) ?_
    refine V_less (ls' := [some _, some _, some _, some _, some _, none, none]) ⟨rfl, rfl, rfl, rfl, rfl, trivial⟩ ?_
    exact s_L_law__j1713 hG hX9 hKb hf hK
  replace hf := iteF c40_26 hf
  by_cases c40_27 : (t1 &&& 63) = 27
  · replace hf := iteT c40_27 hf
    refine V_tabC (q := 27) (off := 1757) (tgt := 1797) d_L_law__40 c40_27 (by decide) (by decide) ?_
    refine V_less (ls' := [some _, some _, some _, some _, some _, none, none]) ⟨rfl, rfl, rfl, rfl, rfl, trivial⟩ ?_
    exact s_L_law__j1797 hG hX9 hKb hf hK
  replace hf := iteF c40_27 hf
  by_cases c40_28 : (t1 &&& 63) = 28
  · replace hf := iteT c40_28 hf
    refine V_tabC (q := 28) (off := 1813) (tgt := 1853) d_L_law__40 c40_28 (by decide) (by decide) ?_
    refine V_less (ls' := [some _, some _, some _, some _, some _, none, none]) ⟨rfl, rfl, rfl, rfl, rfl, trivial⟩ ?_
    exact s_L_law__j1853 hG hX9 hKb hf hK
  replace hf := iteF c40_28 hf
  by_cases c40_29 : (t1 &&& 63) = 29
  · replace hf := iteT c40_29 hf
    refine V_tabC (q := 29) (off := 1869) (tgt := 1909) d_L_law__40 c40_29 (by decide) (by decide) ?_
    refine V_less (ls' := [some _, some _, some _, some _, some _, none, none]) ⟨rfl, rfl, rfl, rfl, rfl, trivial⟩ ?_
    exact s_L_law__j1909 hG hX9 hKb hf hK
  replace hf := iteF c40_29 hf
  by_cases c40_30 : (t1 &&& 63) = 30
  · replace hf := iteT c40_30 hf
    refine V_tabC (q := 30) (off := 1925) (tgt := 1965) d_L_law__40 c40_30 (by decide) (by decide) ?_
    refine V_less (ls' := [some _, some _, some _, some _, some _, none, none]) ⟨rfl, rfl, rfl, rfl, rfl, trivial⟩ ?_
    exact s_L_law__j1965 hG hX9 hKb hf hK
  replace hf := iteF c40_30 hf
  by_cases c40_31 : (t1 &&& 63) = 31
  · replace hf := iteT c40_31 hf
    refine V_tabC (q := 31) (off := 1938) (tgt := 1978) d_L_law__40 c40_31 (by decide) (by decide) ?_
    refine V_less (ls' := [some _, some _, some _, some _, some _, none, none]) ⟨rfl, rfl, rfl, rfl, rfl, trivial⟩ ?_
    exact s_L_law__j1978 hG hX9 hKb hf hK
  replace hf := iteF c40_31 hf
  by_cases c40_32 : (t1 &&& 63) = 32
  · replace hf := iteT c40_32 hf
    refine V_tabC (q := 32) (off := 1951) (tgt := 1991) d_L_law__40 c40_32 (by decide) (by decide) ?_
    refine V_less (ls' := [some _, some _, some _, some _, some _, none, none]) ⟨rfl, rfl, rfl, rfl, rfl, trivial⟩ ?_
    exact s_L_law__j1991 hG hX9 hKb hf hK
  replace hf := iteF c40_32 hf
  by_cases c40_33 : (t1 &&& 63) = 33
  · replace hf := iteT c40_33 hf
    refine V_tabC (q := 33) (off := 2023) (tgt := 2063) d_L_law__40 c40_33 (by decide) (by decide) ?_
    refine V_less (ls' := [some _, some _, some _, some _, some _, none, none]) ⟨rfl, rfl, rfl, rfl, rfl, trivial⟩ ?_
    exact s_L_law__j2063 hG hX9 hKb hf hK
  replace hf := iteF c40_33 hf
  by_cases c40_34 : (t1 &&& 63) = 34
  · replace hf := iteT c40_34 hf
    refine V_tabC (q := 34) (off := 2067) (tgt := 2107) d_L_law__40 c40_34 (by decide) (by decide) ?_
    refine V_less (ls' := [some _, some _, some _, some _, some _, none, none]) ⟨rfl, rfl, rfl, rfl, rfl, trivial⟩ ?_
    exact s_L_law__j2107 hG hX9 hKb hf hK
  replace hf := iteF c40_34 hf
  by_cases c40_35 : (t1 &&& 63) = 35
  · replace hf := iteT c40_35 hf
    refine V_tabC (q := 35) (off := 2123) (tgt := 2163) d_L_law__40 c40_35 (by decide) (by decide) ?_
    refine V_less (ls' := [some _, some _, some _, some _, some _, none, none]) ⟨rfl, rfl, rfl, rfl, rfl, trivial⟩ ?_
    exact s_L_law__j2163 hG hX9 hKb hf hK
  replace hf := iteF c40_35 hf
  by_cases c40_36 : (t1 &&& 63) = 36
  · replace hf := iteT c40_36 hf
    refine V_tabC (q := 36) (off := 2136) (tgt := 2176) d_L_law__40 c40_36 (by decide) (by decide) ?_
    refine V_less (ls' := [some _, some _, some _, some _, some _, none, none]) ⟨rfl, rfl, rfl, rfl, rfl, trivial⟩ ?_
    exact s_L_law__j2176 hG hX9 hKb hf hK
  replace hf := iteF c40_36 hf
  by_cases c40_37 : (t1 &&& 63) = 37
  · replace hf := iteT c40_37 hf
    refine V_tabC (q := 37) (off := 2192) (tgt := 2232) d_L_law__40 c40_37 (by decide) (by decide) ?_
    refine V_less (ls' := [some _, some _, some _, some _, some _, none, none]) ⟨rfl, rfl, rfl, rfl, rfl, trivial⟩ ?_
    exact s_L_law__j2232 hG hX9 hKb hf hK
  replace hf := iteF c40_37 hf
  by_cases c40_38 : (t1 &&& 63) = 38
  · replace hf := iteT c40_38 hf
    refine V_tabC (q := 38) (off := 2248) (tgt := 2288) d_L_law__40 c40_38 (by decide) (by decide) ?_
    refine V_less (ls' := [some _, some _, some _, some _, some _, none, none]) ⟨rfl, rfl, rfl, rfl, rfl, trivial⟩ ?_
    exact s_L_law__j2288 hG hX9 hKb hf hK
  replace hf := iteF c40_38 hf
  by_cases c40_39 : (t1 &&& 63) = 39
  · replace hf := iteT c40_39 hf
    refine V_tabC (q := 39) (off := 2261) (tgt := 2301) d_L_law__40 c40_39 (by decide) (by decide) ?_
    refine V_less (ls' := [some _, some _, some _, some _, some _, none, none]) ⟨rfl, rfl, rfl, rfl, rfl, trivial⟩ ?_
    exact s_L_law__j2301 hG hX9 hKb hf hK
  replace hf := iteF c40_39 hf
  by_cases c40_40 : (t1 &&& 63) = 40
  · replace hf := iteT c40_40 hf
    refine V_tabC (q := 40) (off := 2345) (tgt := 2385) d_L_law__40 c40_40 (by decide) (by decide) ?_
    refine V_less (ls' := [some _, some _, some _, some _, some _, none, none]) ⟨rfl, rfl, rfl, rfl, rfl, trivial⟩ ?_
    exact s_L_law__j2385 hG hX9 hKb hf hK
  replace hf := iteF c40_40 hf
  by_cases c40_41 : (t1 &&& 63) = 41
  · replace hf := iteT c40_41 hf
    refine V_tabC (q := 41) (off := 2429) (tgt := 2469) d_L_law__40 c40_41 (by decide) (by decide) ?_
    refine V_less (ls' := [some _, some _, some _, some _, some _, none, none]) ⟨rfl, rfl, rfl, rfl, rfl, trivial⟩ ?_
    exact s_L_law__j2469 hG hX9 hKb hf hK
  replace hf := iteF c40_41 hf
  by_cases c40_42 : (t1 &&& 63) = 42
  · replace hf := iteT c40_42 hf
    refine V_tabC (q := 42) (off := 2513) (tgt := 2553) d_L_law__40 c40_42 (by decide) (by decide) ?_
    refine V_less (ls' := [some _, some _, some _, some _, some _, none, none]) ⟨rfl, rfl, rfl, rfl, rfl, trivial⟩ ?_
    exact s_L_law__j2553 hG hX9 hKb hf hK
  replace hf := iteF c40_42 hf
  by_cases c40_43 : (t1 &&& 63) = 43
  · replace hf := iteT c40_43 hf
    refine V_tabC (q := 43) (off := 2581) (tgt := 2621) d_L_law__40 c40_43 (by decide) (by decide) ?_
    refine V_less (ls' := [some _, some _, some _, some _, some _, none, none]) ⟨rfl, rfl, rfl, rfl, rfl, trivial⟩ ?_
    exact s_L_law__j2621 hG hX9 hKb hf hK
  replace hf := iteF c40_43 hf
  by_cases c40_44 : (t1 &&& 63) = 44
  · replace hf := iteT c40_44 hf
    refine V_tabC (q := 44) (off := 2606) (tgt := 2646) d_L_law__40 c40_44 (by decide) (by decide) ?_
    refine V_less (ls' := [some _, some _, some _, some _, some _, none, none]) ⟨rfl, rfl, rfl, rfl, rfl, trivial⟩ ?_
    exact s_L_law__j2646 hG hX9 hKb hf hK
  replace hf := iteF c40_44 hf
  by_cases c40_45 : (t1 &&& 63) = 45
  · replace hf := iteT c40_45 hf
    refine V_tabC (q := 45) (off := 2619) (tgt := 2659) d_L_law__40 c40_45 (by decide) (by decide) ?_
    refine V_less (ls' := [some _, some _, some _, some _, some _, none, none]) ⟨rfl, rfl, rfl, rfl, rfl, trivial⟩ ?_
    exact s_L_law__j2659 hG hX9 hKb hf hK
  replace hf := iteF c40_45 hf
  by_cases c40_46 : (t1 &&& 63) = 46
  · replace hf := iteT c40_46 hf
    refine V_tabC (q := 46) (off := 2630) (tgt := 2670) d_L_law__40 c40_46 (by decide) (by decide) ?_
    refine V_less (ls' := [some _, some _, some _, some _, some _, none, none]) ⟨rfl, rfl, rfl, rfl, rfl, trivial⟩ ?_
    exact s_L_law__j2670 hG hX9 hKb hf hK
  replace hf := iteF c40_46 hf
  by_cases c40_47 : (t1 &&& 63) = 47
  · replace hf := iteT c40_47 hf
    refine V_tabC (q := 47) (off := 2643) (tgt := 2683) d_L_law__40 c40_47 (by decide) (by decide) ?_
    refine V_less (ls' := [some _, some _, some _, some _, some _, none, none]) ⟨rfl, rfl, rfl, rfl, rfl, trivial⟩ ?_
    exact s_L_law__j2683 hG hX9 hKb hf hK
  replace hf := iteF c40_47 hf
  refine V_tabD (ks9 := [0, 1, 2, 3, 4, 5, 6, 7, 8, 9, 10, 11, 12, 13, 14, 15, 16, 17, 18, 19, 20, 21, 22, 23, 24, 25, 26, 27, 28, 29, 30, 31, 32, 33, 34, 35, 36, 37, 38, 39, 40, 41, 42, 43, 44, 45, 46, 47]) (tgt := 2708) d_L_law__40 ⟨c40_0, c40_1, c40_2, c40_3, c40_4, c40_5, c40_6, c40_7, c40_8, c40_9, c40_10, c40_11, c40_12, c40_13, c40_14, c40_15, c40_16, c40_17, c40_18, c40_19, c40_20, c40_21, c40_22, c40_23, c40_24, c40_25, c40_26, c40_27, c40_28, c40_29, c40_30, c40_31, c40_32, c40_33, c40_34, c40_35, c40_36, c40_37, c40_38, c40_39, c40_40, c40_41, c40_42, c40_43, c40_44, c40_45, c40_46, c40_47, trivial⟩ (by decide) (by decide) ?_
  refine V_widen (k2 := K + 8) (s2 := KS + 48) (by omega) (by omega) ?_
  refine V_less (ls' := [some _, some _, some _, some _, some _, none, none]) ⟨rfl, rfl, rfl, rfl, rfl, trivial⟩ ?_
  cases hf
  exact hK _
theorem s_L_law_loop {G : Gl} (hG : G.1.stackTraces = false) {C : Cx} {b9 b9L : Nat} {xs : Nat → Int32} (hX9 : ScX G C b9 b9L xs)
    (hR : ∀ (ls : List (Option Value)) (h : Hm) (n kc ks : Nat), kc ≤ 500000 → ks ≤ 5000000 → V G C F_L_law_ 2715 ls [.int 1] h n kc ks) :
    ∀ (k K KS : Nat) (μ : Mem) (l4 : Int32), f_L_law_loop b9L xs k μ l4 = some () → K + 8 * k ≤ 500000 → KS + 48 * k ≤ 5000000 → ∀ n, V G C F_L_law_ 23 [some (.ref b9), some (.ref (G.2.1 + 0)), some (.ref (G.2.1 + 264)), some (.ref (G.2.1 + 275)), some (.int l4), none, none] [] (pic G μ) n K KS
  | 0, _, _, _, _, hf, _, _ => by cases hf
  | k + 1, K, KS, μ, l4, hf, hk, hs => by
    intro n
    have hf : (if (Int32.ofNat b9L) - 6 < l4 then some () else Option.bind (f_L_law__j33 μ b9L xs l4) fun μ' => f_L_law_loop b9L xs k μ' (l4 + 6)) = some () := hf
    refine V_iload d_L_law__23 rfl ?_
    refine V_aload_n d_L_law__25 rfl rfl ?_
    refine V_slen hX9 d_L_law__26 ?_
    refine V_bipush (v := 6) d_L_law__27 bp_6 ?_
    refine V_isub d_L_law__29 ?_
    refine V_icmp_gt (tgt := 2714) d_L_law__30 (by decide) (fun c => ?_) (fun c => ?_)
    · refine V_iconst (v := 1) d_L_law__2714 ic_1 ?_
      exact hR _ _ _ _ _ (by omega) (by omega)
    · replace hf := iteF c hf
      obtain ⟨μ1, h1, hf⟩ := ob hf
      refine s_L_law__j33 (K := K) (KS := KS) hG hX9 ⟨by omega, by omega⟩ h1 (fun n => ?_)
      refine V_iinc (v := l4 + 6) (ls' := [_, _, _, _, _, _, _]) d_L_law__2708 rfl (by rw [show Int32.ofInt 6 = 6 from by decide]) rfl ?_
      refine V_goto (tgt := 23) d_L_law__2711 (by decide) ?_
      exact s_L_law_loop hG hX9 hR k (K + 8) (KS + 48) μ1 (l4 + 6) hf (by omega) (by omega) n
