/-! THE CLAIM OUT OF ONE WALK OF THE LAW'S BODY. Your part is whole_start (and what it stands on); all else here is the same for every law, but numbers. -/
def R_law : String := "LaceBondsLaw"
def lw_P (b : Addr) (xs : List Int32) (args : Array Value) (s : State) : Prop := args = #[.ref b] ∧ s.IntsAt b xs ∧ xs.length ≤ 3072 ∧ (Jvm.Cond.and given_1 narrow_1).before args s = true
def lw_Q (_ : Array Value) (s : State) (o : Outcome) (t : State) : Prop := o = .returned (some (.int 1)) ∧ Framed s o t [] 601024 7293034
def lw_Z (below : List Frame) (a : Array Value) (s : State) : State → Prop := fun t => ∃ o, t.status = .running ∧ Ended t below o ∧ lw_Q a s o t
/-- the law's own end, with 1 on the stack, nothing written that was there before, its room as the claim has it -/
theorem lw_ret {p : Program} {l : Launch} {e : Env} {s : State} {m : MethodId} {below : List Frame} {meth : Method} {c : Code} {b : Nat} (hx : p.tables.exec = Jvm.exec) (hb : c.code = code) (hr : meth.sig.returnType = ret) (hlocks : meth.locks = false) {pc : Nat} {H : Heap} {ls : Array Slot} (hdg : decode code pc = .ok (.ireturn, 1)) : W p l e room_1 s m #[Value.ref b] below meth c H [] 601024 7293034 (lw_Z below #[Value.ref b] s) (F0 m pc ls [.int 1]) := by
  intro T hT X
  obtain ⟨fs, hret, hrun, hended, hW, hframe⟩ := X.leave (v := some (.int 1)) (hlocks := hlocks) (fun h => by rw [hr] at h; cases h)
  have hmeth' : T.vm.method? m = some meth := X.method'
  refine ⟨T.setFrames fs, ?_, .returned (some (.int 1)), hrun, hended, rfl, ⟨_, rfl⟩, hW, hframe⟩
  jvm_step X.here [X.here.top, hx, hb, hdg, hmeth', hr, ret, narrow_b1]
  (try refine ⟨rfl, ?_⟩); (try refine ⟨rfl, ?_⟩)
  first | (intro acts; rw [hret _ acts rfl rfl rfl]) | rw [hret _ _ rfl rfl rfl]
  exact Steps.refl _
/-- what holds at the law's entry: the machine, the code, the tables' words (any of lw_tbl by 'hts w (by decide +kernel)'), the script of L ints xs at the cell b, what the Statement gives of the start (any of its parts by flat_of_before) -/
def lw_At (p : Program) (s : State) (m : MethodId) (meth : Method) (c : Code) (b L : Nat) (xs : Nat → Int32) : Prop :=
  p.tables.exec = Jvm.exec ∧ c.code = code ∧ meth.sig.returnType = ret ∧ c.maxLocals = 7 ∧ s.vm.findClass R_law = some m.cls ∧ (∀ w ∈ lw_tbl, w.before #[Value.ref b] s = true) ∧ va_X b L xs s s.heap ∧ b < s.heap.size ∧ meth.locks = false ∧ (Jvm.Cond.and given_1 narrow_1).before #[Value.ref b] s = true ∧ c.exceptionTable.toList = []
theorem nw_RL_8 : Nw9 RL 8 11 [.null, .null, .null, .null, .null, .null, .null, .null, .null, .null, .null, .null, .null, .int 0] 14 := ⟨RX11, TX11, tyX11, clX11, in_11, tyX11_ok, gt_1 (i := 29) (by decide +kernel) rfl, gt_1 (i := 30) (by decide +kernel) rfl, w_1, by decide +kernel⟩
theorem nw_RL_127 : Nw9 RL 127 12 [.int 0, .null, .null, .null, .null, .null, .int 0, .int 0, .null, .int 0, .int 0, .int 0, .int 0, .int 0, .int 0, .null, .int 0, .null, .null, .null] 20 := ⟨RX12, TX12, tyX12, clX12, in_12, tyX12_ok, gt_6 (i := 237) (by decide +kernel) rfl, gt_6 (i := 238) (by decide +kernel) rfl, w_13, by decide +kernel⟩
theorem wl_126 : Cond.methodLink RL 126 yX11_init ∈ gw ∧ Cond.instanceMethod yX11_init ∈ gw := ⟨gt_1 (i := 31) (by decide +kernel) rfl, gt_1 (i := 32) (by decide +kernel) rfl⟩
theorem wl_129 : Cond.methodLink RL 129 yX12_init ∈ gw ∧ Cond.instanceMethod yX12_init ∈ gw := ⟨gt_6 (i := 239) (by decide +kernel) rfl, gt_7 (i := 0) (by decide +kernel) rfl⟩
theorem pic0 {G : Gl} {h : Hm} : ∀ b, b < 264 → ∀ e, pic G mu0 b = some e → stg h 0 11 [.ref (G.2.1 + (0 + 1 + 0)), .ref (G.2.1 + (0 + 1 + 2)), .ref (G.2.1 + (0 + 1 + 17)), .ref (G.2.1 + (0 + 1 + 32)), .ref (G.2.1 + (0 + 1 + 47)), .ref (G.2.1 + (0 + 1 + 55)), .ref (G.2.1 + (0 + 1 + 63)), .ref (G.2.1 + (0 + 1 + 71)), .ref (G.2.1 + (0 + 1 + 72)), .ref (G.2.1 + (0 + 1 + 73)), .ref (G.2.1 + (0 + 1 + 255)), .ref (G.2.1 + (0 + 1 + 258)), .ref (G.2.1 + (0 + 1 + 261)), .int 0] 263 (ar_X11 G) b = some e := by
  intro b hb e he
  by_cases h0 : b = 0
  · subst h0
    rw [← he]
    rfl
  · unfold stg
    rw [if_neg h0, if_pos (by omega)]
    unfold ar_X11
    rw [show b - (0 + 1) + 1 = b by omega, he]
    rfl
theorem mu275 : muC 12 275 = fun _ => 0 := by
  rw [muC_ne 12 (by decide)]
  funext i
  show (if landL.contains 275 = true then (if i = 3 then 5 else if i = 4 then 1 else 0) else if (275 : Nat) = 1 then (if i = 4 then -1 else 0) else if (275 : Nat) = 72 then (if i = 1 then 14 else 0) else if (275 : Nat) = 73 then (if i = 1 then 12 else 0) else if (275 : Nat) = 264 then (if i = 14 then -1 else 0) else 0 : Int32) = 0
  rw [if_neg (by decide +kernel), if_neg (by decide), if_neg (by decide), if_neg (by decide), if_neg (by decide)]
theorem pic275 {G : Gl} : ∀ b e, pic G (muC 12) b = some e → hup (pic2 G (muC 12)) 275 (.inl (G.2.2.2.1 2, 1, .inr (.inl (fun _ => 0)))) b = some e := by
  intro b e he
  unfold hup
  by_cases h0 : b = 275
  · subst h0
    rw [if_pos rfl, ← he]
    have hk : kdL[275]? = some (3, 1) := by decide +kernel
    rw [pic_at hk, mu275]
    rfl
  · rw [if_neg h0]
    have hl9 : kdL.length = 276 := by decide +kernel
    have hb9 : b < 275 := by
      refine Nat.lt_of_not_le fun h9 => ?_
      unfold pic at he
      rw [List.getElem?_eq_none (by omega)] at he
      cases he
    unfold pic2 kdL2
    rw [List.getElem?_take_of_lt hb9]
    exact he
/-- the law, from its entry -/
theorem law_walk {G : Gl} (hG : G.1.stackTraces = false) {C : Cx} {b L : Nat} {xs : Nat → Int32} (hX9 : ScX G C b L xs) (hL : L ≤ 3072)
    (hR : ∀ (ls : List (Option Value)) (h : Hm) (n kc ks : Nat), kc ≤ 500000 → ks ≤ 5000000 → V G C F_L_law_ 2715 ls [.int 1] h n kc ks) : V G C F_L_law_ 0 [some (.ref b), none, none, none, none, none, none] [] (fun _ => none) 0 0 0 := by
  refine V_new nw_RL_8 d_L_law__0 (Nat.le_of_ble_eq_true rfl) (Nat.le_of_ble_eq_true rfl) ?_
  refine V_dup d_L_law__3 rfl ?_
  refine V_sub (h' := stg (fun _ => none) 0 11 [.null, .null, .null, .null, .null, .null, .null, .null, .null, .null, .null, .null, .null, .int 0] 0 (ar_X11 G)) (fun q e hq => ?_) ?_
  · unfold stg at hq
    unfold hup
    by_cases h0 : q = 0
    · rw [if_pos h0] at hq ⊢
      exact hq
    · rw [if_neg h0, if_neg (by omega), if_neg (by omega)] at hq
      cases hq
  refine V_callI (As := []) (s_X11_init hG) m_X11_init wl_126 rfl d_L_law__4 rfl (Nat.le_of_ble_eq_true rfl) ⟨Nat.le_of_ble_eq_true rfl, Nat.le_of_ble_eq_true rfl, Nat.le_of_ble_eq_true rfl⟩ (fun r9 h9 n9 q9 => ?_)
  obtain ⟨rfl, rfl, rfl⟩ := q9
  refine V_astore_n (ls' := [_, _, _, _, _, _, _]) d_L_law__7 rfl rfl rfl ?_
  refine V_new nw_RL_127 d_L_law__8 (Nat.le_of_ble_eq_true rfl) (Nat.le_of_ble_eq_true rfl) ?_
  refine V_dup d_L_law__11 rfl ?_
  refine V_sub (h' := stg (stg (fun _ => none) 0 11 [.ref (G.2.1 + (0 + 1 + 0)), .ref (G.2.1 + (0 + 1 + 2)), .ref (G.2.1 + (0 + 1 + 17)), .ref (G.2.1 + (0 + 1 + 32)), .ref (G.2.1 + (0 + 1 + 47)), .ref (G.2.1 + (0 + 1 + 55)), .ref (G.2.1 + (0 + 1 + 63)), .ref (G.2.1 + (0 + 1 + 71)), .ref (G.2.1 + (0 + 1 + 72)), .ref (G.2.1 + (0 + 1 + 73)), .ref (G.2.1 + (0 + 1 + 255)), .ref (G.2.1 + (0 + 1 + 258)), .ref (G.2.1 + (0 + 1 + 261)), .int 0] 263 (ar_X11 G)) 264 12 [.int 0, .null, .null, .null, .null, .null, .int 0, .int 0, .null, .int 0, .int 0, .int 0, .int 0, .int 0, .int 0, .null, .int 0, .null, .null, .null] 0 (ar_X12_init G)) (fun q e hq => ?_) ?_
  · unfold hup
    by_cases h0 : q = 264
    · subst h0
      rw [if_pos rfl, ← hq]
      rfl
    · rw [if_neg h0]
      generalize stg (fun _ => none) 0 11 _ 263 (ar_X11 G) = h5 at hq ⊢
      unfold stg at hq
      rw [if_neg h0, if_neg (by omega)] at hq
      by_cases h1 : q < 264
      · rw [if_pos h1] at hq
        exact hq
      · rw [if_neg h1] at hq
        cases hq
  refine V_callI (As := []) (s3_X12_init hG pic0) m_X12_init wl_129 rfl d_L_law__12 rfl (Nat.le_of_ble_eq_true rfl) ⟨Nat.le_of_ble_eq_true rfl, Nat.le_of_ble_eq_true rfl, Nat.le_of_ble_eq_true rfl⟩ (fun r9 h9 n9 q9 => ?_)
  obtain ⟨rfl, rfl, rfl⟩ := q9
  refine V_astore_n (ls' := [_, _, _, _, _, _, _]) d_L_law__15 rfl rfl rfl ?_
  refine V_iconst (v := 1) d_L_law__16 ic_1 ?_
  refine V_newL (len := 1) ⟨⟨by decide, by decide⟩, by decide⟩ w_2079 d_L_law__17 (Nat.le_of_ble_eq_true rfl) (Nat.le_of_ble_eq_true rfl) ?_
  refine V_sub pic275 ?_
  refine V_astore_n (ls' := [_, _, _, _, _, _, _]) d_L_law__19 rfl rfl rfl ?_
  refine V_iconst (v := 0) d_L_law__20 ic_0 ?_
  refine V_istore (ls' := [_, _, _, _, _, _, _]) d_L_law__21 rfl rfl ?_
  refine V_widen (k2 := 1000) (s2 := 100000) (Nat.le_of_ble_eq_true rfl) (Nat.le_of_ble_eq_true rfl) ?_
  exact s_L_law_loop hG hX9 hR 513 1000 100000 (muC 12) 0 (law_all hL 512 0 (muC 12) inv0 (by omega) (by omega)) (Nat.le_of_ble_eq_true rfl) (Nat.le_of_ble_eq_true rfl) _
theorem whole_start {p : Program} {e : Env} {s : State} {m : MethodId} {below : List Frame} {meth : Method} {c : Code} (l : Launch) (hflags : l.flags = flags0) {b L : Nat} {xs : Nat → Int32} (hL : L ≤ 3072) (C0 : lw_At p s m meth c b L xs) : W p l e room_1 s m #[Value.ref b] below meth c s.heap [] 0 0 (lw_Z below #[Value.ref b] s) (entryFrame m ([Value.ref b] : List Value).toArray 7) := by
  obtain ⟨hx, hb, hr, hml, hown, hts, hX, hbl, hlocks, hgv, hex⟩ := id C0
  obtain ⟨G, hG1, hG2, hK⟩ := kk_start l hts hgv
  have hG : G.1.stackTraces = false := by
    rw [hG1]
    unfold Launch.stackTraces
    rw [hflags]
    decide +kernel
  rw [lg_entry_eq]
  rw [← hG1]
  have hX9 : ScX G (room_1, p, e, s, m, #[Value.ref b], below, meth, c, lw_Z below #[Value.ref b] s) b L xs := ⟨hX, hbl, by rw [hG2]; exact hbl⟩
  refine law_walk (C := (room_1, p, e, s, m, #[Value.ref b], below, meth, c, lw_Z below #[Value.ref b] s)) hG hX9 hL (fun ls h n kc ks h1 h2 => ?_) ⟨hx, hb, hml, hown, fun w hw => hts w (List.mem_filter.mp hw).1, hK, ⟨Nat.le_of_ble_eq_true rfl, Nat.le_of_ble_eq_true rfl, Nat.le_of_ble_eq_true rfl, Nat.le_of_ble_eq_true rfl⟩, hlocks, hG, hex⟩ s.heap [] _ ⟨hG2.symm, fun k e h => by cases h⟩ ⟨Nat.le_refl _, fun _ _ _ => rfl, fun _ h => nomatch h⟩ (Lh.entry rfl (Nat.le_of_ble_eq_true rfl) rfl)
  intro hO H locs lsA hH hS hLh
  exact va_forget (fun q hq => by rw [← hG2]; exact hS.2.2 q hq) (W.widen (k := 601024) (n := 7293034) (by omega) (by omega) (lw_ret hx hb hr hlocks d_L_law__2715))
