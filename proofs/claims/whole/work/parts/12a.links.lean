def RJ3 : String := "jdk/internal/util/Preconditions"
abbrev cJ3_checkIndex_8e157 : ByteArray := prog_34_method_11_code
def yJ3_checkIndex_8e157 : MethodName := ⟨RJ3, "checkIndex", "(IILjava/util/function/BiFunction;)I"⟩
theorem ic_0 : Int32.ofInt 0 = 0 := by decide
theorem bp_60 : (Int8.ofInt 60).toInt32 = 60 := by decide
theorem bp_6 : (Int8.ofInt 6).toInt32 = 6 := by decide
theorem bp_12 : (Int8.ofInt 12).toInt32 = 12 := by decide
theorem bp_20 : (Int8.ofInt 20).toInt32 = 20 := by decide
theorem ic_1 : Int32.ofInt 1 = 1 := by decide
theorem bp_16 : (Int8.ofInt 16).toInt32 = 16 := by decide
theorem bp_10 : (Int8.ofInt 10).toInt32 = 10 := by decide
theorem bp_15 : (Int8.ofInt 15).toInt32 = 15 := by decide
theorem ic_3 : Int32.ofInt 3 = 3 := by decide
theorem sp_1023 : (Int16.ofInt 1023).toInt32 = 1023 := by decide
theorem ic_m1 : Int32.ofInt (-1) = (-1) := by decide
theorem ic_2 : Int32.ofInt 2 = 2 := by decide
theorem sp_999 : (Int16.ofInt 999).toInt32 = 999 := by decide
theorem sp_12345 : (Int16.ofInt 12345).toInt32 = 12345 := by decide
theorem sp_32767 : (Int16.ofInt 32767).toInt32 = 32767 := by decide
theorem ic_4 : Int32.ofInt 4 = 4 := by decide
theorem bp_8 : (Int8.ofInt 8).toInt32 = 8 := by decide
theorem bp_63 : (Int8.ofInt 63).toInt32 = 63 := by decide
theorem ic_5 : Int32.ofInt 5 = 5 := by decide
theorem bp_7 : (Int8.ofInt 7).toInt32 = 7 := by decide
theorem sp_1009 : (Int16.ofInt 1009).toInt32 = 1009 := by decide
theorem sp_1000 : (Int16.ofInt 1000).toInt32 = 1000 := by decide
theorem bp_100 : (Int8.ofInt 100).toInt32 = 100 := by decide
theorem bp_9 : (Int8.ofInt 9).toInt32 = 9 := by decide
theorem sp_9999 : (Int16.ofInt 9999).toInt32 = 9999 := by decide
theorem bp_32 : (Int8.ofInt 32).toInt32 = 32 := by decide
theorem bp_97 : (Int8.ofInt 97).toInt32 = 97 := by decide
theorem bp_122 : (Int8.ofInt 122).toInt32 = 122 := by decide
theorem bp_48 : (Int8.ofInt 48).toInt32 = 48 := by decide
theorem bp_57 : (Int8.ofInt 57).toInt32 = 57 := by decide
theorem bp_19 : (Int8.ofInt 19).toInt32 = 19 := by decide
theorem bp_99 : (Int8.ofInt 99).toInt32 = 99 := by decide
theorem sp_400 : (Int16.ofInt 400).toInt32 = 400 := by decide
theorem sp_1013 : (Int16.ofInt 1013).toInt32 = 1013 := by decide
theorem sp_1014 : (Int16.ofInt 1014).toInt32 = 1014 := by decide
theorem sp_1006 : (Int16.ofInt 1006).toInt32 = 1006 := by decide
theorem sp_1005 : (Int16.ofInt 1005).toInt32 = 1005 := by decide
theorem sp_1004 : (Int16.ofInt 1004).toInt32 = 1004 := by decide
theorem sp_1003 : (Int16.ofInt 1003).toInt32 = 1003 := by decide
theorem sp_1002 : (Int16.ofInt 1002).toInt32 = 1002 := by decide
theorem sp_1001 : (Int16.ofInt 1001).toInt32 = 1001 := by decide
theorem bp_43 : (Int8.ofInt 43).toInt32 = 43 := by decide
theorem sp_1010 : (Int16.ofInt 1010).toInt32 = 1010 := by decide
theorem bp_62 : (Int8.ofInt 62).toInt32 = 62 := by decide
theorem sp_1012 : (Int16.ofInt 1012).toInt32 = 1012 := by decide
theorem sp_1011 : (Int16.ofInt 1011).toInt32 = 1011 := by decide
theorem bp_40 : (Int8.ofInt 40).toInt32 = 40 := by decide
theorem sp_1008 : (Int16.ofInt 1008).toInt32 = 1008 := by decide
theorem sp_1007 : (Int16.ofInt 1007).toInt32 = 1007 := by decide
theorem bp_41 : (Int8.ofInt 41).toInt32 = 41 := by decide
theorem ic_16 : Int32.ofInt 16 = 16 := by decide
theorem sp_256 : (Int16.ofInt 256).toInt32 = 256 := by decide
theorem ic_8 : Int32.ofInt 8 = 8 := by decide
theorem bp_24 : (Int8.ofInt 24).toInt32 = 24 := by decide
theorem sp_255 : (Int16.ofInt 255).toInt32 = 255 := by decide
theorem ic_m8 : Int32.ofInt (-8) = (-8) := by decide
theorem bp_36 : (Int8.ofInt 36).toInt32 = 36 := by decide
theorem bp_59 : (Int8.ofInt 59).toInt32 = 59 := by decide
theorem bp_61 : (Int8.ofInt 61).toInt32 = 61 := by decide
theorem bp_30 : (Int8.ofInt 30).toInt32 = 30 := by decide
theorem sp_360 : (Int16.ofInt 360).toInt32 = 360 := by decide
theorem sp_1219 : (Int16.ofInt 1219).toInt32 = 1219 := by decide
theorem sp_4070 : (Int16.ofInt 4070).toInt32 = 4070 := by decide
theorem sp_370 : (Int16.ofInt 370).toInt32 = 370 := by decide
theorem bp_28 : (Int8.ofInt 28).toInt32 = 28 := by decide
theorem bp_58 : (Int8.ofInt 58).toInt32 = 58 := by decide
theorem sp_1268 : (Int16.ofInt 1268).toInt32 = 1268 := by decide
theorem bp_14 : (Int8.ofInt 14).toInt32 = 14 := by decide
theorem bp_13 : (Int8.ofInt 13).toInt32 = 13 := by decide
theorem bp_11 : (Int8.ofInt 11).toInt32 = 11 := by decide
theorem sp_1220 : (Int16.ofInt 1220).toInt32 = 1220 := by decide
theorem sp_849 : (Int16.ofInt 849).toInt32 = 849 := by decide
theorem sp_371 : (Int16.ofInt 371).toInt32 = 371 := by decide
theorem sp_419 : (Int16.ofInt 419).toInt32 = 419 := by decide
theorem sp_239 : (Int16.ofInt 239).toInt32 = 239 := by decide
theorem sp_130 : (Int16.ofInt 130).toInt32 = 130 := by decide
theorem sp_131 : (Int16.ofInt 131).toInt32 = 131 := by decide
theorem sp_132 : (Int16.ofInt 132).toInt32 = 132 := by decide
theorem sp_133 : (Int16.ofInt 133).toInt32 = 133 := by decide
theorem bp_64 : (Int8.ofInt 64).toInt32 = 64 := by decide
theorem lc_0 : Int64.ofNat ((0 : Fin 2) : Nat) = Int32.toInt64 0 := by decide
theorem lc_1 : Int64.ofNat ((1 : Fin 2) : Nat) = Int32.toInt64 1 := by decide
def all9 {Q : Nat × Nat × Nat × Nat → Prop} : List (Nat × Nat × Nat × Nat) → Prop
  | [] => True
  | z :: zs => Q z ∧ all9 (Q := Q) zs
theorem all9_mem {Q : Nat × Nat × Nat × Nat → Prop} : ∀ {l : List (Nat × Nat × Nat × Nat)}, all9 (Q := Q) l → ∀ z ∈ l, Q z
  | [], _, z, h => absurd h List.not_mem_nil
  | a :: l, h, z, hz => by
    rcases List.mem_cons.mp hz with h9 | h9
    · rw [h9]; exact h.1
    · exact all9_mem h.2 z h9
def F_J0_coder_7d493 : Fi := (RJ0, cJ0_coder_7d493, 1, 1, 0, 0, [])
def F_J0_isLatin1_aae02 : Fi := (RJ0, cJ0_isLatin1_aae02, 1, 1, 0, 0, [])
def F_J0_length_8abf5 : Fi := (RJ0, cJ0_length_8abf5, 1, 2, 0, 0, [])
def F_J3_checkIndex_8e157 : Fi := (RJ3, cJ3_checkIndex_8e157, 3, 1, 0, 0, [])
def F_J0_checkIndex_df160 : Fi := (RJ0, cJ0_checkIndex_df160, 2, 2, 0, 0, [])
def F_J1_charAt_3b067 : Fi := (RJ1, cJ1_charAt_3b067, 2, 3, 0, 0, [])
def F_J0_charAt_5068e : Fi := (RJ0, cJ0_charAt_5068e, 2, 4, 0, 0, [])
def F_X1_copyFrom : Fi := (RX1, cX1_copyFrom, 2, 1, 0, 0, [])
def F_X2_copyFrom : Fi := (RX2, cX2_copyFrom, 2, 2, 0, 0, [])
def F_J9_min_7cf53 : Fi := (RJ9, cJ9_min_7cf53, 2, 1, 0, 0, [])
def F_X0_remember : Fi := (RX0, cX0_remember, 2, 3, 0, 0, [])
def F_X0_takeBack : Fi := (RX0, cX0_takeBack, 2, 3, 0, 0, [])
def F_X0_forget : Fi := (RX0, cX0_forget, 1, 1, 0, 0, [])
def F_X1_add : Fi := (RX1, cX1_add, 5, 2, 0, 0, [])
def F_J9_floorMod_7cf53 : Fi := (RJ9, cJ9_floorMod_7cf53, 3, 1, 0, 0, [])
def F_X1_rowAt : Fi := (RX1, cX1_rowAt, 2, 2, 0, 0, [])
def F_X1_dayAt : Fi := (RX1, cX1_dayAt, 2, 3, 0, 0, [])
def F_X1_laceAt : Fi := (RX1, cX1_laceAt, 2, 3, 0, 0, [])
def F_X1_whatAt : Fi := (RX1, cX1_whatAt, 2, 3, 0, 0, [])
def F_X1_amountAt : Fi := (RX1, cX1_amountAt, 2, 3, 0, 0, [])
def F_X1_rowsOf : Fi := (RX1, cX1_rowsOf, 4, 4, 0, 0, [])
def F_X1_latestDayOf : Fi := (RX1, cX1_latestDayOf, 3, 4, 0, 0, [])
def F_X2_letGo : Fi := (RX2, cX2_letGo, 4, 1, 0, 0, [])
def F_X2_addPerson : Fi := (RX2, cX2_addPerson, 4, 2, 0, 0, [])
def F_X2_pledge : Fi := (RX2, cX2_pledge, 7, 1, 0, 0, [])
def F_X2_earn : Fi := (RX2, cX2_earn, 3, 2, 0, 0, [])
def F_X2_payOff : Fi := (RX2, cX2_payOff, 3, 3, 0, 0, [])
def F_X2_draw : Fi := (RX2, cX2_draw, 1, 1, 0, 0, [])
def F_X2_gaitOf : Fi := (RX2, cX2_gaitOf, 4, 1, 0, 0, [])
def F_J6_bitCount_0f7a4 : Fi := (RJ6, cJ6_bitCount_0f7a4, 1, 1, 0, 0, [])
def F_X2_heldBy : Fi := (RX2, cX2_heldBy, 4, 1, 0, 0, [])
def F_X4_ask : Fi := (RX4, cX4_ask, 4, 2, 0, 0, [])
def F_X4_joined : Fi := (RX4, cX4_joined, 3, 1, 0, 0, [])
def F_X4_holds : Fi := (RX4, cX4_holds, 5, 2, 0, 0, [])
def F_X4_sumOf : Fi := (RX4, cX4_sumOf, 7, 3, 0, 0, [])
def F_X2_slackOf : Fi := (RX2, cX2_slackOf, 2, 2, 0, 0, [])
def F_X2_fallOf : Fi := (RX2, cX2_fallOf, 3, 4, 0, 0, [])
def F_J9_max_7cf53 : Fi := (RJ9, cJ9_max_7cf53, 2, 1, 0, 0, [])
def F_X2_fall : Fi := (RX2, cX2_fall, 2, 2, 0, 0, [])
def F_X2_walkOf : Fi := (RX2, cX2_walkOf, 4, 4, 0, 0, [])
def F_X2_walk : Fi := (RX2, cX2_walk, 3, 2, 0, 0, [])
def F_X2_walkAll : Fi := (RX2, cX2_walkAll, 5, 5, 0, 0, [])
def F_X2_isPledged : Fi := (RX2, cX2_isPledged, 2, 1, 0, 0, [])
def F_X11_ownerOf : Fi := (RX11, cX11_ownerOf, 1, 1, 0, 0, [])
def F_X2_growthOf : Fi := (RX2, cX2_growthOf, 3, 4, 0, 0, [])
def F_X2_settle : Fi := (RX2, cX2_settle, 4, 4, 0, 0, [])
def F_X2_liveOn : Fi := (RX2, cX2_liveOn, 7, 6, 0, 0, [])
def F_X2_lacesThatAre : Fi := (RX2, cX2_lacesThatAre, 4, 1, 0, 0, [])
def F_X11_lacesOf : Fi := (RX11, cX11_lacesOf, 1, 1, 0, 0, [])
def F_X11_hasBit : Fi := (RX11, cX11_hasBit, 2, 1, 0, 0, [])
def F_X2_amountOf : Fi := (RX2, cX2_amountOf, 4, 2, 0, 0, [])
def F_X2_owedBy : Fi := (RX2, cX2_owedBy, 2, 3, 0, 0, [])
def F_X2_dueTo : Fi := (RX2, cX2_dueTo, 2, 3, 0, 0, [])
def F_X2_allPurses : Fi := (RX2, cX2_allPurses, 3, 1, 0, 0, [])
def F_X2_shareOf : Fi := (RX2, cX2_shareOf, 4, 2, 0, 0, [])
def F_X2_hangingOn : Fi := (RX2, cX2_hangingOn, 4, 1, 0, 0, [])
def F_X2_creditorOf : Fi := (RX2, cX2_creditorOf, 2, 2, 0, 0, [])
def F_X2_directCreditorsOf : Fi := (RX2, cX2_directCreditorsOf, 2, 3, 0, 0, [])
def F_X2_creditorsOf : Fi := (RX2, cX2_creditorsOf, 5, 4, 0, 0, [])
def F_X2_laceFor : Fi := (RX2, cX2_laceFor, 3, 2, 0, 0, [])
def F_X2_betterCall : Fi := (RX2, cX2_betterCall, 5, 3, 0, 0, [])
def F_X2_callable : Fi := (RX2, cX2_callable, 6, 4, 0, 0, [])
def F_X2_partiesOf : Fi := (RX2, cX2_partiesOf, 3, 2, 0, 0, [])
def F_X2_isInEachPledge : Fi := (RX2, cX2_isInEachPledge, 3, 3, 0, 0, [])
def F_X8_runOf : Fi := (RX8, cX8_runOf, 4, 1, 0, 0, [])
def F_X8_moveTo : Fi := (RX8, cX8_moveTo, 2, 1, 0, 0, [])
def F_X8_takesWord : Fi := (RX8, cX8_takesWord, 4, 6, 0, 0, [])
def F_X8_refuse : Fi := (RX8, cX8_refuse, 2, 1, 0, 0, [])
def F_X11_isOutside : Fi := (RX11, cX11_isOutside, 3, 1, 0, 0, [])
def F_X8_takeNumber : Fi := (RX8, cX8_takeNumber, 6, 2, 0, 0, [])
def F_X8_needWord : Fi := (RX8, cX8_needWord, 2, 7, 0, 0, [])
def F_X8_isRight : Fi := (RX8, cX8_isRight, 1, 1, 0, 0, [])
def F_X3_readPerson : Fi := (RX3, cX3_readPerson, 5, 8, 0, 0, [])
def F_X3_takeLaceInShoe : Fi := (RX3, cX3_takeLaceInShoe, 3, 3, 0, 0, [])
def F_X3_takeOther : Fi := (RX3, cX3_takeOther, 5, 3, 0, 0, [])
def F_X3_readPledge : Fi := (RX3, cX3_readPledge, 8, 8, 0, 0, [])
def F_X3_readMud : Fi := (RX3, cX3_readMud, 3, 3, 0, 0, [])
def F_X3_readGoal : Fi := (RX3, cX3_readGoal, 3, 3, 0, 0, [])
def F_X3_readLine : Fi := (RX3, cX3_readLine, 2, 9, 0, 0, [])
def F_X4_clear : Fi := (RX4, cX4_clear, 1, 1, 0, 0, [])
def F_X4_copyFrom : Fi := (RX4, cX4_copyFrom, 2, 1, 0, 0, [])
def F_X4_openLine : Fi := (RX4, cX4_openLine, 3, 1, 0, 0, [])
def F_X4_addStep : Fi := (RX4, cX4_addStep, 2, 1, 0, 0, [])
def F_X4_closeLine : Fi := (RX4, cX4_closeLine, 1, 1, 0, 0, [])
def F_X5_takeKind : Fi := (RX5, cX5_takeKind, 1, 8, 0, 0, [])
def F_X5_readEach (k : Nat) : Fi := (RX5, cX5_readEach, 3, 11 + 3 * k, 0, 0, [])
def F_X5_readAny (k : Nat) : Fi := (RX5, cX5_readAny, 3, 12 + 3 * k, 0, 0, [])
def F_X8_takesSign : Fi := (RX8, cX8_takesSign, 2, 2, 0, 0, [])
def F_X8_needSign : Fi := (RX8, cX8_needSign, 2, 3, 0, 0, [])
def F_X8_isAtNumber : Fi := (RX8, cX8_isAtNumber, 1, 2, 0, 0, [])
def F_X5_readPart : Fi := (RX5, cX5_readPart, 1, 7, 0, 0, [])
def F_X5_readSum : Fi := (RX5, cX5_readSum, 2, 8, 0, 0, [])
def F_X5_readComparison : Fi := (RX5, cX5_readComparison, 1, 9, 0, 0, [])
def F_X5_readAtom (k : Nat) : Fi := (RX5, cX5_readAtom, 3, 10 + 3 * k, 0, 0, [])
def F_X5_readLine : Fi := (RX5, cX5_readLine, 3, 38, 0, 0, [])
def F_X7_gather : Fi := (RX7, cX7_gather, 4, 2, 0, 0, [])
def F_J6_numberOfTrailingZeros_0f7a4 : Fi := (RJ6, cJ6_numberOfTrailingZeros_0f7a4, 2, 1, 0, 0, [])
def F_X7_isBalanced : Fi := (RX7, cX7_isBalanced, 2, 1, 0, 0, [])
def F_X7_take : Fi := (RX7, cX7_take, 3, 2, 0, 0, [])
def F_X7_seek : Fi := (RX7, cX7_seek, 7, 3, 0, 0, [])
def F_X8_add : Fi := (RX8, cX8_add, 3, 1, 0, 0, [])
def F_X8_useUp : Fi := (RX8, cX8_useUp, 2, 1, 0, 0, [])
def F_X8_openText : Fi := (RX8, cX8_openText, 1, 2, 0, 0, [])
def F_X8_isOver : Fi := (RX8, cX8_isOver, 1, 1, 0, 0, [])
def F_X9_tell : Fi := (RX9, cX9_tell, 4, 1, 0, 0, [])
def F_X9_with : Fi := (RX9, cX9_with, 4, 2, 0, 0, [])
def F_X9_weigh : Fi := (RX9, cX9_weigh, 5, 3, 0, 0, [])
def F_X9_leastOfAll : Fi := (RX9, cX9_leastOfAll, 1, 1, 0, 0, [])
def F_X9_firstBest : Fi := (RX9, cX9_firstBest, 3, 3, 0, 0, [])
def F_X9_partOf : Fi := (RX9, cX9_partOf, 5, 4, 0, 0, [])
def F_X10_areTold : Fi := (RX10, cX10_areTold, 4, 1, 0, 0, [])
def F_X10_fits : Fi := (RX10, cX10_fits, 6, 2, 0, 0, [])
def F_X10_take : Fi := (RX10, cX10_take, 3, 2, 0, 0, [])
def F_X10_seek : Fi := (RX10, cX10_seek, 4, 3, 0, 0, [])
def F_X10_parting : Fi := (RX10, cX10_parting, 5, 2, 0, 0, [])
def F_X11_feed : Fi := (RX11, cX11_feed, 6, 2, 0, 0, [])
def F_X11_end : Fi := (RX11, cX11_end, 2, 1, 0, 0, [])
def F_X6_readAll_72 : Fi := (RX6, cX6_readAll, 3, 10, 0, 0, [])
def F_X11_land : Fi := (RX11, cX11_land, 1, 11, 2, 12, [])
def F_X6_readAll_73 : Fi := (RX6, cX6_readAll, 3, 39, 0, 0, [])
def F_X11_law : Fi := (RX11, cX11_law, 1, 40, 1, 6, [])
def F_X11_fault : Fi := (RX11, cX11_fault, 1, 1, 0, 0, [])
def F_X11_needPerson : Fi := (RX11, cX11_needPerson, 2, 2, 1, 6, [])
def F_X11_person : Fi := (RX11, cX11_person, 3, 4, 2, 12, [])
def F_X11_needLace : Fi := (RX11, cX11_needLace, 2, 2, 1, 6, [])
def F_X11_lace : Fi := (RX11, cX11_lace, 3, 3, 2, 12, [])
def F_X11_needPlace : Fi := (RX11, cX11_needPlace, 2, 2, 1, 6, [])
def F_X11_mud : Fi := (RX11, cX11_mud, 2, 3, 1, 6, [])
def F_X11_walks : Fi := (RX11, cX11_walks, 3, 5, 2, 12, [])
def F_X11_grows : Fi := (RX11, cX11_grows, 2, 5, 1, 6, [])
def F_X11_lend : Fi := (RX11, cX11_lend, 6, 4, 4, 24, [])
def F_X11_pay : Fi := (RX11, cX11_pay, 4, 4, 2, 12, [])
def F_X11_needPledged : Fi := (RX11, cX11_needPledged, 2, 2, 1, 6, [])
def F_X11_surety : Fi := (RX11, cX11_surety, 4, 4, 4, 24, [])
def F_X11_give : Fi := (RX11, cX11_give, 4, 4, 5, 30, [])
def F_X11_goal : Fi := (RX11, cX11_goal, 4, 4, 2, 12, [])
def F_X11_rest : Fi := (RX11, cX11_rest, 3, 4, 1, 6, [])
def F_X11_days : Fi := (RX11, cX11_days, 2, 7, 1, 6, [])
def F_X11_solvent : Fi := (RX11, cX11_solvent, 3, 4, 0, 0, [])
def F_X11_daysTo : Fi := (RX11, cX11_daysTo, 4, 7, 0, 0, [])
def F_X11_comes : Fi := (RX11, cX11_comes, 3, 8, 2, 12, [])
def F_X11_soonest : Fi := (RX11, cX11_soonest, 6, 8, 1, 6, [])
def F_X11_tellsPlaces : Fi := (RX11, cX11_tellsPlaces, 3, 1, 0, 0, [])
def F_X11_carry : Fi := (RX11, cX11_carry, 5, 8, 2, 12, [])
def F_X11_needAhead : Fi := (RX11, cX11_needAhead, 2, 2, 1, 6, [])
def F_X11_ahead : Fi := (RX11, cX11_ahead, 4, 7, 2, 12, [])
def F_X11_rings : Fi := (RX11, cX11_rings, 1, 4, 0, 0, [])
def F_X11_untie : Fi := (RX11, cX11_untie, 2, 4, 0, 0, [])
def F_X11_owes : Fi := (RX11, cX11_owes, 3, 5, 3, 18, [])
def F_X11_leads : Fi := (RX11, cX11_leads, 2, 5, 1, 6, [])
def F_X11_call : Fi := (RX11, cX11_call, 5, 5, 1, 6, [])
def F_X11_breaks : Fi := (RX11, cX11_breaks, 2, 7, 1, 6, [])
def F_X11_isSpared : Fi := (RX11, cX11_isSpared, 4, 7, 0, 0, [])
def F_X11_mercy : Fi := (RX11, cX11_mercy, 3, 8, 1, 6, [])
def F_X11_hangs : Fi := (RX11, cX11_hangs, 2, 3, 1, 6, [])
def F_X11_trust : Fi := (RX11, cX11_trust, 5, 3, 0, 0, [])
def F_X11_needed : Fi := (RX11, cX11_needed, 3, 4, 0, 0, [])
def F_X11_needWearers : Fi := (RX11, cX11_needWearers, 2, 4, 1, 6, [])
def F_X11_wear : Fi := (RX11, cX11_wear, 2, 5, 1, 6, [])
def F_X11_look : Fi := (RX11, cX11_look, 1, 5, 1, 6, [])
def F_X11_race : Fi := (RX11, cX11_race, 5, 5, 1, 6, [])
def F_X11_pairs : Fi := (RX11, cX11_pairs, 5, 5, 0, 0, [])
def F_X11_lends : Fi := (RX11, cX11_lends, 5, 2, 1, 6, [])
def F_X11_loose : Fi := (RX11, cX11_loose, 4, 3, 1, 6, [])
def F_X11_rail : Fi := (RX11, cX11_rail, 1, 2, 0, 0, [])
def F_X11_trial : Fi := (RX11, cX11_trial, 4, 7, 1, 6, [])
def F_X11_span : Fi := (RX11, cX11_span, 7, 7, 1, 6, [])
def F_X11_led : Fi := (RX11, cX11_led, 3, 5, 1, 6, [])
def F_X11_log : Fi := (RX11, cX11_log, 3, 4, 1, 6, [])
def F_X11_seed : Fi := (RX11, cX11_seed, 3, 1, 0, 0, [])
def F_X11_undo : Fi := (RX11, cX11_undo, 1, 4, 0, 0, [])
def F_X11_image : Fi := (RX11, cX11_image, 1, 3, 0, 0, [])
def F_X11_back : Fi := (RX11, cX11_back, 1, 3, 0, 0, [])
def F_X11_count : Fi := (RX11, cX11_count, 2, 3, 0, 0, [])
def F_X12_thrown : Fi := (RX12, cX12_thrown, 1, 1, 0, 0, [])
def F_X12_throwsIf : Fi := (RX12, cX12_throwsIf, 3, 1, 0, 0, [])
def F_X12_in : Fi := (RX12, cX12_in, 3, 1, 0, 0, [])
def F_X12_has : Fi := (RX12, cX12_has, 2, 1, 0, 0, [])
def F_X12_image : Fi := (RX12, cX12_image, 2, 1, 0, 0, [])
def F_X12_back : Fi := (RX12, cX12_back, 2, 1, 0, 0, [])
def F_X12_remembers : Fi := (RX12, cX12_remembers, 2, 1, 0, 0, [])
def F_X12_undo : Fi := (RX12, cX12_undo, 2, 1, 0, 0, [])
def F_X12_people : Fi := (RX12, cX12_people, 1, 1, 0, 0, [])
def F_X12_laces : Fi := (RX12, cX12_laces, 1, 2, 0, 0, [])
def F_X12_everybody : Fi := (RX12, cX12_everybody, 1, 2, 0, 0, [])
def F_X12_at : Fi := (RX12, cX12_at, 2, 1, 0, 0, [])
def F_X12_of : Fi := (RX12, cX12_of, 3, 2, 0, 0, [])
def F_X12_laceAt : Fi := (RX12, cX12_laceAt, 2, 1, 0, 0, [])
def F_X12_ofLace : Fi := (RX12, cX12_ofLace, 3, 2, 0, 0, [])
def F_X12_ownerOf : Fi := (RX12, cX12_ownerOf, 1, 1, 0, 0, [])
def F_X12_isPledged : Fi := (RX12, cX12_isPledged, 2, 3, 0, 0, [])
def F_X12_isLost : Fi := (RX12, cX12_isLost, 2, 3, 0, 0, [])
def F_X12_isIn : Fi := (RX12, cX12_isIn, 2, 3, 0, 0, [])
def F_X12_noPerson : Fi := (RX12, cX12_noPerson, 2, 2, 0, 0, [])
def F_X12_noLace : Fi := (RX12, cX12_noLace, 2, 3, 0, 0, [])
def F_X12_noPlace : Fi := (RX12, cX12_noPlace, 1, 2, 0, 0, [])
def F_X12_tellsLace : Fi := (RX12, cX12_tellsLace, 7, 2, 0, 0, [])
def F_X12_comesBack : Fi := (RX12, cX12_comesBack, 2, 3, 0, 0, [])
def F_X12_gets : Fi := (RX12, cX12_gets, 3, 3, 0, 0, [])
def F_X12_drawn : Fi := (RX12, cX12_drawn, 2, 1, 0, 0, [])
def F_X12_feed : Fi := (RX12, cX12_feed, 7, 1, 0, 0, [])
def F_X12_end : Fi := (RX12, cX12_end, 2, 1, 0, 0, [])
def F_X12_isAt : Fi := (RX12, cX12_isAt, 3, 1, 0, 0, [])
def F_X12_blanks : Fi := (RX12, cX12_blanks, 1, 2, 0, 0, [])
def F_X12_letters : Fi := (RX12, cX12_letters, 1, 3, 0, 0, [])
def F_X12_isWord : Fi := (RX12, cX12_isWord, 4, 6, 0, 0, [])
def F_X12_passes : Fi := (RX12, cX12_passes, 2, 7, 0, 0, [])
def F_X12_sign : Fi := (RX12, cX12_sign, 2, 3, 0, 0, [])
def F_X12_number : Fi := (RX12, cX12_number, 4, 3, 0, 0, [])
def F_X12_after : Fi := (RX12, cX12_after, 4, 7, 0, 0, [])
def F_X12_fault : Fi := (RX12, cX12_fault, 1, 1, 0, 0, [])
def F_X12_uses : Fi := (RX12, cX12_uses, 1, 1, 0, 0, [])
def F_X12_readPerson : Fi := (RX12, cX12_readPerson, 5, 8, 0, 0, [])
def F_X12_readPledge : Fi := (RX12, cX12_readPledge, 7, 8, 0, 0, [])
def F_X12_readNumber : Fi := (RX12, cX12_readNumber, 4, 4, 0, 0, [])
def F_X12_readMud : Fi := (RX12, cX12_readMud, 2, 5, 0, 0, [])
def F_X12_readGoal : Fi := (RX12, cX12_readGoal, 2, 5, 0, 0, [])
def F_X12_readLandLine : Fi := (RX12, cX12_readLandLine, 1, 9, 0, 0, [])
def F_X12_emits : Fi := (RX12, cX12_emits, 3, 1, 0, 0, [])
def F_X12_readPart : Fi := (RX12, cX12_readPart, 2, 7, 0, 0, [])
def F_X12_readSum : Fi := (RX12, cX12_readSum, 1, 8, 0, 0, [])
def F_X12_readTag : Fi := (RX12, cX12_readTag, 2, 7, 0, 0, [])
def F_X12_readAllOf (k : Nat) : Fi := (RX12, cX12_readAllOf, 1, 10 + 3 * k, 0, 0, [])
def F_X12_readCond (k : Nat) : Fi := (RX12, cX12_readCond, 1, 11 + 3 * k, 0, 0, [])
def F_X12_readAtom (k : Nat) : Fi := (RX12, cX12_readAtom, 2, 9 + 3 * k, 0, 0, [])
def F_X12_readLawLine : Fi := (RX12, cX12_readLawLine, 3, 37, 0, 0, [])
def F_X12_readLine : Fi := (RX12, cX12_readLine, 3, 38, 0, 0, [])
def F_X12_readAll : Fi := (RX12, cX12_readAll, 3, 39, 0, 0, [])
def F_X12_land : Fi := (RX12, cX12_land, 3, 40, 0, 0, [])
def F_X12_law : Fi := (RX12, cX12_law, 3, 40, 0, 0, [])
def F_X12_slackOf : Fi := (RX12, cX12_slackOf, 2, 4, 0, 0, [])
def F_X12_heldBy : Fi := (RX12, cX12_heldBy, 4, 4, 0, 0, [])
def F_X12_isThere : Fi := (RX12, cX12_isThere, 2, 3, 0, 0, [])
def F_X12_factOf : Fi := (RX12, cX12_factOf, 4, 5, 0, 0, [])
def F_X12_holdsLine : Fi := (RX12, cX12_holdsLine, 10, 6, 0, 0, [])
def F_X12_hasLaw : Fi := (RX12, cX12_hasLaw, 1, 1, 0, 0, [])
def F_X12_sumOf : Fi := (RX12, cX12_sumOf, 5, 7, 0, 0, [])
def F_X12_walksBy : Fi := (RX12, cX12_walksBy, 2, 8, 0, 0, [])
def F_X12_fallsBy : Fi := (RX12, cX12_fallsBy, 2, 8, 0, 0, [])
def F_X12_growsBy : Fi := (RX12, cX12_growsBy, 2, 8, 0, 0, [])
def F_X12_owesOf : Fi := (RX12, cX12_owesOf, 4, 4, 0, 0, [])
def F_X12_dueTo : Fi := (RX12, cX12_dueTo, 4, 4, 0, 0, [])
def F_X12_lostOnes : Fi := (RX12, cX12_lostOnes, 3, 4, 0, 0, [])
def F_X12_pledgedOnes : Fi := (RX12, cX12_pledgedOnes, 3, 4, 0, 0, [])
def F_X12_shareOf : Fi := (RX12, cX12_shareOf, 3, 5, 0, 0, [])
def F_X12_person : Fi := (RX12, cX12_person, 3, 6, 0, 0, [])
def F_X12_lace : Fi := (RX12, cX12_lace, 3, 4, 0, 0, [])
def F_X12_mud : Fi := (RX12, cX12_mud, 2, 3, 0, 0, [])
def F_X12_walks : Fi := (RX12, cX12_walks, 3, 9, 0, 0, [])
def F_X12_grows : Fi := (RX12, cX12_grows, 2, 9, 0, 0, [])
def F_X12_tells : Fi := (RX12, cX12_tells, 5, 2, 0, 0, [])
def F_X12_isPaid : Fi := (RX12, cX12_isPaid, 4, 4, 0, 0, [])
def F_X12_isLostNow : Fi := (RX12, cX12_isLostNow, 3, 3, 0, 0, [])
def F_X12_lend : Fi := (RX12, cX12_lend, 6, 4, 0, 0, [])
def F_X12_pay : Fi := (RX12, cX12_pay, 3, 5, 0, 0, [])
def F_X12_surety : Fi := (RX12, cX12_surety, 4, 4, 0, 0, [])
def F_X12_give : Fi := (RX12, cX12_give, 4, 4, 0, 0, [])
def F_X12_goal : Fi := (RX12, cX12_goal, 4, 3, 0, 0, [])
def F_X12_rest : Fi := (RX12, cX12_rest, 3, 3, 0, 0, [])
def F_X12_falls : Fi := (RX12, cX12_falls, 2, 3, 0, 0, [])
def F_J9_abs_0f7a4 : Fi := (RJ9, cJ9_abs_0f7a4, 1, 1, 0, 0, [])
def F_X12_walksOn : Fi := (RX12, cX12_walksOn, 4, 9, 0, 0, [])
def F_X12_isCalled : Fi := (RX12, cX12_isCalled, 4, 5, 0, 0, [])
def F_X12_oneDay : Fi := (RX12, cX12_oneDay, 3, 10, 0, 0, [])
def F_X12_keepsAll : Fi := (RX12, cX12_keepsAll, 2, 1, 0, 0, [])
def F_X12_bringsBack : Fi := (RX12, cX12_bringsBack, 2, 1, 0, 0, [])
def F_X12_days : Fi := (RX12, cX12_days, 4, 11, 0, 0, [])
def F_X12_ahead : Fi := (RX12, cX12_ahead, 5, 11, 0, 0, [])
def F_X12_comesTo : Fi := (RX12, cX12_comesTo, 5, 11, 0, 0, [])
def F_X12_comes : Fi := (RX12, cX12_comes, 4, 12, 0, 0, [])
def F_X12_soonest : Fi := (RX12, cX12_soonest, 6, 12, 0, 0, [])
def F_X12_leastOf : Fi := (RX12, cX12_leastOf, 3, 1, 0, 0, [])
def F_X12_leastBy : Fi := (RX12, cX12_leastBy, 4, 2, 0, 0, [])
def F_X12_laysLeast : Fi := (RX12, cX12_laysLeast, 5, 12, 0, 0, [])
def F_X12_carry : Fi := (RX12, cX12_carry, 6, 13, 0, 0, [])
def F_X12_solvent : Fi := (RX12, cX12_solvent, 3, 5, 0, 0, [])
def F_X12_isRing : Fi := (RX12, cX12_isRing, 6, 3, 0, 0, [])
def F_X12_rings : Fi := (RX12, cX12_rings, 4, 5, 0, 0, [])
def F_X12_untie : Fi := (RX12, cX12_untie, 5, 5, 0, 0, [])
def F_X12_holdersOf : Fi := (RX12, cX12_holdersOf, 4, 4, 0, 0, [])
def F_X12_leadsFrom : Fi := (RX12, cX12_leadsFrom, 4, 5, 0, 0, [])
def F_X12_owes : Fi := (RX12, cX12_owes, 3, 6, 0, 0, [])
def F_X12_leads : Fi := (RX12, cX12_leads, 2, 6, 0, 0, [])
def F_X12_amountOf : Fi := (RX12, cX12_amountOf, 4, 3, 0, 0, [])
def F_X12_canBePaid : Fi := (RX12, cX12_canBePaid, 4, 4, 0, 0, [])
def F_X12_call : Fi := (RX12, cX12_call, 6, 5, 0, 0, [])
def F_X12_breaks : Fi := (RX12, cX12_breaks, 4, 11, 0, 0, [])
def F_X12_isLostBy : Fi := (RX12, cX12_isLostBy, 4, 11, 0, 0, [])
def F_X12_mercy : Fi := (RX12, cX12_mercy, 3, 12, 0, 0, [])
def F_X12_hangsOn : Fi := (RX12, cX12_hangsOn, 4, 4, 0, 0, [])
def F_X12_hangs : Fi := (RX12, cX12_hangs, 2, 5, 0, 0, [])
def F_X12_trust : Fi := (RX12, cX12_trust, 5, 5, 0, 0, [])
def F_X12_isNeeded : Fi := (RX12, cX12_isNeeded, 4, 4, 0, 0, [])
def F_X12_needed : Fi := (RX12, cX12_needed, 3, 5, 0, 0, [])
def F_X12_isTold : Fi := (RX12, cX12_isTold, 3, 3, 0, 0, [])
def F_X12_fits : Fi := (RX12, cX12_fits, 5, 2, 0, 0, [])
def F_X12_wear : Fi := (RX12, cX12_wear, 5, 4, 0, 0, [])
def F_X12_look : Fi := (RX12, cX12_look, 7, 4, 0, 0, [])
def F_X12_asFastAs : Fi := (RX12, cX12_asFastAs, 4, 9, 0, 0, [])
def F_X12_race : Fi := (RX12, cX12_race, 2, 10, 0, 0, [])
def F_X12_pairs : Fi := (RX12, cX12_pairs, 3, 10, 0, 0, [])
def F_X12_lends : Fi := (RX12, cX12_lends, 5, 4, 0, 0, [])
def F_X12_loose : Fi := (RX12, cX12_loose, 4, 4, 0, 0, [])
def F_X12_rail : Fi := (RX12, cX12_rail, 1, 5, 0, 0, [])
def F_X12_trial : Fi := (RX12, cX12_trial, 4, 11, 0, 0, [])
def F_X12_span : Fi := (RX12, cX12_span, 6, 11, 0, 0, [])
def F_X12_ofLog : Fi := (RX12, cX12_ofLog, 3, 1, 0, 0, [])
def F_X12_led : Fi := (RX12, cX12_led, 6, 4, 0, 0, [])
def F_X12_log : Fi := (RX12, cX12_log, 3, 2, 0, 0, [])
def F_X12_seed : Fi := (RX12, cX12_seed, 3, 1, 0, 0, [])
def F_X12_pursesOfAll : Fi := (RX12, cX12_pursesOfAll, 3, 3, 0, 0, [])
def F_X12_count : Fi := (RX12, cX12_count, 2, 5, 0, 0, [])
def F_L_land : Fi := (RL, cL_land, 3, 12, 2, 12, [(0, 8, 11, 13), (0, 8, 14, 15)])
def F_L_law : Fi := (RL, cL_law, 3, 41, 1, 6, [(0, 8, 11, 13)])
def F_L_person : Fi := (RL, cL_person, 5, 5, 2, 12, [(0, 10, 13, 24), (0, 10, 17, 26)])
def F_L_lace : Fi := (RL, cL_lace, 5, 4, 2, 12, [(0, 10, 13, 24), (0, 10, 17, 26)])
def F_L_mud : Fi := (RL, cL_mud, 4, 4, 1, 6, [(0, 9, 12, 24)])
def F_L_walks : Fi := (RL, cL_walks, 5, 6, 2, 12, [(0, 10, 13, 24), (0, 10, 17, 26)])
def F_L_grows : Fi := (RL, cL_grows, 4, 6, 1, 6, [(0, 9, 12, 24)])
def F_L_lend : Fi := (RL, cL_lend, 8, 5, 4, 24, [(0, 16, 19, 24), (0, 16, 23, 13), (0, 16, 27, 45)])
def F_L_pay : Fi := (RL, cL_pay, 4, 5, 2, 12, [(0, 9, 12, 24), (0, 9, 15, 45)])
def F_L_surety : Fi := (RL, cL_surety, 5, 5, 4, 24, [(0, 10, 13, 24), (0, 10, 17, 13), (0, 10, 21, 45)])
def F_L_give : Fi := (RL, cL_give, 5, 5, 5, 30, [(0, 10, 13, 24), (0, 10, 17, 13), (0, 10, 21, 45)])
def F_L_goal : Fi := (RL, cL_goal, 5, 5, 2, 12, [(0, 10, 13, 24)])
def F_L_rest : Fi := (RL, cL_rest, 4, 5, 1, 6, [(0, 9, 12, 24)])
def F_L_days : Fi := (RL, cL_days, 4, 8, 1, 6, [(0, 9, 12, 13)])
def F_L_comes : Fi := (RL, cL_comes, 5, 9, 2, 12, [(0, 10, 13, 24)])
def F_L_soonest : Fi := (RL, cL_soonest, 4, 9, 1, 6, [(0, 9, 12, 24)])
def F_L_carry : Fi := (RL, cL_carry, 4, 9, 2, 12, [(0, 9, 12, 24), (0, 9, 15, 13)])
def F_L_ahead : Fi := (RL, cL_ahead, 6, 8, 2, 12, [(0, 12, 15, 24), (0, 12, 19, 13)])
def F_L_owes : Fi := (RL, cL_owes, 5, 6, 3, 18, [(0, 17, 20, 24), (0, 17, 24, 13)])
def F_L_leads : Fi := (RL, cL_leads, 4, 6, 1, 6, [(0, 9, 12, 24)])
def F_L_call : Fi := (RL, cL_call, 5, 6, 1, 6, [(0, 10, 13, 24)])
def F_L_breaks : Fi := (RL, cL_breaks, 4, 8, 1, 6, [(0, 9, 12, 13)])
def F_L_mercy : Fi := (RL, cL_mercy, 4, 9, 1, 6, [(0, 9, 12, 24)])
def F_L_hangs : Fi := (RL, cL_hangs, 4, 4, 1, 6, [(0, 9, 12, 24)])
def F_L_wear : Fi := (RL, cL_wear, 4, 6, 1, 6, [(0, 9, 12, 13)])
def F_L_look : Fi := (RL, cL_look, 3, 6, 1, 6, [(0, 8, 11, 13)])
def F_L_race : Fi := (RL, cL_race, 4, 6, 1, 6, [(0, 9, 12, 24)])
def F_L_lends : Fi := (RL, cL_lends, 4, 3, 1, 6, [(0, 9, 12, 13)])
def F_L_loose : Fi := (RL, cL_loose, 4, 4, 1, 6, [(0, 9, 12, 24)])
def F_L_trial : Fi := (RL, cL_trial, 5, 8, 1, 6, [(0, 10, 13, 13)])
def F_L_span : Fi := (RL, cL_span, 5, 8, 1, 6, [(0, 10, 13, 13)])
def F_L_led : Fi := (RL, cL_led, 5, 6, 1, 6, [(0, 10, 13, 24)])
def F_L_log : Fi := (RL, cL_log, 5, 5, 1, 6, [(0, 10, 13, 26)])
theorem sS_0 : 0 < nS_n := Nat.le_of_ble_eq_true rfl
theorem sS_1 : 1 < nS_n := Nat.le_of_ble_eq_true rfl
theorem sS_10 : 10 < nS_n := Nat.le_of_ble_eq_true rfl
theorem sS_11 : 11 < nS_n := Nat.le_of_ble_eq_true rfl
theorem sS_12 : 12 < nS_n := Nat.le_of_ble_eq_true rfl
theorem sS_13 : 13 < nS_n := Nat.le_of_ble_eq_true rfl
theorem sS_14 : 14 < nS_n := Nat.le_of_ble_eq_true rfl
theorem sS_15 : 15 < nS_n := Nat.le_of_ble_eq_true rfl
theorem sS_16 : 16 < nS_n := Nat.le_of_ble_eq_true rfl
theorem sS_17 : 17 < nS_n := Nat.le_of_ble_eq_true rfl
theorem sS_18 : 18 < nS_n := Nat.le_of_ble_eq_true rfl
theorem sS_19 : 19 < nS_n := Nat.le_of_ble_eq_true rfl
theorem sS_2 : 2 < nS_n := Nat.le_of_ble_eq_true rfl
theorem sS_20 : 20 < nS_n := Nat.le_of_ble_eq_true rfl
theorem sS_21 : 21 < nS_n := Nat.le_of_ble_eq_true rfl
theorem sS_22 : 22 < nS_n := Nat.le_of_ble_eq_true rfl
theorem sS_23 : 23 < nS_n := Nat.le_of_ble_eq_true rfl
theorem sS_24 : 24 < nS_n := Nat.le_of_ble_eq_true rfl
theorem sS_25 : 25 < nS_n := Nat.le_of_ble_eq_true rfl
theorem sS_26 : 26 < nS_n := Nat.le_of_ble_eq_true rfl
theorem sS_27 : 27 < nS_n := Nat.le_of_ble_eq_true rfl
theorem sS_28 : 28 < nS_n := Nat.le_of_ble_eq_true rfl
theorem sS_29 : 29 < nS_n := Nat.le_of_ble_eq_true rfl
theorem sS_3 : 3 < nS_n := Nat.le_of_ble_eq_true rfl
theorem sS_30 : 30 < nS_n := Nat.le_of_ble_eq_true rfl
theorem sS_31 : 31 < nS_n := Nat.le_of_ble_eq_true rfl
theorem sS_32 : 32 < nS_n := Nat.le_of_ble_eq_true rfl
theorem sS_33 : 33 < nS_n := Nat.le_of_ble_eq_true rfl
theorem sS_34 : 34 < nS_n := Nat.le_of_ble_eq_true rfl
theorem sS_35 : 35 < nS_n := Nat.le_of_ble_eq_true rfl
theorem sS_36 : 36 < nS_n := Nat.le_of_ble_eq_true rfl
theorem sS_37 : 37 < nS_n := Nat.le_of_ble_eq_true rfl
theorem sS_38 : 38 < nS_n := Nat.le_of_ble_eq_true rfl
theorem sS_39 : 39 < nS_n := Nat.le_of_ble_eq_true rfl
theorem sS_4 : 4 < nS_n := Nat.le_of_ble_eq_true rfl
theorem sS_40 : 40 < nS_n := Nat.le_of_ble_eq_true rfl
theorem sS_41 : 41 < nS_n := Nat.le_of_ble_eq_true rfl
theorem sS_42 : 42 < nS_n := Nat.le_of_ble_eq_true rfl
theorem sS_43 : 43 < nS_n := Nat.le_of_ble_eq_true rfl
theorem sS_44 : 44 < nS_n := Nat.le_of_ble_eq_true rfl
theorem sS_45 : 45 < nS_n := Nat.le_of_ble_eq_true rfl
theorem sS_46 : 46 < nS_n := Nat.le_of_ble_eq_true rfl
theorem sS_47 : 47 < nS_n := Nat.le_of_ble_eq_true rfl
theorem sS_48 : 48 < nS_n := Nat.le_of_ble_eq_true rfl
theorem sS_49 : 49 < nS_n := Nat.le_of_ble_eq_true rfl
theorem sS_5 : 5 < nS_n := Nat.le_of_ble_eq_true rfl
theorem sS_50 : 50 < nS_n := Nat.le_of_ble_eq_true rfl
theorem sS_51 : 51 < nS_n := Nat.le_of_ble_eq_true rfl
theorem sS_52 : 52 < nS_n := Nat.le_of_ble_eq_true rfl
theorem sS_53 : 53 < nS_n := Nat.le_of_ble_eq_true rfl
theorem sS_54 : 54 < nS_n := Nat.le_of_ble_eq_true rfl
theorem sS_55 : 55 < nS_n := Nat.le_of_ble_eq_true rfl
theorem sS_56 : 56 < nS_n := Nat.le_of_ble_eq_true rfl
theorem sS_57 : 57 < nS_n := Nat.le_of_ble_eq_true rfl
theorem sS_58 : 58 < nS_n := Nat.le_of_ble_eq_true rfl
theorem sS_59 : 59 < nS_n := Nat.le_of_ble_eq_true rfl
theorem sS_6 : 6 < nS_n := Nat.le_of_ble_eq_true rfl
theorem sS_60 : 60 < nS_n := Nat.le_of_ble_eq_true rfl
theorem sS_61 : 61 < nS_n := Nat.le_of_ble_eq_true rfl
theorem sS_62 : 62 < nS_n := Nat.le_of_ble_eq_true rfl
theorem sS_63 : 63 < nS_n := Nat.le_of_ble_eq_true rfl
theorem sS_64 : 64 < nS_n := Nat.le_of_ble_eq_true rfl
theorem sS_65 : 65 < nS_n := Nat.le_of_ble_eq_true rfl
theorem sS_66 : 66 < nS_n := Nat.le_of_ble_eq_true rfl
theorem sS_67 : 67 < nS_n := Nat.le_of_ble_eq_true rfl
theorem sS_68 : 68 < nS_n := Nat.le_of_ble_eq_true rfl
theorem sS_69 : 69 < nS_n := Nat.le_of_ble_eq_true rfl
theorem sS_7 : 7 < nS_n := Nat.le_of_ble_eq_true rfl
theorem sS_70 : 70 < nS_n := Nat.le_of_ble_eq_true rfl
theorem sS_71 : 71 < nS_n := Nat.le_of_ble_eq_true rfl
theorem sS_72 : 72 < nS_n := Nat.le_of_ble_eq_true rfl
theorem sS_73 : 73 < nS_n := Nat.le_of_ble_eq_true rfl
theorem sS_74 : 74 < nS_n := Nat.le_of_ble_eq_true rfl
theorem sS_75 : 75 < nS_n := Nat.le_of_ble_eq_true rfl
theorem sS_76 : 76 < nS_n := Nat.le_of_ble_eq_true rfl
theorem sS_77 : 77 < nS_n := Nat.le_of_ble_eq_true rfl
theorem sS_78 : 78 < nS_n := Nat.le_of_ble_eq_true rfl
theorem sS_8 : 8 < nS_n := Nat.le_of_ble_eq_true rfl
theorem sS_9 : 9 < nS_n := Nat.le_of_ble_eq_true rfl
theorem sT_RX11_115 : (RX11, 115, "the text of the land is wrong", 30) ∈ sT_l := List.mem_of_getElem? (i := 30) rfl
theorem sT_RX11_125 : (RX11, 125, "there are 12 texts", 29) ∈ sT_l := List.mem_of_getElem? (i := 29) rfl
theorem sT_RX11_135 : (RX11, 135, "the text of the law is wrong", 31) ∈ sT_l := List.mem_of_getElem? (i := 31) rfl
theorem sT_RX11_186 : (RX11, 186, "no such thing of a person", 33) ∈ sT_l := List.mem_of_getElem? (i := 33) rfl
theorem sT_RX11_210 : (RX11, 210, "no such thing of a lace", 35) ∈ sT_l := List.mem_of_getElem? (i := 35) rfl
theorem sT_RX11_225 : (RX11, 225, "no such thing of a walk", 37) ∈ sT_l := List.mem_of_getElem? (i := 37) rfl
theorem sT_RX11_241 : (RX11, 241, "no such loan", 38) ∈ sT_l := List.mem_of_getElem? (i := 38) rfl
theorem sT_RX11_245 : (RX11, 245, "it cannot be lent", 39) ∈ sT_l := List.mem_of_getElem? (i := 39) rfl
theorem sT_RX11_271 : (RX11, 271, "it cannot be paid", 40) ∈ sT_l := List.mem_of_getElem? (i := 40) rfl
theorem sT_RX11_276 : (RX11, 276, "owner and holder are no surety", 42) ∈ sT_l := List.mem_of_getElem? (i := 42) rfl
theorem sT_RX11_281 : (RX11, 281, "it cannot be given to that one", 44) ∈ sT_l := List.mem_of_getElem? (i := 44) rfl
theorem sT_RX11_283 : (RX11, 283, "the purse is less", 43) ∈ sT_l := List.mem_of_getElem? (i := 43) rfl
theorem sT_RX11_285 : (RX11, 285, "no such days", 45) ∈ sT_l := List.mem_of_getElem? (i := 45) rfl
theorem sT_RX11_305 : (RX11, 305, "not a place for each person", 46) ∈ sT_l := List.mem_of_getElem? (i := 46) rfl
theorem sT_RX11_340 : (RX11, 340, "both are one", 48) ∈ sT_l := List.mem_of_getElem? (i := 48) rfl
theorem sT_RX11_379 : (RX11, 379, "no such amount", 50) ∈ sT_l := List.mem_of_getElem? (i := 50) rfl
theorem sT_RX11_401 : (RX11, 401, "no such thing of a row", 51) ∈ sT_l := List.mem_of_getElem? (i := 51) rfl
theorem sT_RX11_432 : (RX11, 432, "no such person", 32) ∈ sT_l := List.mem_of_getElem? (i := 32) rfl
theorem sT_RX11_435 : (RX11, 435, "no such lace", 34) ∈ sT_l := List.mem_of_getElem? (i := 34) rfl
theorem sT_RX11_437 : (RX11, 437, "no such place", 36) ∈ sT_l := List.mem_of_getElem? (i := 36) rfl
theorem sT_RX11_439 : (RX11, 439, "it is not pledged", 41) ∈ sT_l := List.mem_of_getElem? (i := 41) rfl
theorem sT_RX11_441 : (RX11, 441, "no such days ahead", 47) ∈ sT_l := List.mem_of_getElem? (i := 47) rfl
theorem sT_RX11_446 : (RX11, 446, "no rows of people", 49) ∈ sT_l := List.mem_of_getElem? (i := 49) rfl
theorem sT_RX12_131 : (RX12, 131, "pace", 52) ∈ sT_l := List.mem_of_getElem? (i := 52) rfl
theorem sT_RX12_137 : (RX12, 137, "at", 53) ∈ sT_l := List.mem_of_getElem? (i := 53) rfl
theorem sT_RX12_142 : (RX12, 142, "to", 54) ∈ sT_l := List.mem_of_getElem? (i := 54) rfl
theorem sT_RX12_148 : (RX12, 148, "for", 55) ∈ sT_l := List.mem_of_getElem? (i := 55) rfl
theorem sT_RX12_150 : (RX12, 150, "knot", 56) ∈ sT_l := List.mem_of_getElem? (i := 56) rfl
theorem sT_RX12_152 : (RX12, 152, "till", 57) ∈ sT_l := List.mem_of_getElem? (i := 57) rfl
theorem sT_RX12_154 : (RX12, 154, "by", 58) ∈ sT_l := List.mem_of_getElem? (i := 58) rfl
theorem sT_RX12_162 : (RX12, 162, "person", 59) ∈ sT_l := List.mem_of_getElem? (i := 59) rfl
theorem sT_RX12_168 : (RX12, 168, "pledge", 60) ∈ sT_l := List.mem_of_getElem? (i := 60) rfl
theorem sT_RX12_173 : (RX12, 173, "mud", 61) ∈ sT_l := List.mem_of_getElem? (i := 61) rfl
theorem sT_RX12_178 : (RX12, 178, "goal", 62) ∈ sT_l := List.mem_of_getElem? (i := 62) rfl
theorem sT_RX12_183 : (RX12, 183, "fine", 63) ∈ sT_l := List.mem_of_getElem? (i := 63) rfl
theorem sT_RX12_185 : (RX12, 185, "day", 64) ∈ sT_l := List.mem_of_getElem? (i := 64) rfl
theorem sT_RX12_194 : (RX12, 194, "who", 65) ∈ sT_l := List.mem_of_getElem? (i := 65) rfl
theorem sT_RX12_196 : (RX12, 196, "slack", 66) ∈ sT_l := List.mem_of_getElem? (i := 66) rfl
theorem sT_RX12_198 : (RX12, 198, "held", 67) ∈ sT_l := List.mem_of_getElem? (i := 67) rfl
theorem sT_RX12_200 : (RX12, 200, "place", 68) ∈ sT_l := List.mem_of_getElem? (i := 68) rfl
theorem sT_RX12_202 : (RX12, 202, "tired", 69) ∈ sT_l := List.mem_of_getElem? (i := 69) rfl
theorem sT_RX12_210 : (RX12, 210, "even", 70) ∈ sT_l := List.mem_of_getElem? (i := 70) rfl
theorem sT_RX12_212 : (RX12, 212, "there", 71) ∈ sT_l := List.mem_of_getElem? (i := 71) rfl
theorem sT_RX12_220 : (RX12, 220, "not", 74) ∈ sT_l := List.mem_of_getElem? (i := 74) rfl
theorem sT_RX12_231 : (RX12, 231, "and", 72) ∈ sT_l := List.mem_of_getElem? (i := 72) rfl
theorem sT_RX12_236 : (RX12, 236, "or", 73) ∈ sT_l := List.mem_of_getElem? (i := 73) rfl
theorem sT_RX12_238 : (RX12, 238, "slow", 75) ∈ sT_l := List.mem_of_getElem? (i := 75) rfl
theorem sT_RX12_240 : (RX12, 240, "grow", 76) ∈ sT_l := List.mem_of_getElem? (i := 76) rfl
theorem sT_RX12_242 : (RX12, 242, "fall", 77) ∈ sT_l := List.mem_of_getElem? (i := 77) rfl
theorem sT_RX12_244 : (RX12, 244, "if", 78) ∈ sT_l := List.mem_of_getElem? (i := 78) rfl
theorem sT_RX3_101 : (RX3, 101, "knot", 4) ∈ sT_l := List.mem_of_getElem? (i := 4) rfl
theorem sT_RX3_103 : (RX3, 103, "till", 5) ∈ sT_l := List.mem_of_getElem? (i := 5) rfl
theorem sT_RX3_105 : (RX3, 105, "by", 6) ∈ sT_l := List.mem_of_getElem? (i := 6) rfl
theorem sT_RX3_25 : (RX3, 25, "person", 7) ∈ sT_l := List.mem_of_getElem? (i := 7) rfl
theorem sT_RX3_35 : (RX3, 35, "pledge", 8) ∈ sT_l := List.mem_of_getElem? (i := 8) rfl
theorem sT_RX3_41 : (RX3, 41, "mud", 9) ∈ sT_l := List.mem_of_getElem? (i := 9) rfl
theorem sT_RX3_46 : (RX3, 46, "goal", 10) ∈ sT_l := List.mem_of_getElem? (i := 10) rfl
theorem sT_RX3_51 : (RX3, 51, "fine", 11) ∈ sT_l := List.mem_of_getElem? (i := 11) rfl
theorem sT_RX3_61 : (RX3, 61, "day", 12) ∈ sT_l := List.mem_of_getElem? (i := 12) rfl
theorem sT_RX3_71 : (RX3, 71, "pace", 0) ∈ sT_l := List.mem_of_getElem? (i := 0) rfl
theorem sT_RX3_77 : (RX3, 77, "at", 1) ∈ sT_l := List.mem_of_getElem? (i := 1) rfl
theorem sT_RX3_94 : (RX3, 94, "to", 2) ∈ sT_l := List.mem_of_getElem? (i := 2) rfl
theorem sT_RX3_99 : (RX3, 99, "for", 3) ∈ sT_l := List.mem_of_getElem? (i := 3) rfl
theorem sT_RX5_106 : (RX5, 106, "who", 18) ∈ sT_l := List.mem_of_getElem? (i := 18) rfl
theorem sT_RX5_108 : (RX5, 108, "slack", 19) ∈ sT_l := List.mem_of_getElem? (i := 19) rfl
theorem sT_RX5_110 : (RX5, 110, "held", 20) ∈ sT_l := List.mem_of_getElem? (i := 20) rfl
theorem sT_RX5_112 : (RX5, 112, "place", 21) ∈ sT_l := List.mem_of_getElem? (i := 21) rfl
theorem sT_RX5_114 : (RX5, 114, "mud", 22) ∈ sT_l := List.mem_of_getElem? (i := 22) rfl
theorem sT_RX5_116 : (RX5, 116, "tired", 23) ∈ sT_l := List.mem_of_getElem? (i := 23) rfl
theorem sT_RX5_118 : (RX5, 118, "day", 24) ∈ sT_l := List.mem_of_getElem? (i := 24) rfl
theorem sT_RX5_35 : (RX5, 35, "if", 28) ∈ sT_l := List.mem_of_getElem? (i := 28) rfl
theorem sT_RX5_49 : (RX5, 49, "slow", 13) ∈ sT_l := List.mem_of_getElem? (i := 13) rfl
theorem sT_RX5_51 : (RX5, 51, "grow", 14) ∈ sT_l := List.mem_of_getElem? (i := 14) rfl
theorem sT_RX5_53 : (RX5, 53, "fall", 15) ∈ sT_l := List.mem_of_getElem? (i := 15) rfl
theorem sT_RX5_62 : (RX5, 62, "or", 17) ∈ sT_l := List.mem_of_getElem? (i := 17) rfl
theorem sT_RX5_70 : (RX5, 70, "and", 16) ∈ sT_l := List.mem_of_getElem? (i := 16) rfl
theorem sT_RX5_76 : (RX5, 76, "not", 25) ∈ sT_l := List.mem_of_getElem? (i := 25) rfl
theorem sT_RX5_89 : (RX5, 89, "even", 26) ∈ sT_l := List.mem_of_getElem? (i := 26) rfl
theorem sT_RX5_91 : (RX5, 91, "there", 27) ∈ sT_l := List.mem_of_getElem? (i := 27) rfl
theorem fl_RX0_11 : Fl RX0 11 0 0 := ⟨RX0, TX0, 3, "LaceBonds$Acts", clX0, by decide, in_0, w_265, Or.inl rfl⟩
theorem fl_RX0_17 : Fl RX0 17 0 1 := ⟨RX0, TX0, 3, "LaceBonds$Acts", clX0, by decide, in_0, w_266, Or.inl rfl⟩
theorem fl_RX0_21 : Fl RX0 21 0 2 := ⟨RX0, TX0, 3, "LaceBonds$Acts", clX0, by decide, in_0, w_267, Or.inl rfl⟩
theorem fl_RX10_15 : Fl RX10 15 10 2 := ⟨RX10, TX10, 5, "LaceBonds$Wearers", clX10, by decide, in_10, w_321, Or.inl rfl⟩
theorem fl_RX10_19 : Fl RX10 19 10 3 := ⟨RX10, TX10, 5, "LaceBonds$Wearers", clX10, by decide, in_10, w_322, Or.inl rfl⟩
theorem fl_RX10_22 : Fl RX10 22 10 4 := ⟨RX10, TX10, 5, "LaceBonds$Wearers", clX10, by decide, in_10, w_324, Or.inl rfl⟩
theorem fl_RX10_25 : Fl RX10 25 10 0 := ⟨RX10, TX10, 5, "LaceBonds$Wearers", clX10, by decide, in_10, w_319, Or.inl rfl⟩
theorem fl_RX10_29 : Fl RX10 29 8 0 := ⟨RX8, TX8, 5, "LaceBonds$Tape", clX8, by decide, in_8, w_44, Or.inl rfl⟩
theorem fl_RX10_9 : Fl RX10 9 10 1 := ⟨RX10, TX10, 5, "LaceBonds$Wearers", clX10, by decide, in_10, w_320, Or.inl rfl⟩
theorem fl_RX11_10 : Fl RX11 10 11 0 := ⟨RX11, TX11, 14, "LaceBonds", clX11, by decide, in_11, w_337, Or.inl rfl⟩
theorem fl_RX11_120 : Fl RX11 120 2 1 := ⟨RX2, TX2, 19, "LaceBonds$Land", clX2, by decide, in_2, w_95, Or.inl rfl⟩
theorem fl_RX11_137 : Fl RX11 137 4 0 := ⟨RX4, TX4, 10, "LaceBonds$Law", clX4, by decide, in_4, w_188, Or.inl rfl⟩
theorem fl_RX11_143 : Fl RX11 143 4 1 := ⟨RX4, TX4, 10, "LaceBonds$Law", clX4, by decide, in_4, w_191, Or.inl rfl⟩
theorem fl_RX11_152 : Fl RX11 152 2 6 := ⟨RX2, TX2, 19, "LaceBonds$Land", clX2, by decide, in_2, w_108, Or.inl rfl⟩
theorem fl_RX11_156 : Fl RX11 156 2 7 := ⟨RX2, TX2, 19, "LaceBonds$Land", clX2, by decide, in_2, w_110, Or.inl rfl⟩
theorem fl_RX11_159 : Fl RX11 159 2 8 := ⟨RX2, TX2, 19, "LaceBonds$Land", clX2, by decide, in_2, w_112, Or.inl rfl⟩
theorem fl_RX11_162 : Fl RX11 162 2 9 := ⟨RX2, TX2, 19, "LaceBonds$Land", clX2, by decide, in_2, w_116, Or.inl rfl⟩
theorem fl_RX11_165 : Fl RX11 165 2 10 := ⟨RX2, TX2, 19, "LaceBonds$Land", clX2, by decide, in_2, w_119, Or.inl rfl⟩
theorem fl_RX11_19 : Fl RX11 19 11 1 := ⟨RX11, TX11, 14, "LaceBonds", clX11, by decide, in_11, w_338, Or.inl rfl⟩
theorem fl_RX11_192 : Fl RX11 192 2 11 := ⟨RX2, TX2, 19, "LaceBonds$Land", clX2, by decide, in_2, w_123, Or.inl rfl⟩
theorem fl_RX11_195 : Fl RX11 195 2 12 := ⟨RX2, TX2, 19, "LaceBonds$Land", clX2, by decide, in_2, w_126, Or.inl rfl⟩
theorem fl_RX11_198 : Fl RX11 198 2 13 := ⟨RX2, TX2, 19, "LaceBonds$Land", clX2, by decide, in_2, w_129, Or.inl rfl⟩
theorem fl_RX11_201 : Fl RX11 201 2 14 := ⟨RX2, TX2, 19, "LaceBonds$Land", clX2, by decide, in_2, w_131, Or.inl rfl⟩
theorem fl_RX11_204 : Fl RX11 204 2 15 := ⟨RX2, TX2, 19, "LaceBonds$Land", clX2, by decide, in_2, w_133, Or.inl rfl⟩
theorem fl_RX11_207 : Fl RX11 207 2 16 := ⟨RX2, TX2, 19, "LaceBonds$Land", clX2, by decide, in_2, w_135, Or.inl rfl⟩
theorem fl_RX11_215 : Fl RX11 215 2 17 := ⟨RX2, TX2, 19, "LaceBonds$Land", clX2, by decide, in_2, w_139, Or.inl rfl⟩
theorem fl_RX11_23 : Fl RX11 23 11 2 := ⟨RX11, TX11, 14, "LaceBonds", clX11, by decide, in_11, w_339, Or.inl rfl⟩
theorem fl_RX11_259 : Fl RX11 259 2 18 := ⟨RX2, TX2, 19, "LaceBonds$Land", clX2, by decide, in_2, w_141, Or.inl rfl⟩
theorem fl_RX11_26 : Fl RX11 26 11 3 := ⟨RX11, TX11, 14, "LaceBonds", clX11, by decide, in_11, w_340, Or.inl rfl⟩
theorem fl_RX11_263 : Fl RX11 263 2 2 := ⟨RX2, TX2, 19, "LaceBonds$Land", clX2, by decide, in_2, w_99, Or.inl rfl⟩
theorem fl_RX11_291 : Fl RX11 291 2 0 := ⟨RX2, TX2, 19, "LaceBonds$Land", clX2, by decide, in_2, w_93, Or.inl rfl⟩
theorem fl_RX11_307 : Fl RX11 307 8 0 := ⟨RX8, TX8, 5, "LaceBonds$Tape", clX8, by decide, in_8, w_45, Or.inl rfl⟩
theorem fl_RX11_32 : Fl RX11 32 11 4 := ⟨RX11, TX11, 14, "LaceBonds", clX11, by decide, in_11, w_341, Or.inl rfl⟩
theorem fl_RX11_329 : Fl RX11 329 7 2 := ⟨RX7, TX7, 4, "LaceBonds$Rings", clX7, by decide, in_7, w_285, Or.inl rfl⟩
theorem fl_RX11_332 : Fl RX11 332 7 3 := ⟨RX7, TX7, 4, "LaceBonds$Rings", clX7, by decide, in_7, w_287, Or.inl rfl⟩
theorem fl_RX11_36 : Fl RX11 36 11 5 := ⟨RX11, TX11, 14, "LaceBonds", clX11, by decide, in_11, w_342, Or.inl rfl⟩
theorem fl_RX11_370 : Fl RX11 370 10 4 := ⟨RX10, TX10, 5, "LaceBonds$Wearers", clX10, by decide, in_10, w_325, Or.inl rfl⟩
theorem fl_RX11_373 : Fl RX11 373 10 3 := ⟨RX10, TX10, 5, "LaceBonds$Wearers", clX10, by decide, in_10, w_323, Or.inl rfl⟩
theorem fl_RX11_384 : Fl RX11 384 2 4 := ⟨RX2, TX2, 19, "LaceBonds$Land", clX2, by decide, in_2, w_104, Or.inl rfl⟩
theorem fl_RX11_39 : Fl RX11 39 11 6 := ⟨RX11, TX11, 14, "LaceBonds", clX11, by decide, in_11, w_343, Or.inl rfl⟩
theorem fl_RX11_403 : Fl RX11 403 1 2 := ⟨RX1, TX1, 3, "LaceBonds$Book", clX1, by decide, in_1, w_82, Or.inl rfl⟩
theorem fl_RX11_420 : Fl RX11 420 2 3 := ⟨RX2, TX2, 19, "LaceBonds$Land", clX2, by decide, in_2, w_102, Or.inl rfl⟩
theorem fl_RX11_426 : Fl RX11 426 2 5 := ⟨RX2, TX2, 19, "LaceBonds$Land", clX2, by decide, in_2, w_106, Or.inl rfl⟩
theorem fl_RX11_429 : Fl RX11 429 0 2 := ⟨RX0, TX0, 3, "LaceBonds$Acts", clX0, by decide, in_0, w_268, Or.inl rfl⟩
theorem fl_RX11_47 : Fl RX11 47 11 7 := ⟨RX11, TX11, 14, "LaceBonds", clX11, by decide, in_11, w_344, Or.inl rfl⟩
theorem fl_RX11_56 : Fl RX11 56 11 8 := ⟨RX11, TX11, 14, "LaceBonds", clX11, by decide, in_11, w_345, Or.inl rfl⟩
theorem fl_RX11_63 : Fl RX11 63 11 9 := ⟨RX11, TX11, 14, "LaceBonds", clX11, by decide, in_11, w_346, Or.inl rfl⟩
theorem fl_RX11_70 : Fl RX11 70 11 10 := ⟨RX11, TX11, 14, "LaceBonds", clX11, by decide, in_11, w_347, Or.inl rfl⟩
theorem fl_RX11_77 : Fl RX11 77 11 11 := ⟨RX11, TX11, 14, "LaceBonds", clX11, by decide, in_11, w_348, Or.inl rfl⟩
theorem fl_RX11_86 : Fl RX11 86 11 12 := ⟨RX11, TX11, 14, "LaceBonds", clX11, by decide, in_11, w_349, Or.inl rfl⟩
theorem fl_RX11_90 : Fl RX11 90 11 13 := ⟨RX11, TX11, 14, "LaceBonds", clX11, by decide, in_11, w_350, Or.inl rfl⟩
theorem fl_RX11_94 : Fl RX11 94 8 1 := ⟨RX8, TX8, 5, "LaceBonds$Tape", clX8, by decide, in_8, w_47, Or.inl rfl⟩
theorem fl_RX12_106 : Fl RX12 106 12 12 := ⟨RX12, TX12, 20, "LaceBondsModel", clX12, by decide, in_12, w_1466, Or.inl rfl⟩
theorem fl_RX12_13 : Fl RX12 13 12 1 := ⟨RX12, TX12, 20, "LaceBondsModel", clX12, by decide, in_12, w_1455, Or.inl rfl⟩
theorem fl_RX12_17 : Fl RX12 17 12 2 := ⟨RX12, TX12, 20, "LaceBondsModel", clX12, by decide, in_12, w_1456, Or.inl rfl⟩
theorem fl_RX12_187 : Fl RX12 187 12 16 := ⟨RX12, TX12, 20, "LaceBondsModel", clX12, by decide, in_12, w_1470, Or.inl rfl⟩
theorem fl_RX12_20 : Fl RX12 20 12 3 := ⟨RX12, TX12, 20, "LaceBondsModel", clX12, by decide, in_12, w_1457, Or.inl rfl⟩
theorem fl_RX12_214 : Fl RX12 214 12 13 := ⟨RX12, TX12, 20, "LaceBondsModel", clX12, by decide, in_12, w_1467, Or.inl rfl⟩
theorem fl_RX12_23 : Fl RX12 23 12 4 := ⟨RX12, TX12, 20, "LaceBondsModel", clX12, by decide, in_12, w_1458, Or.inl rfl⟩
theorem fl_RX12_26 : Fl RX12 26 12 5 := ⟨RX12, TX12, 20, "LaceBondsModel", clX12, by decide, in_12, w_1459, Or.inl rfl⟩
theorem fl_RX12_29 : Fl RX12 29 12 8 := ⟨RX12, TX12, 20, "LaceBondsModel", clX12, by decide, in_12, w_1462, Or.inl rfl⟩
theorem fl_RX12_3 : Fl RX12 3 12 0 := ⟨RX12, TX12, 20, "LaceBondsModel", clX12, by decide, in_12, w_1454, Or.inl rfl⟩
theorem fl_RX12_33 : Fl RX12 33 12 14 := ⟨RX12, TX12, 20, "LaceBondsModel", clX12, by decide, in_12, w_1468, Or.inl rfl⟩
theorem fl_RX12_36 : Fl RX12 36 12 15 := ⟨RX12, TX12, 20, "LaceBondsModel", clX12, by decide, in_12, w_1469, Or.inl rfl⟩
theorem fl_RX12_39 : Fl RX12 39 12 17 := ⟨RX12, TX12, 20, "LaceBondsModel", clX12, by decide, in_12, w_1471, Or.inl rfl⟩
theorem fl_RX12_42 : Fl RX12 42 12 18 := ⟨RX12, TX12, 20, "LaceBondsModel", clX12, by decide, in_12, w_1472, Or.inl rfl⟩
theorem fl_RX12_45 : Fl RX12 45 12 19 := ⟨RX12, TX12, 20, "LaceBondsModel", clX12, by decide, in_12, w_1473, Or.inl rfl⟩
theorem fl_RX12_52 : Fl RX12 52 12 6 := ⟨RX12, TX12, 20, "LaceBondsModel", clX12, by decide, in_12, w_1460, Or.inl rfl⟩
theorem fl_RX12_56 : Fl RX12 56 12 7 := ⟨RX12, TX12, 20, "LaceBondsModel", clX12, by decide, in_12, w_1461, Or.inl rfl⟩
theorem fl_RX12_93 : Fl RX12 93 12 9 := ⟨RX12, TX12, 20, "LaceBondsModel", clX12, by decide, in_12, w_1463, Or.inl rfl⟩
theorem fl_RX12_96 : Fl RX12 96 12 10 := ⟨RX12, TX12, 20, "LaceBondsModel", clX12, by decide, in_12, w_1464, Or.inl rfl⟩
theorem fl_RX12_99 : Fl RX12 99 12 11 := ⟨RX12, TX12, 20, "LaceBondsModel", clX12, by decide, in_12, w_1465, Or.inl rfl⟩
theorem fl_RX1_15 : Fl RX1 15 1 1 := ⟨RX1, TX1, 3, "LaceBonds$Book", clX1, by decide, in_1, w_80, Or.inl rfl⟩
theorem fl_RX1_19 : Fl RX1 19 1 2 := ⟨RX1, TX1, 3, "LaceBonds$Book", clX1, by decide, in_1, w_81, Or.inl rfl⟩
theorem fl_RX1_9 : Fl RX1 9 1 0 := ⟨RX1, TX1, 3, "LaceBonds$Book", clX1, by decide, in_1, w_79, Or.inl rfl⟩
theorem fl_RX2_118 : Fl RX2 118 4 0 := ⟨RX4, TX4, 10, "LaceBonds$Law", clX4, by decide, in_4, w_189, Or.inl rfl⟩
theorem fl_RX2_15 : Fl RX2 15 2 1 := ⟨RX2, TX2, 19, "LaceBonds$Land", clX2, by decide, in_2, w_94, Or.inl rfl⟩
theorem fl_RX2_18 : Fl RX2 18 2 2 := ⟨RX2, TX2, 19, "LaceBonds$Land", clX2, by decide, in_2, w_96, Or.inl rfl⟩
theorem fl_RX2_21 : Fl RX2 21 2 3 := ⟨RX2, TX2, 19, "LaceBonds$Land", clX2, by decide, in_2, w_100, Or.inl rfl⟩
theorem fl_RX2_24 : Fl RX2 24 2 4 := ⟨RX2, TX2, 19, "LaceBonds$Land", clX2, by decide, in_2, w_103, Or.inl rfl⟩
theorem fl_RX2_27 : Fl RX2 27 2 5 := ⟨RX2, TX2, 19, "LaceBonds$Land", clX2, by decide, in_2, w_105, Or.inl rfl⟩
theorem fl_RX2_30 : Fl RX2 30 2 6 := ⟨RX2, TX2, 19, "LaceBonds$Land", clX2, by decide, in_2, w_107, Or.inl rfl⟩
theorem fl_RX2_34 : Fl RX2 34 2 7 := ⟨RX2, TX2, 19, "LaceBonds$Land", clX2, by decide, in_2, w_109, Or.inl rfl⟩
theorem fl_RX2_37 : Fl RX2 37 2 8 := ⟨RX2, TX2, 19, "LaceBonds$Land", clX2, by decide, in_2, w_111, Or.inl rfl⟩
theorem fl_RX2_40 : Fl RX2 40 2 9 := ⟨RX2, TX2, 19, "LaceBonds$Land", clX2, by decide, in_2, w_114, Or.inl rfl⟩
theorem fl_RX2_43 : Fl RX2 43 2 10 := ⟨RX2, TX2, 19, "LaceBonds$Land", clX2, by decide, in_2, w_118, Or.inl rfl⟩
theorem fl_RX2_46 : Fl RX2 46 2 11 := ⟨RX2, TX2, 19, "LaceBonds$Land", clX2, by decide, in_2, w_121, Or.inl rfl⟩
theorem fl_RX2_49 : Fl RX2 49 2 12 := ⟨RX2, TX2, 19, "LaceBonds$Land", clX2, by decide, in_2, w_124, Or.inl rfl⟩
theorem fl_RX2_52 : Fl RX2 52 2 13 := ⟨RX2, TX2, 19, "LaceBonds$Land", clX2, by decide, in_2, w_127, Or.inl rfl⟩
theorem fl_RX2_55 : Fl RX2 55 2 14 := ⟨RX2, TX2, 19, "LaceBonds$Land", clX2, by decide, in_2, w_130, Or.inl rfl⟩
theorem fl_RX2_58 : Fl RX2 58 2 15 := ⟨RX2, TX2, 19, "LaceBonds$Land", clX2, by decide, in_2, w_132, Or.inl rfl⟩
theorem fl_RX2_61 : Fl RX2 61 2 16 := ⟨RX2, TX2, 19, "LaceBonds$Land", clX2, by decide, in_2, w_134, Or.inl rfl⟩
theorem fl_RX2_64 : Fl RX2 64 2 17 := ⟨RX2, TX2, 19, "LaceBonds$Land", clX2, by decide, in_2, w_136, Or.inl rfl⟩
theorem fl_RX2_70 : Fl RX2 70 2 18 := ⟨RX2, TX2, 19, "LaceBonds$Land", clX2, by decide, in_2, w_140, Or.inl rfl⟩
theorem fl_RX2_9 : Fl RX2 9 2 0 := ⟨RX2, TX2, 19, "LaceBonds$Land", clX2, by decide, in_2, w_90, Or.inl rfl⟩
theorem fl_RX3_110 : Fl RX3 110 2 17 := ⟨RX2, TX2, 19, "LaceBonds$Land", clX2, by decide, in_2, w_137, Or.inl rfl⟩
theorem fl_RX3_113 : Fl RX3 113 2 9 := ⟨RX2, TX2, 19, "LaceBonds$Land", clX2, by decide, in_2, w_115, Or.inl rfl⟩
theorem fl_RX3_115 : Fl RX3 115 2 11 := ⟨RX2, TX2, 19, "LaceBonds$Land", clX2, by decide, in_2, w_122, Or.inl rfl⟩
theorem fl_RX3_15 : Fl RX3 15 3 0 := ⟨RX3, TX3, 3, "LaceBonds$LandReader", clX3, by decide, in_3, w_232, Or.inr w_233⟩
theorem fl_RX3_57 : Fl RX3 57 2 3 := ⟨RX2, TX2, 19, "LaceBonds$Land", clX2, by decide, in_2, w_101, Or.inl rfl⟩
theorem fl_RX3_63 : Fl RX3 63 2 2 := ⟨RX2, TX2, 19, "LaceBonds$Land", clX2, by decide, in_2, w_97, Or.inl rfl⟩
theorem fl_RX3_68 : Fl RX3 68 2 0 := ⟨RX2, TX2, 19, "LaceBonds$Land", clX2, by decide, in_2, w_91, Or.inl rfl⟩
theorem fl_RX3_9 : Fl RX3 9 3 2 := ⟨RX3, TX3, 3, "LaceBonds$LandReader", clX3, by decide, in_3, w_230, Or.inl rfl⟩
theorem fl_RX4_15 : Fl RX4 15 4 1 := ⟨RX4, TX4, 10, "LaceBonds$Law", clX4, by decide, in_4, w_190, Or.inl rfl⟩
theorem fl_RX4_19 : Fl RX4 19 4 2 := ⟨RX4, TX4, 10, "LaceBonds$Law", clX4, by decide, in_4, w_192, Or.inl rfl⟩
theorem fl_RX4_22 : Fl RX4 22 4 3 := ⟨RX4, TX4, 10, "LaceBonds$Law", clX4, by decide, in_4, w_193, Or.inl rfl⟩
theorem fl_RX4_26 : Fl RX4 26 4 4 := ⟨RX4, TX4, 10, "LaceBonds$Law", clX4, by decide, in_4, w_194, Or.inl rfl⟩
theorem fl_RX4_29 : Fl RX4 29 4 5 := ⟨RX4, TX4, 10, "LaceBonds$Law", clX4, by decide, in_4, w_195, Or.inl rfl⟩
theorem fl_RX4_32 : Fl RX4 32 4 6 := ⟨RX4, TX4, 10, "LaceBonds$Law", clX4, by decide, in_4, w_196, Or.inl rfl⟩
theorem fl_RX4_35 : Fl RX4 35 4 7 := ⟨RX4, TX4, 10, "LaceBonds$Law", clX4, by decide, in_4, w_197, Or.inl rfl⟩
theorem fl_RX4_38 : Fl RX4 38 4 8 := ⟨RX4, TX4, 10, "LaceBonds$Law", clX4, by decide, in_4, w_198, Or.inl rfl⟩
theorem fl_RX4_41 : Fl RX4 41 4 9 := ⟨RX4, TX4, 10, "LaceBonds$Law", clX4, by decide, in_4, w_199, Or.inl rfl⟩
theorem fl_RX4_72 : Fl RX4 72 2 8 := ⟨RX2, TX2, 19, "LaceBonds$Land", clX2, by decide, in_2, w_113, Or.inl rfl⟩
theorem fl_RX4_75 : Fl RX4 75 2 17 := ⟨RX2, TX2, 19, "LaceBonds$Land", clX2, by decide, in_2, w_138, Or.inl rfl⟩
theorem fl_RX4_78 : Fl RX4 78 2 10 := ⟨RX2, TX2, 19, "LaceBonds$Land", clX2, by decide, in_2, w_120, Or.inl rfl⟩
theorem fl_RX4_81 : Fl RX4 81 2 2 := ⟨RX2, TX2, 19, "LaceBonds$Land", clX2, by decide, in_2, w_98, Or.inl rfl⟩
theorem fl_RX4_84 : Fl RX4 84 2 9 := ⟨RX2, TX2, 19, "LaceBonds$Land", clX2, by decide, in_2, w_117, Or.inl rfl⟩
theorem fl_RX4_9 : Fl RX4 9 4 0 := ⟨RX4, TX4, 10, "LaceBonds$Law", clX4, by decide, in_4, w_187, Or.inl rfl⟩
theorem fl_RX5_19 : Fl RX5 19 5 0 := ⟨RX5, TX5, 3, "LaceBonds$LawReader", clX5, by decide, in_5, w_234, Or.inr w_235⟩
theorem fl_RX5_9 : Fl RX5 9 5 2 := ⟨RX5, TX5, 3, "LaceBonds$LawReader", clX5, by decide, in_5, w_250, Or.inl rfl⟩
theorem fl_RX6_13_3 : Fl RX6 13 3 1 := ⟨RX3, TX3, 3, "LaceBonds$Reader", clX3, by decide, in_3, w_236, Or.inl rfl⟩
theorem fl_RX6_13_5 : Fl RX6 13 5 1 := ⟨RX5, TX5, 3, "LaceBonds$Reader", clX5, by decide, in_5, w_236, Or.inl rfl⟩
theorem fl_RX6_7_3 : Fl RX6 7 3 0 := ⟨RX3, TX3, 3, "LaceBonds$Reader", clX3, by decide, in_3, w_231, Or.inl rfl⟩
theorem fl_RX6_7_5 : Fl RX6 7 5 0 := ⟨RX5, TX5, 3, "LaceBonds$Reader", clX5, by decide, in_5, w_231, Or.inl rfl⟩
theorem fl_RX7_15 : Fl RX7 15 7 1 := ⟨RX7, TX7, 4, "LaceBonds$Rings", clX7, by decide, in_7, w_283, Or.inl rfl⟩
theorem fl_RX7_18 : Fl RX7 18 7 2 := ⟨RX7, TX7, 4, "LaceBonds$Rings", clX7, by decide, in_7, w_284, Or.inl rfl⟩
theorem fl_RX7_22 : Fl RX7 22 7 3 := ⟨RX7, TX7, 4, "LaceBonds$Rings", clX7, by decide, in_7, w_286, Or.inl rfl⟩
theorem fl_RX7_39 : Fl RX7 39 2 13 := ⟨RX2, TX2, 19, "LaceBonds$Land", clX2, by decide, in_2, w_128, Or.inl rfl⟩
theorem fl_RX7_47 : Fl RX7 47 2 12 := ⟨RX2, TX2, 19, "LaceBonds$Land", clX2, by decide, in_2, w_125, Or.inl rfl⟩
theorem fl_RX7_58 : Fl RX7 58 2 0 := ⟨RX2, TX2, 19, "LaceBonds$Land", clX2, by decide, in_2, w_92, Or.inl rfl⟩
theorem fl_RX7_9 : Fl RX7 9 7 0 := ⟨RX7, TX7, 4, "LaceBonds$Rings", clX7, by decide, in_7, w_282, Or.inl rfl⟩
theorem fl_RX8_15 : Fl RX8 15 8 1 := ⟨RX8, TX8, 5, "LaceBonds$Tape", clX8, by decide, in_8, w_46, Or.inl rfl⟩
theorem fl_RX8_19 : Fl RX8 19 8 2 := ⟨RX8, TX8, 5, "LaceBonds$Tape", clX8, by decide, in_8, w_48, Or.inl rfl⟩
theorem fl_RX8_22 : Fl RX8 22 8 3 := ⟨RX8, TX8, 5, "LaceBonds$Tape", clX8, by decide, in_8, w_49, Or.inl rfl⟩
theorem fl_RX8_25 : Fl RX8 25 8 4 := ⟨RX8, TX8, 5, "LaceBonds$Tape", clX8, by decide, in_8, w_53, Or.inl rfl⟩
theorem fl_RX8_9 : Fl RX8 9 8 0 := ⟨RX8, TX8, 5, "LaceBonds$Tape", clX8, by decide, in_8, w_43, Or.inl rfl⟩
theorem fl_RX9_15 : Fl RX9 15 9 1 := ⟨RX9, TX9, 3, "LaceBonds$Ways", clX9, by decide, in_9, w_304, Or.inl rfl⟩
theorem fl_RX9_18 : Fl RX9 18 9 2 := ⟨RX9, TX9, 3, "LaceBonds$Ways", clX9, by decide, in_9, w_305, Or.inl rfl⟩
theorem fl_RX9_9 : Fl RX9 9 9 0 := ⟨RX9, TX9, 3, "LaceBonds$Ways", clX9, by decide, in_9, w_303, Or.inl rfl⟩
theorem fn_RX11_146 : FlN RX11 146 8 4 := ⟨RX8, TX8, 5, "LaceBonds", clX8, by decide, in_8, List.mem_of_getElem? (i := 3) rfl⟩
theorem fn_RX3_19 : FlN RX3 19 8 3 := ⟨RX8, TX8, 5, "LaceBonds", clX8, by decide, in_8, List.mem_of_getElem? (i := 0) rfl⟩
theorem fn_RX5_72 : FlN RX5 72 8 3 := ⟨RX8, TX8, 5, "LaceBonds", clX8, by decide, in_8, List.mem_of_getElem? (i := 1) rfl⟩
theorem fn_RX6_29 : FlN RX6 29 8 3 := ⟨RX8, TX8, 5, "LaceBonds", clX8, by decide, in_8, List.mem_of_getElem? (i := 2) rfl⟩
theorem ks_RJ0_1059 : LkS RJ0 1059 yJ3_checkIndex_8e157 := ⟨w_651, w_652⟩
theorem ks_RJ0_495 : LkS RJ0 495 yJ1_charAt_3b067 := ⟨w_643, w_644⟩
theorem ks_RJ1_9 : LkS RJ1 9 yJ0_checkIndex_df160 := ⟨w_646, w_647⟩
theorem ks_RX0_29 : LkS RX0 29 yJ9_min_7cf53 := ⟨w_1063, w_1018⟩
theorem ks_RX10_42 : LkS RX10 42 yJ9_max_7cf53 := ⟨w_1346, w_519⟩
theorem ks_RX10_48 : LkS RX10 48 yJ6_bitCount_0f7a4 := ⟨w_1329, w_447⟩
theorem ks_RX10_54 : LkSN RX10 54 yX11_hasBit := ⟨⟨"LaceBonds", List.mem_of_getElem? (i := 15) rfl⟩, w_412⟩
theorem ks_RX11_234 : LkS RX11 234 yX11_ownerOf := ⟨w_1041, w_436⟩
theorem ks_RX11_237 : LkS RX11 237 yX11_isOutside := ⟨w_936, w_687⟩
theorem ks_RX11_335 : LkS RX11 335 yJ6_bitCount_0f7a4 := ⟨w_456, w_447⟩
theorem ks_RX11_345 : LkS RX11 345 yX11_hasBit := ⟨w_1252, w_412⟩
theorem ks_RX11_381 : LkS RX11 381 yX11_lacesOf := ⟨w_1362, w_405⟩
theorem ks_RX11_387 : LkS RX11 387 yJ9_min_7cf53 := ⟨w_1297, w_1018⟩
theorem ks_RX11_392 : LkS RX11 392 yJ9_max_7cf53 := ⟨w_1384, w_519⟩
theorem ks_RX12_144 : LkS RX12 144 yX12_ownerOf := ⟨w_1617, w_1618⟩
theorem ks_RX12_272 : LkS RX12 272 yJ6_bitCount_0f7a4 := ⟨w_1745, w_447⟩
theorem ks_RX12_293 : LkS RX12 293 yJ9_max_7cf53 := ⟨w_1793, w_519⟩
theorem ks_RX12_320 : LkS RX12 320 yX12_noPlace := ⟨w_1758, w_1759⟩
theorem ks_RX12_345 : LkS RX12 345 yJ9_abs_0f7a4 := ⟨w_1868, w_1869⟩
theorem ks_RX12_380 : LkS RX12 380 yX12_has := ⟨w_1912, w_1913⟩
theorem ks_RX12_63 : LkS RX12 63 yX12_at := ⟨w_1596, w_1597⟩
theorem ks_RX12_67 : LkS RX12 67 yX12_laceAt := ⟨w_1451, w_1452⟩
theorem ks_RX12_73 : LkS RX12 73 yX12_in := ⟨w_1710, w_1711⟩
theorem ks_RX12_87 : LkS RX12 87 yJ9_min_7cf53 := ⟨w_1798, w_1018⟩
theorem ks_RX1_28 : LkS RX1 28 yJ9_min_7cf53 := ⟨w_1073, w_1018⟩
theorem ks_RX1_44 : LkS RX1 44 yJ9_floorMod_7cf53 := ⟨w_1404, w_1405⟩
theorem ks_RX2_132 : LkS RX2 132 yJ9_max_7cf53 := ⟨w_518, w_519⟩
theorem ks_RX2_135 : LkSN RX2 135 yX11_ownerOf := ⟨⟨"LaceBonds", List.mem_of_getElem? (i := 7) rfl⟩, w_436⟩
theorem ks_RX2_141 : LkS RX2 141 yJ6_bitCount_0f7a4 := ⟨w_517, w_447⟩
theorem ks_RX2_146 : LkSN RX2 146 yX11_lacesOf := ⟨⟨"LaceBonds", List.mem_of_getElem? (i := 9) rfl⟩, w_405⟩
theorem ks_RX2_155 : LkSN RX2 155 yX11_hasBit := ⟨⟨"LaceBonds", List.mem_of_getElem? (i := 8) rfl⟩, w_412⟩
theorem ks_RX2_96 : LkS RX2 96 yJ9_min_7cf53 := ⟨w_1017, w_1018⟩
theorem ks_RX3_90 : LkSN RX3 90 yX11_ownerOf := ⟨⟨"LaceBonds", List.mem_of_getElem? (i := 11) rfl⟩, w_436⟩
theorem ks_RX4_64 : LkS RX4 64 yJ6_bitCount_0f7a4 := ⟨w_500, w_447⟩
theorem ks_RX4_87 : LkS RX4 87 yX4_joined := ⟨w_509, w_510⟩
theorem ks_RX7_29 : LkS RX7 29 yJ6_numberOfTrailingZeros_0f7a4 := ⟨w_430, w_431⟩
theorem ks_RX7_35 : LkSN RX7 35 yX11_hasBit := ⟨⟨"LaceBonds", List.mem_of_getElem? (i := 12) rfl⟩, w_412⟩
theorem ks_RX7_44 : LkSN RX7 44 yX11_ownerOf := ⟨⟨"LaceBonds", List.mem_of_getElem? (i := 13) rfl⟩, w_436⟩
theorem ks_RX7_65 : LkS RX7 65 yJ6_bitCount_0f7a4 := ⟨w_446, w_447⟩
theorem ks_RX8_59 : LkSN RX8 59 yX11_isOutside := ⟨⟨"LaceBonds", List.mem_of_getElem? (i := 10) rfl⟩, w_687⟩
theorem ks_RX9_23 : LkSN RX9 23 yX11_hasBit := ⟨⟨"LaceBonds", List.mem_of_getElem? (i := 14) rfl⟩, w_412⟩
theorem ks_RX9_31 : LkS RX9 31 yJ9_min_7cf53 := ⟨w_1207, w_1018⟩
theorem ks_RX9_40 : LkS RX9 40 yJ6_bitCount_0f7a4 := ⟨w_1206, w_447⟩
theorem ku_RX11_106_3 : LkU RX11 106 "LaceBonds$LandReader" "LaceBonds$Reader" ⟨"LaceBonds$LandReader", "readAll", "()V"⟩ yX6_readAll := ⟨w_588, w_589, w_591, w_592, ⟨by decide, by decide⟩, Or.inl rfl, rfl⟩
theorem ku_RX11_134_5 : LkU RX11 134 "LaceBonds$LawReader" "LaceBonds$Reader" ⟨"LaceBonds$LawReader", "readAll", "()V"⟩ yX6_readAll := ⟨w_919, w_920, w_921, w_592, ⟨by decide, by decide⟩, Or.inl rfl, rfl⟩
theorem ku_RX6_26_3 : LkU RX6 26 "LaceBonds$LandReader" "LaceBonds$Reader" ⟨"LaceBonds$Reader", "readLine", "()V"⟩ yX3_readLine := ⟨w_610, w_612, w_613, w_614, ⟨by decide, by decide⟩, Or.inr (List.mem_of_getElem? (i := 0) rfl), rfl⟩
theorem ku_RX6_26_5 : LkU RX6 26 "LaceBonds$LawReader" "LaceBonds$Reader" ⟨"LaceBonds$Reader", "readLine", "()V"⟩ yX5_readLine := ⟨w_610, w_612, w_743, w_744, ⟨by decide, by decide⟩, Or.inr (List.mem_of_getElem? (i := 0) rfl), rfl⟩
theorem kv_RJ0_335 : LkV RJ0 335 yJ0_coder_7d493 := ⟨w_629, w_630, w_631⟩
theorem kv_RJ0_492 : LkV RJ0 492 yJ0_isLatin1_aae02 := ⟨w_639, w_640, w_641⟩
theorem kv_RL_102 : LkV RL 102 yX11_look := ⟨w_1338, w_1339, w_1340⟩
theorem kv_RL_105 : LkV RL 105 yX11_race := ⟨w_1350, w_1351, w_1352⟩
theorem kv_RL_108 : LkV RL 108 yX11_lends := ⟨w_1357, w_1358, w_1359⟩
theorem kv_RL_111 : LkV RL 111 yX11_loose := ⟨w_1366, w_1367, w_1368⟩
theorem kv_RL_114 : LkV RL 114 yX11_trial := ⟨w_1373, w_1374, w_1375⟩
theorem kv_RL_117 : LkV RL 117 yX11_span := ⟨w_1380, w_1381, w_1382⟩
theorem kv_RL_120 : LkV RL 120 yX11_led := ⟨w_1388, w_1389, w_1390⟩
theorem kv_RL_123 : LkV RL 123 yX11_log := ⟨w_1418, w_1419, w_1420⟩
theorem kv_RL_17 : LkV RL 17 yX11_law := ⟨w_911, w_912, w_913⟩
theorem kv_RL_20 : LkV RL 20 yX11_person := ⟨w_928, w_929, w_930⟩
theorem kv_RL_28 : LkV RL 28 yX11_lace := ⟨w_984, w_985, w_986⟩
theorem kv_RL_31 : LkV RL 31 yX11_mud := ⟨w_997, w_998, w_999⟩
theorem kv_RL_35 : LkV RL 35 yX11_walks := ⟨w_1009, w_1010, w_1011⟩
theorem kv_RL_38 : LkV RL 38 yX11_grows := ⟨w_1024, w_1025, w_1026⟩
theorem kv_RL_41 : LkV RL 41 yX11_lend := ⟨w_1037, w_1038, w_1039⟩
theorem kv_RL_47 : LkV RL 47 yX11_pay := ⟨w_1077, w_1078, w_1079⟩
theorem kv_RL_50 : LkV RL 50 yX11_surety := ⟨w_1091, w_1092, w_1093⟩
theorem kv_RL_53 : LkV RL 53 yX11_give := ⟨w_1104, w_1105, w_1106⟩
theorem kv_RL_56 : LkV RL 56 yX11_goal := ⟨w_1113, w_1114, w_1115⟩
theorem kv_RL_59 : LkV RL 59 yX11_rest := ⟨w_1120, w_1121, w_1122⟩
theorem kv_RL_62 : LkV RL 62 yX11_days := ⟨w_1127, w_1128, w_1129⟩
theorem kv_RL_65 : LkV RL 65 yX11_comes := ⟨w_1164, w_1165, w_1166⟩
theorem kv_RL_68 : LkV RL 68 yX11_soonest := ⟨w_1175, w_1176, w_1177⟩
theorem kv_RL_7 : LkV RL 7 yX11_land := ⟨w_584, w_585, w_586⟩
theorem kv_RL_71 : LkV RL 71 yX11_carry := ⟨w_1182, w_1183, w_1184⟩
theorem kv_RL_74 : LkV RL 74 yX11_ahead := ⟨w_1223, w_1224, w_1225⟩
theorem kv_RL_78 : LkV RL 78 yX11_owes := ⟨w_1235, w_1236, w_1237⟩
theorem kv_RL_82 : LkV RL 82 yX11_leads := ⟨w_1256, w_1257, w_1258⟩
theorem kv_RL_85 : LkV RL 85 yX11_call := ⟨w_1263, w_1264, w_1265⟩
theorem kv_RL_89 : LkV RL 89 yX11_breaks := ⟨w_1282, w_1283, w_1284⟩
theorem kv_RL_92 : LkV RL 92 yX11_mercy := ⟨w_1289, w_1290, w_1291⟩
theorem kv_RL_95 : LkV RL 95 yX11_hangs := ⟨w_1301, w_1302, w_1303⟩
theorem kv_RL_98 : LkV RL 98 yX11_wear := ⟨w_1308, w_1309, w_1310⟩
theorem kv_RX0_25 : LkV RX0 25 yX2_copyFrom := ⟨w_541, w_542, w_543⟩
theorem kv_RX10_34 : LkV RX10 34 yX10_fits := ⟨w_1325, w_1327, ws_43⟩
theorem kv_RX10_38 : LkV RX10 38 yX10_take := ⟨w_1330, w_1332, ws_44⟩
theorem kv_RX11_102 : LkV RX11 102 yX2_copyFrom := ⟨w_557, w_542, w_543⟩
theorem kv_RX11_109 : LkV RX11 109 yX8_isRight := ⟨w_821, w_697, w_698⟩
theorem kv_RX11_128 : LkV RX11 128 yX0_forget := ⟨w_567, w_568, w_569⟩
theorem kv_RX11_131 : LkV RX11 131 yX4_clear := ⟨w_915, w_916, w_917⟩
theorem kv_RX11_140 : LkV RX11 140 yX4_copyFrom := ⟨w_558, w_559, w_560⟩
theorem kv_RX11_149 : LkV RX11 149 yX11_needPerson := ⟨w_932, w_934, ws_23⟩
theorem kv_RX11_168 : LkV RX11 168 yX2_gaitOf := ⟨w_953, w_497, w_498⟩
theorem kv_RX11_172 : LkV RX11 172 yX2_heldBy := ⟨w_954, w_502, w_503⟩
theorem kv_RX11_175 : LkV RX11 175 yX2_owedBy := ⟨w_400, w_401, w_402⟩
theorem kv_RX11_178 : LkV RX11 178 yX2_dueTo := ⟨w_955, w_956, w_957⟩
theorem kv_RX11_181 : LkV RX11 181 yX2_shareOf := ⟨w_960, w_961, w_962⟩
theorem kv_RX11_189 : LkV RX11 189 yX11_needLace := ⟨w_988, w_990, ws_24⟩
theorem kv_RX11_212 : LkV RX11 212 yX11_needPlace := ⟨w_1001, w_1003, ws_25⟩
theorem kv_RX11_218 : LkV RX11 218 yX2_walkOf := ⟨w_484, w_485, w_486⟩
theorem kv_RX11_222 : LkV RX11 222 yX2_fallOf := ⟨w_1013, w_1014, w_1015⟩
theorem kv_RX11_227 : LkV RX11 227 yX2_isPledged := ⟨w_1028, w_427, w_428⟩
theorem kv_RX11_231 : LkV RX11 231 yX2_growthOf := ⟨w_1029, w_1030, w_1031⟩
theorem kv_RX11_248 : LkV RX11 248 yX0_remember := ⟨w_1059, w_1060, w_1061⟩
theorem kv_RX11_251 : LkV RX11 251 yX2_earn := ⟨w_1064, w_1065, w_1066⟩
theorem kv_RX11_255 : LkV RX11 255 yX2_pledge := ⟨w_1068, w_728, w_729⟩
theorem kv_RX11_266 : LkV RX11 266 yX1_add := ⟨w_1069, w_1070, w_1071⟩
theorem kv_RX11_273 : LkV RX11 273 yX2_payOff := ⟨w_1082, w_1083, w_1084⟩
theorem kv_RX11_278 : LkV RX11 278 yX11_needPledged := ⟨w_1096, w_1098, ws_26⟩
theorem kv_RX11_287 : LkV RX11 287 yX2_liveOn := ⟨w_1132, w_1133, w_1134⟩
theorem kv_RX11_294 : LkV RX11 294 yX11_daysTo := ⟨w_1168, w_1170, ws_32⟩
theorem kv_RX11_298 : LkV RX11 298 yX8_useUp := ⟨w_1186, w_599, w_600⟩
theorem kv_RX11_302 : LkV RX11 302 yX11_tellsPlaces := ⟨w_1187, w_1189, ws_33⟩
theorem kv_RX11_310 : LkV RX11 310 yX9_tell := ⟨w_1192, w_1193, w_1194⟩
theorem kv_RX11_314 : LkV RX11 314 yX9_weigh := ⟨w_1197, w_1198, w_1199⟩
theorem kv_RX11_317 : LkV RX11 317 yX9_leastOfAll := ⟨w_1208, w_1209, w_1210⟩
theorem kv_RX11_320 : LkV RX11 320 yX9_partOf := ⟨w_1212, w_1213, w_1214⟩
theorem kv_RX11_323 : LkV RX11 323 yX11_needAhead := ⟨w_1227, w_1229, ws_36⟩
theorem kv_RX11_326 : LkV RX11 326 yX7_seek := ⟨w_418, w_419, w_420⟩
theorem kv_RX11_342 : LkV RX11 342 yX2_creditorsOf := ⟨w_1240, w_1241, w_1242⟩
theorem kv_RX11_349 : LkV RX11 349 yX2_callable := ⟨w_1267, w_1268, w_1269⟩
theorem kv_RX11_352 : LkV RX11 352 yX2_amountOf := ⟨w_465, w_408, w_409⟩
theorem kv_RX11_355 : LkV RX11 355 yX2_lacesThatAre := ⟨w_525, w_526, w_527⟩
theorem kv_RX11_358 : LkV RX11 358 yX11_isSpared := ⟨w_1293, w_1295, ws_41⟩
theorem kv_RX11_361 : LkV RX11 361 yX2_hangingOn := ⟨w_461, w_462, w_463⟩
theorem kv_RX11_364 : LkV RX11 364 yX2_isInEachPledge := ⟨w_470, w_471, w_472⟩
theorem kv_RX11_367 : LkV RX11 367 yX11_needWearers := ⟨w_1312, w_1314, ws_42⟩
theorem kv_RX11_376 : LkV RX11 376 yX10_parting := ⟨w_1342, w_1343, w_1344⟩
theorem kv_RX11_395 : LkV RX11 395 yX1_latestDayOf := ⟨w_1392, w_1393, w_1394⟩
theorem kv_RX11_398 : LkV RX11 398 yX1_rowsOf := ⟨w_1411, w_1412, w_1413⟩
theorem kv_RX11_404 : LkV RX11 404 yX1_dayAt := ⟨w_1423, w_1408, w_1409⟩
theorem kv_RX11_407 : LkV RX11 407 yX1_laceAt := ⟨w_1424, w_1397, w_1398⟩
theorem kv_RX11_410 : LkV RX11 410 yX1_whatAt := ⟨w_1425, w_1426, w_1427⟩
theorem kv_RX11_413 : LkV RX11 413 yX1_amountAt := ⟨w_1429, w_1430, w_1431⟩
theorem kv_RX11_416 : LkV RX11 416 yX0_takeBack := ⟨w_537, w_538, w_539⟩
theorem kv_RX11_423 : LkV RX11 423 yX2_allPurses := ⟨w_575, w_576, w_577⟩
theorem kv_RX11_443 : LkV RX11 443 yX10_areTold := ⟨w_1316, w_1317, w_1318⟩
theorem kv_RX11_448 : LkV RX11 448 yX10_seek := ⟨w_1321, w_1322, w_1323⟩
theorem kv_RX11_98 : LkV RX11 98 yX8_add := ⟨w_384, w_385, w_386⟩
theorem kv_RX12_102 : LkV RX12 102 yX12_isAt := ⟨w_1555, w_1557, ws_51⟩
theorem kv_RX12_109 : LkV RX12 109 yX12_blanks := ⟨w_1551, w_1553, ws_50⟩
theorem kv_RX12_112 : LkV RX12 112 yJ0_length_8abf5 := ⟨w_1576, w_626, w_627⟩
theorem kv_RX12_117 : LkV RX12 117 yJ0_charAt_5068e := ⟨w_1577, w_636, w_637⟩
theorem kv_RX12_121 : LkV RX12 121 yX12_letters := ⟨w_1563, w_1565, ws_53⟩
theorem kv_RX12_124 : LkV RX12 124 yX12_isWord := ⟨w_1572, w_1574, ws_55⟩
theorem kv_RX12_128 : LkV RX12 128 yX12_number := ⟨w_1586, w_1588, ws_58⟩
theorem kv_RX12_133 : LkV RX12 133 yX12_after := ⟨w_1591, w_1593, ws_59⟩
theorem kv_RX12_138 : LkV RX12 138 yX12_isIn := ⟨w_1608, w_1610, ws_62⟩
theorem kv_RX12_156 : LkV RX12 156 yX12_passes := ⟨w_1624, w_1626, ws_64⟩
theorem kv_RX12_159 : LkV RX12 159 yX12_readNumber := ⟨w_1633, w_1635, ws_66⟩
theorem kv_RX12_164 : LkV RX12 164 yX12_readPerson := ⟨w_1578, w_1580, ws_56⟩
theorem kv_RX12_170 : LkV RX12 170 yX12_readPledge := ⟨w_1600, w_1602, ws_60⟩
theorem kv_RX12_175 : LkV RX12 175 yX12_readMud := ⟨w_1629, w_1631, ws_65⟩
theorem kv_RX12_180 : LkV RX12 180 yX12_readGoal := ⟨w_1638, w_1640, ws_67⟩
theorem kv_RX12_190 : LkV RX12 190 yX12_emits := ⟨w_1669, w_1671, ws_73⟩
theorem kv_RX12_204 : LkV RX12 204 yX12_readPart := ⟨w_1683, w_1685, ws_76⟩
theorem kv_RX12_207 : LkV RX12 207 yX12_sign := ⟨w_1664, w_1666, ws_72⟩
theorem kv_RX12_217 : LkV RX12 217 yX12_readCond := ⟨w_1652, w_1654, ws_69⟩
theorem kv_RX12_222 : LkV RX12 222 yX12_readAtom := ⟨w_1660, w_1662, ws_71⟩
theorem kv_RX12_225 : LkV RX12 225 yX12_readTag := ⟨w_1673, w_1675, ws_74⟩
theorem kv_RX12_228 : LkV RX12 228 yX12_readSum := ⟨w_1679, w_1681, ws_75⟩
theorem kv_RX12_233 : LkV RX12 233 yX12_readAllOf := ⟨w_1656, w_1658, ws_70⟩
theorem kv_RX12_246 : LkV RX12 246 yX12_readLandLine := ⟨w_1567, w_1569, ws_54⟩
theorem kv_RX12_249 : LkV RX12 249 yX12_readLawLine := ⟨w_1644, w_1646, ws_68⟩
theorem kv_RX12_252 : LkV RX12 252 yX12_uses := ⟨w_1547, w_1549, ws_49⟩
theorem kv_RX12_255 : LkV RX12 255 yX12_readLine := ⟨w_1559, w_1561, ws_52⟩
theorem kv_RX12_259 : LkV RX12 259 yX12_readAll := ⟨w_1543, w_1545, ws_48⟩
theorem kv_RX12_263 : LkV RX12 263 yX12_throwsIf := ⟨w_1694, w_1696, ws_77⟩
theorem kv_RX12_266 : LkV RX12 266 yX12_slackOf := ⟨w_1785, w_1787, ws_93⟩
theorem kv_RX12_269 : LkV RX12 269 yX12_heldBy := ⟨w_1713, w_1715, ws_79⟩
theorem kv_RX12_277 : LkV RX12 277 yX12_isThere := ⟨w_1789, w_1791, ws_94⟩
theorem kv_RX12_280 : LkV RX12 280 yX12_factOf := ⟨w_1781, w_1783, ws_92⟩
theorem kv_RX12_284 : LkV RX12 284 yX12_holdsLine := ⟨w_1777, w_1779, ws_91⟩
theorem kv_RX12_287 : LkV RX12 287 yX12_hasLaw := ⟨w_1769, w_1771, ws_89⟩
theorem kv_RX12_290 : LkV RX12 290 yX12_sumOf := ⟨w_1773, w_1775, ws_90⟩
theorem kv_RX12_296 : LkV RX12 296 yX12_isPledged := ⟨w_1721, w_1723, ws_81⟩
theorem kv_RX12_299 : LkV RX12 299 yX12_isLost := ⟨w_1741, w_1743, ws_86⟩
theorem kv_RX12_302 : LkV RX12 302 yX12_lostOnes := ⟨w_1737, w_1739, ws_85⟩
theorem kv_RX12_305 : LkV RX12 305 yX12_noPerson := ⟨w_1706, w_1708, ws_78⟩
theorem kv_RX12_308 : LkV RX12 308 yX12_owesOf := ⟨w_1717, w_1719, ws_80⟩
theorem kv_RX12_311 : LkV RX12 311 yX12_dueTo := ⟨w_1725, w_1727, ws_82⟩
theorem kv_RX12_314 : LkV RX12 314 yX12_shareOf := ⟨w_1733, w_1735, ws_84⟩
theorem kv_RX12_317 : LkV RX12 317 yX12_noLace := ⟨w_1750, w_1752, ws_87⟩
theorem kv_RX12_323 : LkV RX12 323 yX12_walksBy := ⟨w_1765, w_1767, ws_88⟩
theorem kv_RX12_326 : LkV RX12 326 yX12_fallsBy := ⟨w_1794, w_1796, ws_95⟩
theorem kv_RX12_329 : LkV RX12 329 yX12_growsBy := ⟨w_1803, w_1805, ws_96⟩
theorem kv_RX12_332 : LkV RX12 332 yX12_gets := ⟨w_1815, w_1817, ws_98⟩
theorem kv_RX12_335 : LkV RX12 335 yX12_tells := ⟨w_1819, w_1821, ws_99⟩
theorem kv_RX12_339 : LkV RX12 339 yX12_remembers := ⟨w_1811, w_1813, ws_97⟩
theorem kv_RX12_342 : LkV RX12 342 yX12_isPaid := ⟨w_1827, w_1829, ws_100⟩
theorem kv_RX12_348 : LkV RX12 348 yX12_isLostNow := ⟨w_1875, w_1877, ws_106⟩
theorem kv_RX12_351 : LkV RX12 351 yX12_drawn := ⟨w_1855, w_1857, ws_102⟩
theorem kv_RX12_354 : LkV RX12 354 yX12_falls := ⟨w_1860, w_1862, ws_103⟩
theorem kv_RX12_357 : LkV RX12 357 yX12_walksOn := ⟨w_1864, w_1866, ws_104⟩
theorem kv_RX12_360 : LkV RX12 360 yX12_isCalled := ⟨w_1871, w_1873, ws_105⟩
theorem kv_RX12_363 : LkV RX12 363 yX12_oneDay := ⟨w_1851, w_1853, ws_101⟩
theorem kv_RX12_367 : LkV RX12 367 yX12_keepsAll := ⟨w_1883, w_1885, ws_107⟩
theorem kv_RX12_370 : LkV RX12 370 yX12_bringsBack := ⟨w_1887, w_1889, ws_108⟩
theorem kv_RX12_374 : LkV RX12 374 yX12_comesTo := ⟨w_1895, w_1897, ws_109⟩
theorem kv_RX12_377 : LkV RX12 377 yX12_leastOf := ⟨w_1919, w_1921, ws_112⟩
theorem kv_RX12_383 : LkV RX12 383 yX12_leastBy := ⟨w_1915, w_1917, ws_111⟩
theorem kv_RX12_386 : LkV RX12 386 yX12_laysLeast := ⟨w_1908, w_1910, ws_110⟩
theorem kv_RX12_389 : LkV RX12 389 yX12_pledgedOnes := ⟨w_1931, w_1933, ws_113⟩
theorem kv_RX12_392 : LkV RX12 392 yX12_isRing := ⟨w_1935, w_1937, ws_114⟩
theorem kv_RX12_395 : LkV RX12 395 yX12_holdersOf := ⟨w_1951, w_1953, ws_116⟩
theorem kv_RX12_398 : LkV RX12 398 yX12_leadsFrom := ⟨w_1947, w_1949, ws_115⟩
theorem kv_RX12_401 : LkV RX12 401 yX12_amountOf := ⟨w_1963, w_1965, ws_117⟩
theorem kv_RX12_404 : LkV RX12 404 yX12_canBePaid := ⟨w_1967, w_1969, ws_118⟩
theorem kv_RX12_407 : LkV RX12 407 yX12_isLostBy := ⟨w_1979, w_1981, ws_119⟩
theorem kv_RX12_410 : LkV RX12 410 yX12_hangsOn := ⟨w_1987, w_1989, ws_120⟩
theorem kv_RX12_413 : LkV RX12 413 yX12_everybody := ⟨w_1999, w_2001, ws_121⟩
theorem kv_RX12_416 : LkV RX12 416 yX12_isNeeded := ⟨w_2003, w_2005, ws_122⟩
theorem kv_RX12_419 : LkV RX12 419 yX12_isTold := ⟨w_2011, w_2013, ws_123⟩
theorem kv_RX12_422 : LkV RX12 422 yX12_fits := ⟨w_2015, w_2017, ws_124⟩
theorem kv_RX12_425 : LkV RX12 425 yX12_asFastAs := ⟨w_2027, w_2029, ws_125⟩
theorem kv_RX12_428 : LkV RX12 428 yX12_ofLog := ⟨w_2059, w_2061, ws_126⟩
theorem kv_RX12_431 : LkV RX12 431 yX12_pursesOfAll := ⟨w_2075, w_2077, ws_127⟩
theorem kv_RX12_48 : LkV RX12 48 yX12_comesBack := ⟨w_1443, w_1445, ws_46⟩
theorem kv_RX12_59 : LkV RX12 59 yX12_people := ⟨w_1582, w_1584, ws_57⟩
theorem kv_RX12_70 : LkV RX12 70 yX12_ofLace := ⟨w_1612, w_1614, ws_63⟩
theorem kv_RX12_77 : LkV RX12 77 yX12_laces := ⟨w_1604, w_1606, ws_61⟩
theorem kv_RX12_80 : LkV RX12 80 yX12_tellsLace := ⟨w_1447, w_1449, ws_47⟩
theorem kv_RX12_84 : LkV RX12 84 yX12_of := ⟨w_1729, w_1731, ws_83⟩
theorem kv_RX1_34 : LkV RX1 34 yX1_rowAt := ⟨w_1400, w_1402, ws_45⟩
theorem kv_RX1_38 : LkV RX1 38 yX1_laceAt := ⟨w_1396, w_1397, w_1398⟩
theorem kv_RX1_41 : LkV RX1 41 yX1_dayAt := ⟨w_1407, w_1408, w_1409⟩
theorem kv_RX2_102 : LkV RX2 102 yX2_walkAll := ⟨w_1136, w_1138, ws_27⟩
theorem kv_RX2_106 : LkV RX2 106 yX2_isPledged := ⟨w_474, w_427, w_428⟩
theorem kv_RX2_110 : LkV RX2 110 yX2_growthOf := ⟨w_1155, w_1030, w_1031⟩
theorem kv_RX2_114 : LkV RX2 114 yX2_settle := ⟨w_1156, w_1158, ws_31⟩
theorem kv_RX2_124 : LkV RX2 124 yX4_sumOf := ⟨w_488, w_489, w_490⟩
theorem kv_RX2_128 : LkV RX2 128 yX2_slackOf := ⟨w_512, w_513, w_514⟩
theorem kv_RX2_138 : LkV RX2 138 yX2_gaitOf := ⟨w_516, w_497, w_498⟩
theorem kv_RX2_149 : LkV RX2 149 yX2_amountOf := ⟨w_407, w_408, w_409⟩
theorem kv_RX2_152 : LkV RX2 152 yX2_heldBy := ⟨w_959, w_502, w_503⟩
theorem kv_RX2_159 : LkV RX2 159 yX2_lacesThatAre := ⟨w_964, w_526, w_527⟩
theorem kv_RX2_162 : LkV RX2 162 yX2_directCreditorsOf := ⟨w_1244, w_1246, ws_37⟩
theorem kv_RX2_165 : LkV RX2 165 yX2_laceFor := ⟨w_1271, w_1273, ws_39⟩
theorem kv_RX2_168 : LkV RX2 168 yX2_betterCall := ⟨w_1275, w_1277, ws_40⟩
theorem kv_RX2_172 : LkV RX2 172 yX2_partiesOf := ⟨w_475, w_477, ws_3⟩
theorem kv_RX2_175 : LkV RX2 175 yX2_draw := ⟨w_1140, w_1142, ws_28⟩
theorem kv_RX2_179 : LkV RX2 179 yX2_fallOf := ⟨w_1145, w_1014, w_1015⟩
theorem kv_RX2_182 : LkV RX2 182 yX2_fall := ⟨w_1146, w_1148, ws_29⟩
theorem kv_RX2_185 : LkV RX2 185 yX2_walkOf := ⟨w_1150, w_485, w_486⟩
theorem kv_RX2_188 : LkV RX2 188 yX2_walk := ⟨w_1151, w_1153, ws_30⟩
theorem kv_RX2_192 : LkV RX2 192 yX2_payOff := ⟨w_1160, w_1083, w_1084⟩
theorem kv_RX2_195 : LkV RX2 195 yX2_creditorOf := ⟨w_1248, w_1250, ws_38⟩
theorem kv_RX2_80 : LkV RX2 80 yX1_copyFrom := ⟨w_548, w_549, w_550⟩
theorem kv_RX2_84 : LkV RX2 84 yX2_letGo := ⟨w_704, w_706, ws_9⟩
theorem kv_RX2_88 : LkV RX2 88 yX2_earn := ⟨w_1086, w_1065, w_1066⟩
theorem kv_RX2_92 : LkV RX2 92 yX1_add := ⟨w_1087, w_1070, w_1071⟩
theorem kv_RX3_107 : LkV RX3 107 yX2_pledge := ⟨w_727, w_728, w_729⟩
theorem kv_RX3_27 : LkV RX3 27 yX8_takesWord := ⟨w_617, w_618, w_619⟩
theorem kv_RX3_31 : LkV RX3 31 yX3_readPerson := ⟨w_673, w_675, ws_8⟩
theorem kv_RX3_37 : LkV RX3 37 yX3_readPledge := ⟨w_709, w_711, ws_10⟩
theorem kv_RX3_43 : LkV RX3 43 yX3_readMud := ⟨w_732, w_734, ws_13⟩
theorem kv_RX3_48 : LkV RX3 48 yX3_readGoal := ⟨w_737, w_739, ws_14⟩
theorem kv_RX3_53 : LkV RX3 53 yX8_takeNumber := ⟨w_681, w_682, w_683⟩
theorem kv_RX3_65 : LkV RX3 65 yX8_refuse := ⟨w_677, w_678, w_679⟩
theorem kv_RX3_73 : LkV RX3 73 yX8_needWord := ⟨w_690, w_691, w_692⟩
theorem kv_RX3_78 : LkV RX3 78 yX8_isRight := ⟨w_696, w_697, w_698⟩
theorem kv_RX3_82 : LkV RX3 82 yX2_addPerson := ⟨w_700, w_701, w_702⟩
theorem kv_RX3_86 : LkV RX3 86 yX3_takeLaceInShoe := ⟨w_713, w_715, ws_11⟩
theorem kv_RX3_96 : LkV RX3 96 yX3_takeOther := ⟨w_719, w_721, ws_12⟩
theorem kv_RX4_50 : LkV RX4 50 yX4_ask := ⟨w_492, w_494, ws_4⟩
theorem kv_RX4_54 : LkV RX4 54 yX4_holds := ⟨w_505, w_507, ws_5⟩
theorem kv_RX4_58 : LkV RX4 58 yX2_gaitOf := ⟨w_496, w_497, w_498⟩
theorem kv_RX4_69 : LkV RX4 69 yX2_heldBy := ⟨w_501, w_502, w_503⟩
theorem kv_RX5_102 : LkV RX5 102 yX8_isAtNumber := ⟨w_802, w_803, w_804⟩
theorem kv_RX5_15 : LkV RX5 15 yX5_takeKind := ⟨w_746, w_748, ws_15⟩
theorem kv_RX5_23 : LkV RX5 23 yX8_takeNumber := ⟨w_755, w_682, w_683⟩
theorem kv_RX5_29 : LkV RX5 29 yX4_openLine := ⟨w_756, w_757, w_758⟩
theorem kv_RX5_37 : LkV RX5 37 yX8_takesWord := ⟨w_751, w_618, w_619⟩
theorem kv_RX5_41 : LkV RX5 41 yX5_readAny := ⟨w_761, w_763, ws_16⟩
theorem kv_RX5_45 : LkV RX5 45 yX4_closeLine := ⟨w_815, w_816, w_817⟩
theorem kv_RX5_55 : LkV RX5 55 yX8_needWord := ⟨w_754, w_691, w_692⟩
theorem kv_RX5_59 : LkV RX5 59 yX5_readEach := ⟨w_765, w_767, ws_17⟩
theorem kv_RX5_64 : LkV RX5 64 yX4_addStep := ⟨w_775, w_776, w_777⟩
theorem kv_RX5_67 : LkV RX5 67 yX5_readAtom := ⟨w_769, w_771, ws_18⟩
theorem kv_RX5_78 : LkV RX5 78 yX8_refuse := ⟨w_774, w_678, w_679⟩
theorem kv_RX5_81 : LkV RX5 81 yX8_takesSign := ⟨w_779, w_780, w_781⟩
theorem kv_RX5_85 : LkV RX5 85 yX8_needSign := ⟨w_783, w_784, w_785⟩
theorem kv_RX5_93 : LkV RX5 93 yX5_readComparison := ⟨w_790, w_792, ws_19⟩
theorem kv_RX5_96 : LkV RX5 96 yX5_readSum := ⟨w_794, w_796, ws_20⟩
theorem kv_RX5_99 : LkV RX5 99 yX5_readPart := ⟨w_798, w_800, ws_21⟩
theorem kv_RX6_17 : LkV RX6 17 yX8_openText := ⟨w_594, w_595, w_596⟩
theorem kv_RX6_22 : LkV RX6 22 yX8_isOver := ⟨w_606, w_607, w_608⟩
theorem kv_RX6_32 : LkV RX6 32 yX8_refuse := ⟨w_819, w_678, w_679⟩
theorem kv_RX6_36 : LkV RX6 36 yX8_takesSign := ⟨w_820, w_780, w_781⟩
theorem kv_RX7_25 : LkV RX7 25 yX7_gather := ⟨w_422, w_424, ws_0⟩
theorem kv_RX7_50 : LkV RX7 50 yX7_isBalanced := ⟨w_438, w_440, ws_1⟩
theorem kv_RX7_54 : LkV RX7 54 yX7_take := ⟨w_442, w_444, ws_2⟩
theorem kv_RX7_61 : LkV RX7 61 yX2_isPledged := ⟨w_426, w_427, w_428⟩
theorem kv_RX8_28 : LkV RX8 28 yX8_useUp := ⟨w_598, w_599, w_600⟩
theorem kv_RX8_32 : LkV RX8 32 yX8_moveTo := ⟨w_602, w_604, ws_6⟩
theorem kv_RX8_36 : LkV RX8 36 yX8_runOf := ⟨w_621, w_623, ws_7⟩
theorem kv_RX8_40 : LkV RX8 40 yJ0_length_8abf5 := ⟨w_625, w_626, w_627⟩
theorem kv_RX8_44 : LkV RX8 44 yJ0_charAt_5068e := ⟨w_635, w_636, w_637⟩
theorem kv_RX8_48 : LkV RX8 48 yX8_takesWord := ⟨w_694, w_618, w_619⟩
theorem kv_RX8_52 : LkV RX8 52 yX8_refuse := ⟨w_685, w_678, w_679⟩
theorem kv_RX8_55 : LkV RX8 55 yX8_takesSign := ⟨w_787, w_780, w_781⟩
theorem kv_RX9_27 : LkV RX9 27 yX9_with := ⟨w_1202, w_1204, ws_34⟩
theorem kv_RX9_36 : LkV RX9 36 yX9_firstBest := ⟨w_1216, w_1218, ws_35⟩
theorem m_J0_charAt_5068e : LkM yJ0_charAt_5068e F_J0_charAt_5068e (.code yJ0_charAt_5068e F_J0_charAt_5068e.2.1 F_J0_charAt_5068e.2.2.1 (some .char)) 1 := ⟨w_638, w_15, ⟨by decide, by decide⟩, by decide +kernel, by decide⟩
theorem m_J0_checkIndex_df160 : LkM yJ0_checkIndex_df160 F_J0_checkIndex_df160 (.code yJ0_checkIndex_df160 F_J0_checkIndex_df160.2.1 F_J0_checkIndex_df160.2.2.1 none) 2 := ⟨w_648, w_15, ⟨by decide, by decide⟩, by decide +kernel, by decide⟩
theorem m_J0_coder_7d493 : LkM yJ0_coder_7d493 F_J0_coder_7d493 (.code yJ0_coder_7d493 F_J0_coder_7d493.2.1 F_J0_coder_7d493.2.2.1 (some .byte)) 0 := ⟨w_632, w_15, ⟨by decide, by decide⟩, by decide +kernel, by decide⟩
theorem m_J0_isLatin1_aae02 : LkM yJ0_isLatin1_aae02 F_J0_isLatin1_aae02 (.code yJ0_isLatin1_aae02 F_J0_isLatin1_aae02.2.1 F_J0_isLatin1_aae02.2.2.1 (some .boolean)) 0 := ⟨w_642, w_15, ⟨by decide, by decide⟩, by decide +kernel, by decide⟩
theorem m_J0_length_8abf5 : LkM yJ0_length_8abf5 F_J0_length_8abf5 (.code yJ0_length_8abf5 F_J0_length_8abf5.2.1 F_J0_length_8abf5.2.2.1 (some .int)) 0 := ⟨w_628, w_15, ⟨by decide, by decide⟩, by decide +kernel, by decide⟩
theorem m_J1_charAt_3b067 : LkM yJ1_charAt_3b067 F_J1_charAt_3b067 (.code yJ1_charAt_3b067 F_J1_charAt_3b067.2.1 F_J1_charAt_3b067.2.2.1 (some .char)) 2 := ⟨w_645, w_16, ⟨by decide, by decide⟩, by decide +kernel, by decide⟩
theorem m_J3_checkIndex_8e157 : LkM yJ3_checkIndex_8e157 F_J3_checkIndex_8e157 (.code yJ3_checkIndex_8e157 F_J3_checkIndex_8e157.2.1 F_J3_checkIndex_8e157.2.2.1 (some .int)) 3 := ⟨w_653, w_17, ⟨by decide, by decide⟩, by decide +kernel, by decide⟩
theorem m_J6_bitCount_0f7a4 : LkM yJ6_bitCount_0f7a4 F_J6_bitCount_0f7a4 (.code yJ6_bitCount_0f7a4 F_J6_bitCount_0f7a4.2.1 F_J6_bitCount_0f7a4.2.2.1 (some .int)) 1 := ⟨w_448, w_25, ⟨by decide, by decide⟩, by decide +kernel, by decide⟩
theorem m_J6_numberOfTrailingZeros_0f7a4 : LkM yJ6_numberOfTrailingZeros_0f7a4 F_J6_numberOfTrailingZeros_0f7a4 (.code yJ6_numberOfTrailingZeros_0f7a4 F_J6_numberOfTrailingZeros_0f7a4.2.1 F_J6_numberOfTrailingZeros_0f7a4.2.2.1 (some .int)) 1 := ⟨w_432, w_25, ⟨by decide, by decide⟩, by decide +kernel, by decide⟩
theorem m_J9_abs_0f7a4 : LkM yJ9_abs_0f7a4 F_J9_abs_0f7a4 (.code yJ9_abs_0f7a4 F_J9_abs_0f7a4.2.1 F_J9_abs_0f7a4.2.2.1 (some .int)) 1 := ⟨w_1870, w_27, ⟨by decide, by decide⟩, by decide +kernel, by decide⟩
theorem m_J9_floorMod_7cf53 : LkM yJ9_floorMod_7cf53 F_J9_floorMod_7cf53 (.code yJ9_floorMod_7cf53 F_J9_floorMod_7cf53.2.1 F_J9_floorMod_7cf53.2.2.1 (some .int)) 2 := ⟨w_1406, w_27, ⟨by decide, by decide⟩, by decide +kernel, by decide⟩
theorem m_J9_max_7cf53 : LkM yJ9_max_7cf53 F_J9_max_7cf53 (.code yJ9_max_7cf53 F_J9_max_7cf53.2.1 F_J9_max_7cf53.2.2.1 (some .int)) 2 := ⟨w_520, w_27, ⟨by decide, by decide⟩, by decide +kernel, by decide⟩
theorem m_J9_min_7cf53 : LkM yJ9_min_7cf53 F_J9_min_7cf53 (.code yJ9_min_7cf53 F_J9_min_7cf53.2.1 F_J9_min_7cf53.2.2.1 (some .int)) 2 := ⟨w_1019, w_27, ⟨by decide, by decide⟩, by decide +kernel, by decide⟩
theorem m_X0_forget : LkM yX0_forget F_X0_forget (.code yX0_forget F_X0_forget.2.1 F_X0_forget.2.2.1 none) 0 := ⟨w_570, w_9, ⟨by decide, by decide⟩, by decide +kernel, by decide⟩
theorem m_X0_remember : LkM yX0_remember F_X0_remember (.code yX0_remember F_X0_remember.2.1 F_X0_remember.2.2.1 none) 1 := ⟨w_1062, w_9, ⟨by decide, by decide⟩, by decide +kernel, by decide⟩
theorem m_X0_takeBack : LkM yX0_takeBack F_X0_takeBack (.code yX0_takeBack F_X0_takeBack.2.1 F_X0_takeBack.2.2.1 (some .boolean)) 1 := ⟨w_540, w_9, ⟨by decide, by decide⟩, by decide +kernel, by decide⟩
theorem m_X10_areTold : LkM yX10_areTold F_X10_areTold (.code yX10_areTold F_X10_areTold.2.1 F_X10_areTold.2.2.1 (some .boolean)) 2 := ⟨w_1319, w_12, ⟨by decide, by decide⟩, by decide +kernel, by decide⟩
theorem m_X10_fits : LkM yX10_fits F_X10_fits (.code yX10_fits F_X10_fits.2.1 F_X10_fits.2.2.1 (some .boolean)) 2 := ⟨w_1328, w_12, ⟨by decide, by decide⟩, by decide +kernel, by decide⟩
theorem m_X10_parting : LkM yX10_parting F_X10_parting (.code yX10_parting F_X10_parting.2.1 F_X10_parting.2.2.1 (some .int)) 0 := ⟨w_1345, w_12, ⟨by decide, by decide⟩, by decide +kernel, by decide⟩
theorem m_X10_seek : LkM yX10_seek F_X10_seek (.code yX10_seek F_X10_seek.2.1 F_X10_seek.2.2.1 none) 2 := ⟨w_1324, w_12, ⟨by decide, by decide⟩, by decide +kernel, by decide⟩
theorem m_X10_take : LkM yX10_take F_X10_take (.code yX10_take F_X10_take.2.1 F_X10_take.2.2.1 none) 1 := ⟨w_1333, w_12, ⟨by decide, by decide⟩, by decide +kernel, by decide⟩
theorem m_X11_ahead : LkM yX11_ahead F_X11_ahead (.code yX11_ahead F_X11_ahead.2.1 F_X11_ahead.2.2.1 (some .int)) 3 := ⟨w_1226, w_1, ⟨by decide, by decide⟩, by decide +kernel, by decide⟩
theorem m_X11_breaks : LkM yX11_breaks F_X11_breaks (.code yX11_breaks F_X11_breaks.2.1 F_X11_breaks.2.2.1 (some .int)) 1 := ⟨w_1285, w_1, ⟨by decide, by decide⟩, by decide +kernel, by decide⟩
theorem m_X11_call : LkM yX11_call F_X11_call (.code yX11_call F_X11_call.2.1 F_X11_call.2.2.1 (some .int)) 2 := ⟨w_1266, w_1, ⟨by decide, by decide⟩, by decide +kernel, by decide⟩
theorem m_X11_carry : LkM yX11_carry F_X11_carry (.code yX11_carry F_X11_carry.2.1 F_X11_carry.2.2.1 (some .int)) 1 := ⟨w_1185, w_1, ⟨by decide, by decide⟩, by decide +kernel, by decide⟩
theorem m_X11_comes : LkM yX11_comes F_X11_comes (.code yX11_comes F_X11_comes.2.1 F_X11_comes.2.2.1 (some .int)) 2 := ⟨w_1167, w_1, ⟨by decide, by decide⟩, by decide +kernel, by decide⟩
theorem m_X11_days : LkM yX11_days F_X11_days (.code yX11_days F_X11_days.2.1 F_X11_days.2.2.1 (some .int)) 1 := ⟨w_1130, w_1, ⟨by decide, by decide⟩, by decide +kernel, by decide⟩
theorem m_X11_daysTo : LkM yX11_daysTo F_X11_daysTo (.code yX11_daysTo F_X11_daysTo.2.1 F_X11_daysTo.2.2.1 (some .int)) 2 := ⟨w_1171, w_1, ⟨by decide, by decide⟩, by decide +kernel, by decide⟩
theorem m_X11_give : LkM yX11_give F_X11_give (.code yX11_give F_X11_give.2.1 F_X11_give.2.2.1 (some .int)) 2 := ⟨w_1107, w_1, ⟨by decide, by decide⟩, by decide +kernel, by decide⟩
theorem m_X11_goal : LkM yX11_goal F_X11_goal (.code yX11_goal F_X11_goal.2.1 F_X11_goal.2.2.1 (some .int)) 2 := ⟨w_1116, w_1, ⟨by decide, by decide⟩, by decide +kernel, by decide⟩
theorem m_X11_grows : LkM yX11_grows F_X11_grows (.code yX11_grows F_X11_grows.2.1 F_X11_grows.2.2.1 (some .int)) 1 := ⟨w_1027, w_1, ⟨by decide, by decide⟩, by decide +kernel, by decide⟩
theorem m_X11_hangs : LkM yX11_hangs F_X11_hangs (.code yX11_hangs F_X11_hangs.2.1 F_X11_hangs.2.2.1 (some .int)) 1 := ⟨w_1304, w_1, ⟨by decide, by decide⟩, by decide +kernel, by decide⟩
theorem m_X11_hasBit : LkM yX11_hasBit F_X11_hasBit (.code yX11_hasBit F_X11_hasBit.2.1 F_X11_hasBit.2.2.1 (some .boolean)) 2 := ⟨w_413, w_1, ⟨by decide, by decide⟩, by decide +kernel, by decide⟩
theorem m_X11_isOutside : LkM yX11_isOutside F_X11_isOutside (.code yX11_isOutside F_X11_isOutside.2.1 F_X11_isOutside.2.2.1 (some .boolean)) 3 := ⟨w_688, w_1, ⟨by decide, by decide⟩, by decide +kernel, by decide⟩
theorem m_X11_isSpared : LkM yX11_isSpared F_X11_isSpared (.code yX11_isSpared F_X11_isSpared.2.1 F_X11_isSpared.2.2.1 (some .boolean)) 2 := ⟨w_1296, w_1, ⟨by decide, by decide⟩, by decide +kernel, by decide⟩
theorem m_X11_lace : LkM yX11_lace F_X11_lace (.code yX11_lace F_X11_lace.2.1 F_X11_lace.2.2.1 (some .int)) 2 := ⟨w_987, w_1, ⟨by decide, by decide⟩, by decide +kernel, by decide⟩
theorem m_X11_lacesOf : LkM yX11_lacesOf F_X11_lacesOf (.code yX11_lacesOf F_X11_lacesOf.2.1 F_X11_lacesOf.2.2.1 (some .int)) 1 := ⟨w_406, w_1, ⟨by decide, by decide⟩, by decide +kernel, by decide⟩
theorem m_X11_land : LkM yX11_land F_X11_land (.code yX11_land F_X11_land.2.1 F_X11_land.2.2.1 (some .int)) 0 := ⟨w_587, w_1, ⟨by decide, by decide⟩, by decide +kernel, by decide⟩
theorem m_X11_law : LkM yX11_law F_X11_law (.code yX11_law F_X11_law.2.1 F_X11_law.2.2.1 (some .int)) 0 := ⟨w_914, w_1, ⟨by decide, by decide⟩, by decide +kernel, by decide⟩
theorem m_X11_leads : LkM yX11_leads F_X11_leads (.code yX11_leads F_X11_leads.2.1 F_X11_leads.2.2.1 (some .int)) 1 := ⟨w_1259, w_1, ⟨by decide, by decide⟩, by decide +kernel, by decide⟩
theorem m_X11_led : LkM yX11_led F_X11_led (.code yX11_led F_X11_led.2.1 F_X11_led.2.2.1 (some .int)) 2 := ⟨w_1391, w_1, ⟨by decide, by decide⟩, by decide +kernel, by decide⟩
theorem m_X11_lend : LkM yX11_lend F_X11_lend (.code yX11_lend F_X11_lend.2.1 F_X11_lend.2.2.1 (some .int)) 5 := ⟨w_1040, w_1, ⟨by decide, by decide⟩, by decide +kernel, by decide⟩
theorem m_X11_lends : LkM yX11_lends F_X11_lends (.code yX11_lends F_X11_lends.2.1 F_X11_lends.2.2.1 (some .int)) 1 := ⟨w_1360, w_1, ⟨by decide, by decide⟩, by decide +kernel, by decide⟩
theorem m_X11_log : LkM yX11_log F_X11_log (.code yX11_log F_X11_log.2.1 F_X11_log.2.2.1 (some .int)) 2 := ⟨w_1421, w_1, ⟨by decide, by decide⟩, by decide +kernel, by decide⟩
theorem m_X11_look : LkM yX11_look F_X11_look (.code yX11_look F_X11_look.2.1 F_X11_look.2.2.1 (some .int)) 0 := ⟨w_1341, w_1, ⟨by decide, by decide⟩, by decide +kernel, by decide⟩
theorem m_X11_loose : LkM yX11_loose F_X11_loose (.code yX11_loose F_X11_loose.2.1 F_X11_loose.2.2.1 (some .int)) 1 := ⟨w_1369, w_1, ⟨by decide, by decide⟩, by decide +kernel, by decide⟩
theorem m_X11_mercy : LkM yX11_mercy F_X11_mercy (.code yX11_mercy F_X11_mercy.2.1 F_X11_mercy.2.2.1 (some .int)) 1 := ⟨w_1292, w_1, ⟨by decide, by decide⟩, by decide +kernel, by decide⟩
theorem m_X11_mud : LkM yX11_mud F_X11_mud (.code yX11_mud F_X11_mud.2.1 F_X11_mud.2.2.1 (some .int)) 1 := ⟨w_1000, w_1, ⟨by decide, by decide⟩, by decide +kernel, by decide⟩
theorem m_X11_needAhead : LkM yX11_needAhead F_X11_needAhead (.code yX11_needAhead F_X11_needAhead.2.1 F_X11_needAhead.2.2.1 none) 1 := ⟨w_1230, w_1, ⟨by decide, by decide⟩, by decide +kernel, by decide⟩
theorem m_X11_needLace : LkM yX11_needLace F_X11_needLace (.code yX11_needLace F_X11_needLace.2.1 F_X11_needLace.2.2.1 none) 1 := ⟨w_991, w_1, ⟨by decide, by decide⟩, by decide +kernel, by decide⟩
theorem m_X11_needPerson : LkM yX11_needPerson F_X11_needPerson (.code yX11_needPerson F_X11_needPerson.2.1 F_X11_needPerson.2.2.1 none) 1 := ⟨w_935, w_1, ⟨by decide, by decide⟩, by decide +kernel, by decide⟩
theorem m_X11_needPlace : LkM yX11_needPlace F_X11_needPlace (.code yX11_needPlace F_X11_needPlace.2.1 F_X11_needPlace.2.2.1 none) 1 := ⟨w_1004, w_1, ⟨by decide, by decide⟩, by decide +kernel, by decide⟩
theorem m_X11_needPledged : LkM yX11_needPledged F_X11_needPledged (.code yX11_needPledged F_X11_needPledged.2.1 F_X11_needPledged.2.2.1 none) 1 := ⟨w_1099, w_1, ⟨by decide, by decide⟩, by decide +kernel, by decide⟩
theorem m_X11_needWearers : LkM yX11_needWearers F_X11_needWearers (.code yX11_needWearers F_X11_needWearers.2.1 F_X11_needWearers.2.2.1 none) 1 := ⟨w_1315, w_1, ⟨by decide, by decide⟩, by decide +kernel, by decide⟩
theorem m_X11_owes : LkM yX11_owes F_X11_owes (.code yX11_owes F_X11_owes.2.1 F_X11_owes.2.2.1 (some .boolean)) 2 := ⟨w_1238, w_1, ⟨by decide, by decide⟩, by decide +kernel, by decide⟩
theorem m_X11_ownerOf : LkM yX11_ownerOf F_X11_ownerOf (.code yX11_ownerOf F_X11_ownerOf.2.1 F_X11_ownerOf.2.2.1 (some .int)) 1 := ⟨w_437, w_1, ⟨by decide, by decide⟩, by decide +kernel, by decide⟩
theorem m_X11_pay : LkM yX11_pay F_X11_pay (.code yX11_pay F_X11_pay.2.1 F_X11_pay.2.2.1 (some .int)) 1 := ⟨w_1080, w_1, ⟨by decide, by decide⟩, by decide +kernel, by decide⟩
theorem m_X11_person : LkM yX11_person F_X11_person (.code yX11_person F_X11_person.2.1 F_X11_person.2.2.1 (some .int)) 2 := ⟨w_931, w_1, ⟨by decide, by decide⟩, by decide +kernel, by decide⟩
theorem m_X11_race : LkM yX11_race F_X11_race (.code yX11_race F_X11_race.2.1 F_X11_race.2.2.1 (some .int)) 1 := ⟨w_1353, w_1, ⟨by decide, by decide⟩, by decide +kernel, by decide⟩
theorem m_X11_rest : LkM yX11_rest F_X11_rest (.code yX11_rest F_X11_rest.2.1 F_X11_rest.2.2.1 (some .int)) 1 := ⟨w_1123, w_1, ⟨by decide, by decide⟩, by decide +kernel, by decide⟩
theorem m_X11_soonest : LkM yX11_soonest F_X11_soonest (.code yX11_soonest F_X11_soonest.2.1 F_X11_soonest.2.2.1 (some .int)) 1 := ⟨w_1178, w_1, ⟨by decide, by decide⟩, by decide +kernel, by decide⟩
theorem m_X11_span : LkM yX11_span F_X11_span (.code yX11_span F_X11_span.2.1 F_X11_span.2.2.1 (some .int)) 2 := ⟨w_1383, w_1, ⟨by decide, by decide⟩, by decide +kernel, by decide⟩
theorem m_X11_surety : LkM yX11_surety F_X11_surety (.code yX11_surety F_X11_surety.2.1 F_X11_surety.2.2.1 (some .int)) 2 := ⟨w_1094, w_1, ⟨by decide, by decide⟩, by decide +kernel, by decide⟩
theorem m_X11_tellsPlaces : LkM yX11_tellsPlaces F_X11_tellsPlaces (.code yX11_tellsPlaces F_X11_tellsPlaces.2.1 F_X11_tellsPlaces.2.2.1 (some .boolean)) 1 := ⟨w_1190, w_1, ⟨by decide, by decide⟩, by decide +kernel, by decide⟩
theorem m_X11_trial : LkM yX11_trial F_X11_trial (.code yX11_trial F_X11_trial.2.1 F_X11_trial.2.2.1 (some .int)) 2 := ⟨w_1376, w_1, ⟨by decide, by decide⟩, by decide +kernel, by decide⟩
theorem m_X11_walks : LkM yX11_walks F_X11_walks (.code yX11_walks F_X11_walks.2.1 F_X11_walks.2.2.1 (some .int)) 2 := ⟨w_1012, w_1, ⟨by decide, by decide⟩, by decide +kernel, by decide⟩
theorem m_X11_wear : LkM yX11_wear F_X11_wear (.code yX11_wear F_X11_wear.2.1 F_X11_wear.2.2.1 (some .int)) 1 := ⟨w_1311, w_1, ⟨by decide, by decide⟩, by decide +kernel, by decide⟩
theorem m_X12_after : LkM yX12_after F_X12_after (.code yX12_after F_X12_after.2.1 F_X12_after.2.2.1 (some .int)) 3 := ⟨w_1594, w_13, ⟨by decide, by decide⟩, by decide +kernel, by decide⟩
theorem m_X12_amountOf : LkM yX12_amountOf F_X12_amountOf (.code yX12_amountOf F_X12_amountOf.2.1 F_X12_amountOf.2.2.1 (some .int)) 1 := ⟨w_1966, w_13, ⟨by decide, by decide⟩, by decide +kernel, by decide⟩
theorem m_X12_asFastAs : LkM yX12_asFastAs F_X12_asFastAs (.code yX12_asFastAs F_X12_asFastAs.2.1 F_X12_asFastAs.2.2.1 (some .int)) 1 := ⟨w_2030, w_13, ⟨by decide, by decide⟩, by decide +kernel, by decide⟩
theorem m_X12_at : LkM yX12_at F_X12_at (.code yX12_at F_X12_at.2.1 F_X12_at.2.2.1 (some .int)) 2 := ⟨w_1598, w_13, ⟨by decide, by decide⟩, by decide +kernel, by decide⟩
theorem m_X12_blanks : LkM yX12_blanks F_X12_blanks (.code yX12_blanks F_X12_blanks.2.1 F_X12_blanks.2.2.1 none) 0 := ⟨w_1554, w_13, ⟨by decide, by decide⟩, by decide +kernel, by decide⟩
theorem m_X12_bringsBack : LkM yX12_bringsBack F_X12_bringsBack (.code yX12_bringsBack F_X12_bringsBack.2.1 F_X12_bringsBack.2.2.1 none) 0 := ⟨w_1890, w_13, ⟨by decide, by decide⟩, by decide +kernel, by decide⟩
theorem m_X12_canBePaid : LkM yX12_canBePaid F_X12_canBePaid (.code yX12_canBePaid F_X12_canBePaid.2.1 F_X12_canBePaid.2.2.1 (some .boolean)) 1 := ⟨w_1970, w_13, ⟨by decide, by decide⟩, by decide +kernel, by decide⟩
theorem m_X12_comesBack : LkM yX12_comesBack F_X12_comesBack (.code yX12_comesBack F_X12_comesBack.2.1 F_X12_comesBack.2.2.1 none) 1 := ⟨w_1446, w_13, ⟨by decide, by decide⟩, by decide +kernel, by decide⟩
theorem m_X12_comesTo : LkM yX12_comesTo F_X12_comesTo (.code yX12_comesTo F_X12_comesTo.2.1 F_X12_comesTo.2.2.1 (some .int)) 2 := ⟨w_1898, w_13, ⟨by decide, by decide⟩, by decide +kernel, by decide⟩
theorem m_X12_drawn : LkM yX12_drawn F_X12_drawn (.code yX12_drawn F_X12_drawn.2.1 F_X12_drawn.2.2.1 (some .int)) 1 := ⟨w_1858, w_13, ⟨by decide, by decide⟩, by decide +kernel, by decide⟩
theorem m_X12_dueTo : LkM yX12_dueTo F_X12_dueTo (.code yX12_dueTo F_X12_dueTo.2.1 F_X12_dueTo.2.2.1 (some .int)) 1 := ⟨w_1728, w_13, ⟨by decide, by decide⟩, by decide +kernel, by decide⟩
theorem m_X12_emits : LkM yX12_emits F_X12_emits (.code yX12_emits F_X12_emits.2.1 F_X12_emits.2.2.1 none) 2 := ⟨w_1672, w_13, ⟨by decide, by decide⟩, by decide +kernel, by decide⟩
theorem m_X12_everybody : LkM yX12_everybody F_X12_everybody (.code yX12_everybody F_X12_everybody.2.1 F_X12_everybody.2.2.1 (some .int)) 0 := ⟨w_2002, w_13, ⟨by decide, by decide⟩, by decide +kernel, by decide⟩
theorem m_X12_factOf : LkM yX12_factOf F_X12_factOf (.code yX12_factOf F_X12_factOf.2.1 F_X12_factOf.2.2.1 (some .int)) 3 := ⟨w_1784, w_13, ⟨by decide, by decide⟩, by decide +kernel, by decide⟩
theorem m_X12_falls : LkM yX12_falls F_X12_falls (.code yX12_falls F_X12_falls.2.1 F_X12_falls.2.2.1 none) 1 := ⟨w_1863, w_13, ⟨by decide, by decide⟩, by decide +kernel, by decide⟩
theorem m_X12_fallsBy : LkM yX12_fallsBy F_X12_fallsBy (.code yX12_fallsBy F_X12_fallsBy.2.1 F_X12_fallsBy.2.2.1 (some .int)) 1 := ⟨w_1797, w_13, ⟨by decide, by decide⟩, by decide +kernel, by decide⟩
theorem m_X12_fits : LkM yX12_fits F_X12_fits (.code yX12_fits F_X12_fits.2.1 F_X12_fits.2.2.1 (some .boolean)) 1 := ⟨w_2018, w_13, ⟨by decide, by decide⟩, by decide +kernel, by decide⟩
theorem m_X12_gets : LkM yX12_gets F_X12_gets (.code yX12_gets F_X12_gets.2.1 F_X12_gets.2.2.1 none) 2 := ⟨w_1818, w_13, ⟨by decide, by decide⟩, by decide +kernel, by decide⟩
theorem m_X12_growsBy : LkM yX12_growsBy F_X12_growsBy (.code yX12_growsBy F_X12_growsBy.2.1 F_X12_growsBy.2.2.1 (some .int)) 1 := ⟨w_1806, w_13, ⟨by decide, by decide⟩, by decide +kernel, by decide⟩
theorem m_X12_hangsOn : LkM yX12_hangsOn F_X12_hangsOn (.code yX12_hangsOn F_X12_hangsOn.2.1 F_X12_hangsOn.2.2.1 (some .int)) 1 := ⟨w_1990, w_13, ⟨by decide, by decide⟩, by decide +kernel, by decide⟩
theorem m_X12_has : LkM yX12_has F_X12_has (.code yX12_has F_X12_has.2.1 F_X12_has.2.2.1 (some .boolean)) 2 := ⟨w_1914, w_13, ⟨by decide, by decide⟩, by decide +kernel, by decide⟩
theorem m_X12_hasLaw : LkM yX12_hasLaw F_X12_hasLaw (.code yX12_hasLaw F_X12_hasLaw.2.1 F_X12_hasLaw.2.2.1 (some .boolean)) 0 := ⟨w_1772, w_13, ⟨by decide, by decide⟩, by decide +kernel, by decide⟩
theorem m_X12_heldBy : LkM yX12_heldBy F_X12_heldBy (.code yX12_heldBy F_X12_heldBy.2.1 F_X12_heldBy.2.2.1 (some .int)) 1 := ⟨w_1716, w_13, ⟨by decide, by decide⟩, by decide +kernel, by decide⟩
theorem m_X12_holdersOf : LkM yX12_holdersOf F_X12_holdersOf (.code yX12_holdersOf F_X12_holdersOf.2.1 F_X12_holdersOf.2.2.1 (some .int)) 1 := ⟨w_1954, w_13, ⟨by decide, by decide⟩, by decide +kernel, by decide⟩
theorem m_X12_holdsLine : LkM yX12_holdsLine F_X12_holdsLine (.code yX12_holdsLine F_X12_holdsLine.2.1 F_X12_holdsLine.2.2.1 (some .boolean)) 2 := ⟨w_1780, w_13, ⟨by decide, by decide⟩, by decide +kernel, by decide⟩
theorem m_X12_in : LkM yX12_in F_X12_in (.code yX12_in F_X12_in.2.1 F_X12_in.2.2.1 (some .boolean)) 3 := ⟨w_1712, w_13, ⟨by decide, by decide⟩, by decide +kernel, by decide⟩
theorem m_X12_isAt : LkM yX12_isAt F_X12_isAt (.code yX12_isAt F_X12_isAt.2.1 F_X12_isAt.2.2.1 (some .boolean)) 2 := ⟨w_1558, w_13, ⟨by decide, by decide⟩, by decide +kernel, by decide⟩
theorem m_X12_isCalled : LkM yX12_isCalled F_X12_isCalled (.code yX12_isCalled F_X12_isCalled.2.1 F_X12_isCalled.2.2.1 none) 1 := ⟨w_1874, w_13, ⟨by decide, by decide⟩, by decide +kernel, by decide⟩
theorem m_X12_isIn : LkM yX12_isIn F_X12_isIn (.code yX12_isIn F_X12_isIn.2.1 F_X12_isIn.2.2.1 (some .boolean)) 1 := ⟨w_1611, w_13, ⟨by decide, by decide⟩, by decide +kernel, by decide⟩
theorem m_X12_isLost : LkM yX12_isLost F_X12_isLost (.code yX12_isLost F_X12_isLost.2.1 F_X12_isLost.2.2.1 (some .boolean)) 1 := ⟨w_1744, w_13, ⟨by decide, by decide⟩, by decide +kernel, by decide⟩
theorem m_X12_isLostBy : LkM yX12_isLostBy F_X12_isLostBy (.code yX12_isLostBy F_X12_isLostBy.2.1 F_X12_isLostBy.2.2.1 (some .boolean)) 2 := ⟨w_1982, w_13, ⟨by decide, by decide⟩, by decide +kernel, by decide⟩
theorem m_X12_isLostNow : LkM yX12_isLostNow F_X12_isLostNow (.code yX12_isLostNow F_X12_isLostNow.2.1 F_X12_isLostNow.2.2.1 none) 1 := ⟨w_1878, w_13, ⟨by decide, by decide⟩, by decide +kernel, by decide⟩
theorem m_X12_isNeeded : LkM yX12_isNeeded F_X12_isNeeded (.code yX12_isNeeded F_X12_isNeeded.2.1 F_X12_isNeeded.2.2.1 (some .boolean)) 1 := ⟨w_2006, w_13, ⟨by decide, by decide⟩, by decide +kernel, by decide⟩
theorem m_X12_isPaid : LkM yX12_isPaid F_X12_isPaid (.code yX12_isPaid F_X12_isPaid.2.1 F_X12_isPaid.2.2.1 none) 2 := ⟨w_1830, w_13, ⟨by decide, by decide⟩, by decide +kernel, by decide⟩
theorem m_X12_isPledged : LkM yX12_isPledged F_X12_isPledged (.code yX12_isPledged F_X12_isPledged.2.1 F_X12_isPledged.2.2.1 (some .boolean)) 1 := ⟨w_1724, w_13, ⟨by decide, by decide⟩, by decide +kernel, by decide⟩
theorem m_X12_isRing : LkM yX12_isRing F_X12_isRing (.code yX12_isRing F_X12_isRing.2.1 F_X12_isRing.2.2.1 (some .boolean)) 1 := ⟨w_1938, w_13, ⟨by decide, by decide⟩, by decide +kernel, by decide⟩
theorem m_X12_isThere : LkM yX12_isThere F_X12_isThere (.code yX12_isThere F_X12_isThere.2.1 F_X12_isThere.2.2.1 (some .boolean)) 1 := ⟨w_1792, w_13, ⟨by decide, by decide⟩, by decide +kernel, by decide⟩
theorem m_X12_isTold : LkM yX12_isTold F_X12_isTold (.code yX12_isTold F_X12_isTold.2.1 F_X12_isTold.2.2.1 (some .boolean)) 0 := ⟨w_2014, w_13, ⟨by decide, by decide⟩, by decide +kernel, by decide⟩
theorem m_X12_isWord : LkM yX12_isWord F_X12_isWord (.code yX12_isWord F_X12_isWord.2.1 F_X12_isWord.2.2.1 (some .boolean)) 1 := ⟨w_1575, w_13, ⟨by decide, by decide⟩, by decide +kernel, by decide⟩
theorem m_X12_keepsAll : LkM yX12_keepsAll F_X12_keepsAll (.code yX12_keepsAll F_X12_keepsAll.2.1 F_X12_keepsAll.2.2.1 none) 0 := ⟨w_1886, w_13, ⟨by decide, by decide⟩, by decide +kernel, by decide⟩
theorem m_X12_laceAt : LkM yX12_laceAt F_X12_laceAt (.code yX12_laceAt F_X12_laceAt.2.1 F_X12_laceAt.2.2.1 (some .int)) 2 := ⟨w_1453, w_13, ⟨by decide, by decide⟩, by decide +kernel, by decide⟩
theorem m_X12_laces : LkM yX12_laces F_X12_laces (.code yX12_laces F_X12_laces.2.1 F_X12_laces.2.2.1 (some .int)) 0 := ⟨w_1607, w_13, ⟨by decide, by decide⟩, by decide +kernel, by decide⟩
theorem m_X12_laysLeast : LkM yX12_laysLeast F_X12_laysLeast (.code yX12_laysLeast F_X12_laysLeast.2.1 F_X12_laysLeast.2.2.1 none) 0 := ⟨w_1911, w_13, ⟨by decide, by decide⟩, by decide +kernel, by decide⟩
theorem m_X12_leadsFrom : LkM yX12_leadsFrom F_X12_leadsFrom (.code yX12_leadsFrom F_X12_leadsFrom.2.1 F_X12_leadsFrom.2.2.1 (some .int)) 1 := ⟨w_1950, w_13, ⟨by decide, by decide⟩, by decide +kernel, by decide⟩
theorem m_X12_leastBy : LkM yX12_leastBy F_X12_leastBy (.code yX12_leastBy F_X12_leastBy.2.1 F_X12_leastBy.2.2.1 (some .int)) 3 := ⟨w_1918, w_13, ⟨by decide, by decide⟩, by decide +kernel, by decide⟩
theorem m_X12_leastOf : LkM yX12_leastOf F_X12_leastOf (.code yX12_leastOf F_X12_leastOf.2.1 F_X12_leastOf.2.2.1 (some .int)) 2 := ⟨w_1922, w_13, ⟨by decide, by decide⟩, by decide +kernel, by decide⟩
theorem m_X12_letters : LkM yX12_letters F_X12_letters (.code yX12_letters F_X12_letters.2.1 F_X12_letters.2.2.1 none) 0 := ⟨w_1566, w_13, ⟨by decide, by decide⟩, by decide +kernel, by decide⟩
theorem m_X12_lostOnes : LkM yX12_lostOnes F_X12_lostOnes (.code yX12_lostOnes F_X12_lostOnes.2.1 F_X12_lostOnes.2.2.1 (some .int)) 0 := ⟨w_1740, w_13, ⟨by decide, by decide⟩, by decide +kernel, by decide⟩
theorem m_X12_noLace : LkM yX12_noLace F_X12_noLace (.code yX12_noLace F_X12_noLace.2.1 F_X12_noLace.2.2.1 (some .boolean)) 1 := ⟨w_1753, w_13, ⟨by decide, by decide⟩, by decide +kernel, by decide⟩
theorem m_X12_noPerson : LkM yX12_noPerson F_X12_noPerson (.code yX12_noPerson F_X12_noPerson.2.1 F_X12_noPerson.2.2.1 (some .boolean)) 1 := ⟨w_1709, w_13, ⟨by decide, by decide⟩, by decide +kernel, by decide⟩
theorem m_X12_noPlace : LkM yX12_noPlace F_X12_noPlace (.code yX12_noPlace F_X12_noPlace.2.1 F_X12_noPlace.2.2.1 (some .boolean)) 1 := ⟨w_1760, w_13, ⟨by decide, by decide⟩, by decide +kernel, by decide⟩
theorem m_X12_number : LkM yX12_number F_X12_number (.code yX12_number F_X12_number.2.1 F_X12_number.2.2.1 (some .int)) 2 := ⟨w_1589, w_13, ⟨by decide, by decide⟩, by decide +kernel, by decide⟩
theorem m_X12_of : LkM yX12_of F_X12_of (.code yX12_of F_X12_of.2.1 F_X12_of.2.2.1 (some .int)) 2 := ⟨w_1732, w_13, ⟨by decide, by decide⟩, by decide +kernel, by decide⟩
theorem m_X12_ofLace : LkM yX12_ofLace F_X12_ofLace (.code yX12_ofLace F_X12_ofLace.2.1 F_X12_ofLace.2.2.1 (some .int)) 2 := ⟨w_1615, w_13, ⟨by decide, by decide⟩, by decide +kernel, by decide⟩
theorem m_X12_ofLog : LkM yX12_ofLog F_X12_ofLog (.code yX12_ofLog F_X12_ofLog.2.1 F_X12_ofLog.2.2.1 (some .int)) 2 := ⟨w_2062, w_13, ⟨by decide, by decide⟩, by decide +kernel, by decide⟩
theorem m_X12_oneDay : LkM yX12_oneDay F_X12_oneDay (.code yX12_oneDay F_X12_oneDay.2.1 F_X12_oneDay.2.2.1 none) 1 := ⟨w_1854, w_13, ⟨by decide, by decide⟩, by decide +kernel, by decide⟩
theorem m_X12_owesOf : LkM yX12_owesOf F_X12_owesOf (.code yX12_owesOf F_X12_owesOf.2.1 F_X12_owesOf.2.2.1 (some .int)) 1 := ⟨w_1720, w_13, ⟨by decide, by decide⟩, by decide +kernel, by decide⟩
theorem m_X12_ownerOf : LkM yX12_ownerOf F_X12_ownerOf (.code yX12_ownerOf F_X12_ownerOf.2.1 F_X12_ownerOf.2.2.1 (some .int)) 1 := ⟨w_1619, w_13, ⟨by decide, by decide⟩, by decide +kernel, by decide⟩
theorem m_X12_passes : LkM yX12_passes F_X12_passes (.code yX12_passes F_X12_passes.2.1 F_X12_passes.2.2.1 (some .boolean)) 1 := ⟨w_1627, w_13, ⟨by decide, by decide⟩, by decide +kernel, by decide⟩
theorem m_X12_people : LkM yX12_people F_X12_people (.code yX12_people F_X12_people.2.1 F_X12_people.2.2.1 (some .int)) 0 := ⟨w_1585, w_13, ⟨by decide, by decide⟩, by decide +kernel, by decide⟩
theorem m_X12_pledgedOnes : LkM yX12_pledgedOnes F_X12_pledgedOnes (.code yX12_pledgedOnes F_X12_pledgedOnes.2.1 F_X12_pledgedOnes.2.2.1 (some .int)) 0 := ⟨w_1934, w_13, ⟨by decide, by decide⟩, by decide +kernel, by decide⟩
theorem m_X12_pursesOfAll : LkM yX12_pursesOfAll F_X12_pursesOfAll (.code yX12_pursesOfAll F_X12_pursesOfAll.2.1 F_X12_pursesOfAll.2.2.1 (some .int)) 0 := ⟨w_2078, w_13, ⟨by decide, by decide⟩, by decide +kernel, by decide⟩
theorem m_X12_readAll : LkM yX12_readAll F_X12_readAll (.code yX12_readAll F_X12_readAll.2.1 F_X12_readAll.2.2.1 (some .int)) 1 := ⟨w_1546, w_13, ⟨by decide, by decide⟩, by decide +kernel, by decide⟩
theorem m_X12_readAllOf {k : Nat} : LkM yX12_readAllOf (F_X12_readAllOf k) (.code yX12_readAllOf (F_X12_readAllOf k).2.1 (F_X12_readAllOf k).2.2.1 (some .boolean)) 0 := ⟨w_1659, w_13, ⟨by decide, by decide⟩, by decide +kernel, Nat.le_of_ble_eq_true rfl⟩
theorem m_X12_readAtom {k : Nat} : LkM yX12_readAtom (F_X12_readAtom k) (.code yX12_readAtom (F_X12_readAtom k).2.1 (F_X12_readAtom k).2.2.1 (some .boolean)) 0 := ⟨w_1663, w_13, ⟨by decide, by decide⟩, by decide +kernel, Nat.le_of_ble_eq_true rfl⟩
theorem m_X12_readCond {k : Nat} : LkM yX12_readCond (F_X12_readCond k) (.code yX12_readCond (F_X12_readCond k).2.1 (F_X12_readCond k).2.2.1 (some .boolean)) 0 := ⟨w_1655, w_13, ⟨by decide, by decide⟩, by decide +kernel, Nat.le_of_ble_eq_true rfl⟩
theorem m_X12_readGoal : LkM yX12_readGoal F_X12_readGoal (.code yX12_readGoal F_X12_readGoal.2.1 F_X12_readGoal.2.2.1 (some .boolean)) 0 := ⟨w_1641, w_13, ⟨by decide, by decide⟩, by decide +kernel, by decide⟩
theorem m_X12_readLandLine : LkM yX12_readLandLine F_X12_readLandLine (.code yX12_readLandLine F_X12_readLandLine.2.1 F_X12_readLandLine.2.2.1 (some .boolean)) 0 := ⟨w_1570, w_13, ⟨by decide, by decide⟩, by decide +kernel, by decide⟩
theorem m_X12_readLawLine : LkM yX12_readLawLine F_X12_readLawLine (.code yX12_readLawLine F_X12_readLawLine.2.1 F_X12_readLawLine.2.2.1 (some .boolean)) 1 := ⟨w_1647, w_13, ⟨by decide, by decide⟩, by decide +kernel, by decide⟩
theorem m_X12_readLine : LkM yX12_readLine F_X12_readLine (.code yX12_readLine F_X12_readLine.2.1 F_X12_readLine.2.2.1 (some .boolean)) 2 := ⟨w_1562, w_13, ⟨by decide, by decide⟩, by decide +kernel, by decide⟩
theorem m_X12_readMud : LkM yX12_readMud F_X12_readMud (.code yX12_readMud F_X12_readMud.2.1 F_X12_readMud.2.2.1 (some .boolean)) 0 := ⟨w_1632, w_13, ⟨by decide, by decide⟩, by decide +kernel, by decide⟩
theorem m_X12_readNumber : LkM yX12_readNumber F_X12_readNumber (.code yX12_readNumber F_X12_readNumber.2.1 F_X12_readNumber.2.2.1 (some .boolean)) 2 := ⟨w_1636, w_13, ⟨by decide, by decide⟩, by decide +kernel, by decide⟩
theorem m_X12_readPart : LkM yX12_readPart F_X12_readPart (.code yX12_readPart F_X12_readPart.2.1 F_X12_readPart.2.2.1 (some .boolean)) 0 := ⟨w_1686, w_13, ⟨by decide, by decide⟩, by decide +kernel, by decide⟩
theorem m_X12_readPerson : LkM yX12_readPerson F_X12_readPerson (.code yX12_readPerson F_X12_readPerson.2.1 F_X12_readPerson.2.2.1 (some .boolean)) 0 := ⟨w_1581, w_13, ⟨by decide, by decide⟩, by decide +kernel, by decide⟩
theorem m_X12_readPledge : LkM yX12_readPledge F_X12_readPledge (.code yX12_readPledge F_X12_readPledge.2.1 F_X12_readPledge.2.2.1 (some .boolean)) 0 := ⟨w_1603, w_13, ⟨by decide, by decide⟩, by decide +kernel, by decide⟩
theorem m_X12_readSum : LkM yX12_readSum F_X12_readSum (.code yX12_readSum F_X12_readSum.2.1 F_X12_readSum.2.2.1 (some .boolean)) 0 := ⟨w_1682, w_13, ⟨by decide, by decide⟩, by decide +kernel, by decide⟩
theorem m_X12_readTag : LkM yX12_readTag F_X12_readTag (.code yX12_readTag F_X12_readTag.2.1 F_X12_readTag.2.2.1 (some .boolean)) 0 := ⟨w_1676, w_13, ⟨by decide, by decide⟩, by decide +kernel, by decide⟩
theorem m_X12_remembers : LkM yX12_remembers F_X12_remembers (.code yX12_remembers F_X12_remembers.2.1 F_X12_remembers.2.2.1 none) 0 := ⟨w_1814, w_13, ⟨by decide, by decide⟩, by decide +kernel, by decide⟩
theorem m_X12_shareOf : LkM yX12_shareOf F_X12_shareOf (.code yX12_shareOf F_X12_shareOf.2.1 F_X12_shareOf.2.2.1 (some .int)) 1 := ⟨w_1736, w_13, ⟨by decide, by decide⟩, by decide +kernel, by decide⟩
theorem m_X12_sign : LkM yX12_sign F_X12_sign (.code yX12_sign F_X12_sign.2.1 F_X12_sign.2.2.1 (some .boolean)) 1 := ⟨w_1667, w_13, ⟨by decide, by decide⟩, by decide +kernel, by decide⟩
theorem m_X12_slackOf : LkM yX12_slackOf F_X12_slackOf (.code yX12_slackOf F_X12_slackOf.2.1 F_X12_slackOf.2.2.1 (some .int)) 1 := ⟨w_1788, w_13, ⟨by decide, by decide⟩, by decide +kernel, by decide⟩
theorem m_X12_sumOf : LkM yX12_sumOf F_X12_sumOf (.code yX12_sumOf F_X12_sumOf.2.1 F_X12_sumOf.2.2.1 (some .int)) 2 := ⟨w_1776, w_13, ⟨by decide, by decide⟩, by decide +kernel, by decide⟩
theorem m_X12_tells : LkM yX12_tells F_X12_tells (.code yX12_tells F_X12_tells.2.1 F_X12_tells.2.2.1 none) 3 := ⟨w_1822, w_13, ⟨by decide, by decide⟩, by decide +kernel, by decide⟩
theorem m_X12_tellsLace : LkM yX12_tellsLace F_X12_tellsLace (.code yX12_tellsLace F_X12_tellsLace.2.1 F_X12_tellsLace.2.2.1 none) 6 := ⟨w_1450, w_13, ⟨by decide, by decide⟩, by decide +kernel, by decide⟩
theorem m_X12_throwsIf : LkM yX12_throwsIf F_X12_throwsIf (.code yX12_throwsIf F_X12_throwsIf.2.1 F_X12_throwsIf.2.2.1 (some .boolean)) 2 := ⟨w_1697, w_13, ⟨by decide, by decide⟩, by decide +kernel, by decide⟩
theorem m_X12_uses : LkM yX12_uses F_X12_uses (.code yX12_uses F_X12_uses.2.1 F_X12_uses.2.2.1 none) 0 := ⟨w_1550, w_13, ⟨by decide, by decide⟩, by decide +kernel, by decide⟩
theorem m_X12_walksBy : LkM yX12_walksBy F_X12_walksBy (.code yX12_walksBy F_X12_walksBy.2.1 F_X12_walksBy.2.2.1 (some .int)) 1 := ⟨w_1768, w_13, ⟨by decide, by decide⟩, by decide +kernel, by decide⟩
theorem m_X12_walksOn : LkM yX12_walksOn F_X12_walksOn (.code yX12_walksOn F_X12_walksOn.2.1 F_X12_walksOn.2.2.1 none) 1 := ⟨w_1867, w_13, ⟨by decide, by decide⟩, by decide +kernel, by decide⟩
theorem m_X1_add : LkM yX1_add F_X1_add (.code yX1_add F_X1_add.2.1 F_X1_add.2.2.1 none) 4 := ⟨w_1072, w_4, ⟨by decide, by decide⟩, by decide +kernel, by decide⟩
theorem m_X1_amountAt : LkM yX1_amountAt F_X1_amountAt (.code yX1_amountAt F_X1_amountAt.2.1 F_X1_amountAt.2.2.1 (some .int)) 1 := ⟨w_1432, w_4, ⟨by decide, by decide⟩, by decide +kernel, by decide⟩
theorem m_X1_copyFrom : LkM yX1_copyFrom F_X1_copyFrom (.code yX1_copyFrom F_X1_copyFrom.2.1 F_X1_copyFrom.2.2.1 none) 1 := ⟨w_551, w_4, ⟨by decide, by decide⟩, by decide +kernel, by decide⟩
theorem m_X1_dayAt : LkM yX1_dayAt F_X1_dayAt (.code yX1_dayAt F_X1_dayAt.2.1 F_X1_dayAt.2.2.1 (some .int)) 1 := ⟨w_1410, w_4, ⟨by decide, by decide⟩, by decide +kernel, by decide⟩
theorem m_X1_laceAt : LkM yX1_laceAt F_X1_laceAt (.code yX1_laceAt F_X1_laceAt.2.1 F_X1_laceAt.2.2.1 (some .int)) 1 := ⟨w_1399, w_4, ⟨by decide, by decide⟩, by decide +kernel, by decide⟩
theorem m_X1_latestDayOf : LkM yX1_latestDayOf F_X1_latestDayOf (.code yX1_latestDayOf F_X1_latestDayOf.2.1 F_X1_latestDayOf.2.2.1 (some .int)) 1 := ⟨w_1395, w_4, ⟨by decide, by decide⟩, by decide +kernel, by decide⟩
theorem m_X1_rowAt : LkM yX1_rowAt F_X1_rowAt (.code yX1_rowAt F_X1_rowAt.2.1 F_X1_rowAt.2.2.1 (some .int)) 1 := ⟨w_1403, w_4, ⟨by decide, by decide⟩, by decide +kernel, by decide⟩
theorem m_X1_rowsOf : LkM yX1_rowsOf F_X1_rowsOf (.code yX1_rowsOf F_X1_rowsOf.2.1 F_X1_rowsOf.2.2.1 (some .int)) 1 := ⟨w_1414, w_4, ⟨by decide, by decide⟩, by decide +kernel, by decide⟩
theorem m_X1_whatAt : LkM yX1_whatAt F_X1_whatAt (.code yX1_whatAt F_X1_whatAt.2.1 F_X1_whatAt.2.2.1 (some .int)) 1 := ⟨w_1428, w_4, ⟨by decide, by decide⟩, by decide +kernel, by decide⟩
theorem m_X2_addPerson : LkM yX2_addPerson F_X2_addPerson (.code yX2_addPerson F_X2_addPerson.2.1 F_X2_addPerson.2.2.1 none) 3 := ⟨w_703, w_3, ⟨by decide, by decide⟩, by decide +kernel, by decide⟩
theorem m_X2_allPurses : LkM yX2_allPurses F_X2_allPurses (.code yX2_allPurses F_X2_allPurses.2.1 F_X2_allPurses.2.2.1 (some .int)) 0 := ⟨w_578, w_3, ⟨by decide, by decide⟩, by decide +kernel, by decide⟩
theorem m_X2_amountOf : LkM yX2_amountOf F_X2_amountOf (.code yX2_amountOf F_X2_amountOf.2.1 F_X2_amountOf.2.2.1 (some .int)) 1 := ⟨w_410, w_3, ⟨by decide, by decide⟩, by decide +kernel, by decide⟩
theorem m_X2_betterCall : LkM yX2_betterCall F_X2_betterCall (.code yX2_betterCall F_X2_betterCall.2.1 F_X2_betterCall.2.2.1 (some .int)) 3 := ⟨w_1278, w_3, ⟨by decide, by decide⟩, by decide +kernel, by decide⟩
theorem m_X2_callable : LkM yX2_callable F_X2_callable (.code yX2_callable F_X2_callable.2.1 F_X2_callable.2.2.1 (some .int)) 2 := ⟨w_1270, w_3, ⟨by decide, by decide⟩, by decide +kernel, by decide⟩
theorem m_X2_copyFrom : LkM yX2_copyFrom F_X2_copyFrom (.code yX2_copyFrom F_X2_copyFrom.2.1 F_X2_copyFrom.2.2.1 none) 1 := ⟨w_544, w_3, ⟨by decide, by decide⟩, by decide +kernel, by decide⟩
theorem m_X2_creditorOf : LkM yX2_creditorOf F_X2_creditorOf (.code yX2_creditorOf F_X2_creditorOf.2.1 F_X2_creditorOf.2.2.1 (some .int)) 1 := ⟨w_1251, w_3, ⟨by decide, by decide⟩, by decide +kernel, by decide⟩
theorem m_X2_creditorsOf : LkM yX2_creditorsOf F_X2_creditorsOf (.code yX2_creditorsOf F_X2_creditorsOf.2.1 F_X2_creditorsOf.2.2.1 (some .int)) 1 := ⟨w_1243, w_3, ⟨by decide, by decide⟩, by decide +kernel, by decide⟩
theorem m_X2_directCreditorsOf : LkM yX2_directCreditorsOf F_X2_directCreditorsOf (.code yX2_directCreditorsOf F_X2_directCreditorsOf.2.1 F_X2_directCreditorsOf.2.2.1 (some .int)) 1 := ⟨w_1247, w_3, ⟨by decide, by decide⟩, by decide +kernel, by decide⟩
theorem m_X2_draw : LkM yX2_draw F_X2_draw (.code yX2_draw F_X2_draw.2.1 F_X2_draw.2.2.1 (some .int)) 0 := ⟨w_1143, w_3, ⟨by decide, by decide⟩, by decide +kernel, by decide⟩
theorem m_X2_dueTo : LkM yX2_dueTo F_X2_dueTo (.code yX2_dueTo F_X2_dueTo.2.1 F_X2_dueTo.2.2.1 (some .int)) 1 := ⟨w_958, w_3, ⟨by decide, by decide⟩, by decide +kernel, by decide⟩
theorem m_X2_earn : LkM yX2_earn F_X2_earn (.code yX2_earn F_X2_earn.2.1 F_X2_earn.2.2.1 none) 2 := ⟨w_1067, w_3, ⟨by decide, by decide⟩, by decide +kernel, by decide⟩
theorem m_X2_fall : LkM yX2_fall F_X2_fall (.code yX2_fall F_X2_fall.2.1 F_X2_fall.2.2.1 none) 1 := ⟨w_1149, w_3, ⟨by decide, by decide⟩, by decide +kernel, by decide⟩
theorem m_X2_fallOf : LkM yX2_fallOf F_X2_fallOf (.code yX2_fallOf F_X2_fallOf.2.1 F_X2_fallOf.2.2.1 (some .int)) 2 := ⟨w_1016, w_3, ⟨by decide, by decide⟩, by decide +kernel, by decide⟩
theorem m_X2_gaitOf : LkM yX2_gaitOf F_X2_gaitOf (.code yX2_gaitOf F_X2_gaitOf.2.1 F_X2_gaitOf.2.2.1 (some .int)) 1 := ⟨w_499, w_3, ⟨by decide, by decide⟩, by decide +kernel, by decide⟩
theorem m_X2_growthOf : LkM yX2_growthOf F_X2_growthOf (.code yX2_growthOf F_X2_growthOf.2.1 F_X2_growthOf.2.2.1 (some .int)) 2 := ⟨w_1032, w_3, ⟨by decide, by decide⟩, by decide +kernel, by decide⟩
theorem m_X2_hangingOn : LkM yX2_hangingOn F_X2_hangingOn (.code yX2_hangingOn F_X2_hangingOn.2.1 F_X2_hangingOn.2.2.1 (some .int)) 1 := ⟨w_464, w_3, ⟨by decide, by decide⟩, by decide +kernel, by decide⟩
theorem m_X2_heldBy : LkM yX2_heldBy F_X2_heldBy (.code yX2_heldBy F_X2_heldBy.2.1 F_X2_heldBy.2.2.1 (some .int)) 1 := ⟨w_504, w_3, ⟨by decide, by decide⟩, by decide +kernel, by decide⟩
theorem m_X2_isInEachPledge : LkM yX2_isInEachPledge F_X2_isInEachPledge (.code yX2_isInEachPledge F_X2_isInEachPledge.2.1 F_X2_isInEachPledge.2.2.1 (some .boolean)) 1 := ⟨w_473, w_3, ⟨by decide, by decide⟩, by decide +kernel, by decide⟩
theorem m_X2_isPledged : LkM yX2_isPledged F_X2_isPledged (.code yX2_isPledged F_X2_isPledged.2.1 F_X2_isPledged.2.2.1 (some .boolean)) 1 := ⟨w_429, w_3, ⟨by decide, by decide⟩, by decide +kernel, by decide⟩
theorem m_X2_laceFor : LkM yX2_laceFor F_X2_laceFor (.code yX2_laceFor F_X2_laceFor.2.1 F_X2_laceFor.2.2.1 (some .int)) 2 := ⟨w_1274, w_3, ⟨by decide, by decide⟩, by decide +kernel, by decide⟩
theorem m_X2_lacesThatAre : LkM yX2_lacesThatAre F_X2_lacesThatAre (.code yX2_lacesThatAre F_X2_lacesThatAre.2.1 F_X2_lacesThatAre.2.2.1 (some .int)) 1 := ⟨w_528, w_3, ⟨by decide, by decide⟩, by decide +kernel, by decide⟩
theorem m_X2_letGo : LkM yX2_letGo F_X2_letGo (.code yX2_letGo F_X2_letGo.2.1 F_X2_letGo.2.2.1 none) 3 := ⟨w_707, w_3, ⟨by decide, by decide⟩, by decide +kernel, by decide⟩
theorem m_X2_liveOn : LkM yX2_liveOn F_X2_liveOn (.code yX2_liveOn F_X2_liveOn.2.1 F_X2_liveOn.2.2.1 (some .int)) 3 := ⟨w_1135, w_3, ⟨by decide, by decide⟩, by decide +kernel, by decide⟩
theorem m_X2_owedBy : LkM yX2_owedBy F_X2_owedBy (.code yX2_owedBy F_X2_owedBy.2.1 F_X2_owedBy.2.2.1 (some .int)) 1 := ⟨w_403, w_3, ⟨by decide, by decide⟩, by decide +kernel, by decide⟩
theorem m_X2_partiesOf : LkM yX2_partiesOf F_X2_partiesOf (.code yX2_partiesOf F_X2_partiesOf.2.1 F_X2_partiesOf.2.2.1 (some .int)) 1 := ⟨w_478, w_3, ⟨by decide, by decide⟩, by decide +kernel, by decide⟩
theorem m_X2_payOff : LkM yX2_payOff F_X2_payOff (.code yX2_payOff F_X2_payOff.2.1 F_X2_payOff.2.2.1 none) 2 := ⟨w_1085, w_3, ⟨by decide, by decide⟩, by decide +kernel, by decide⟩
theorem m_X2_pledge : LkM yX2_pledge F_X2_pledge (.code yX2_pledge F_X2_pledge.2.1 F_X2_pledge.2.2.1 none) 6 := ⟨w_730, w_3, ⟨by decide, by decide⟩, by decide +kernel, by decide⟩
theorem m_X2_settle : LkM yX2_settle F_X2_settle (.code yX2_settle F_X2_settle.2.1 F_X2_settle.2.2.1 none) 1 := ⟨w_1159, w_3, ⟨by decide, by decide⟩, by decide +kernel, by decide⟩
theorem m_X2_shareOf : LkM yX2_shareOf F_X2_shareOf (.code yX2_shareOf F_X2_shareOf.2.1 F_X2_shareOf.2.2.1 (some .int)) 1 := ⟨w_963, w_3, ⟨by decide, by decide⟩, by decide +kernel, by decide⟩
theorem m_X2_slackOf : LkM yX2_slackOf F_X2_slackOf (.code yX2_slackOf F_X2_slackOf.2.1 F_X2_slackOf.2.2.1 (some .int)) 1 := ⟨w_515, w_3, ⟨by decide, by decide⟩, by decide +kernel, by decide⟩
theorem m_X2_walk : LkM yX2_walk F_X2_walk (.code yX2_walk F_X2_walk.2.1 F_X2_walk.2.2.1 none) 2 := ⟨w_1154, w_3, ⟨by decide, by decide⟩, by decide +kernel, by decide⟩
theorem m_X2_walkAll : LkM yX2_walkAll F_X2_walkAll (.code yX2_walkAll F_X2_walkAll.2.1 F_X2_walkAll.2.2.1 (some .int)) 2 := ⟨w_1139, w_3, ⟨by decide, by decide⟩, by decide +kernel, by decide⟩
theorem m_X2_walkOf : LkM yX2_walkOf F_X2_walkOf (.code yX2_walkOf F_X2_walkOf.2.1 F_X2_walkOf.2.2.1 (some .int)) 2 := ⟨w_487, w_3, ⟨by decide, by decide⟩, by decide +kernel, by decide⟩
theorem m_X3_readGoal : LkM yX3_readGoal F_X3_readGoal (.code yX3_readGoal F_X3_readGoal.2.1 F_X3_readGoal.2.2.1 none) 0 := ⟨w_740, w_7, ⟨by decide, by decide⟩, by decide +kernel, by decide⟩
theorem m_X3_readLine : LkM yX3_readLine F_X3_readLine (.code yX3_readLine F_X3_readLine.2.1 F_X3_readLine.2.2.1 none) 0 := ⟨w_615, w_7, ⟨by decide, by decide⟩, by decide +kernel, by decide⟩
theorem m_X3_readMud : LkM yX3_readMud F_X3_readMud (.code yX3_readMud F_X3_readMud.2.1 F_X3_readMud.2.2.1 none) 0 := ⟨w_735, w_7, ⟨by decide, by decide⟩, by decide +kernel, by decide⟩
theorem m_X3_readPerson : LkM yX3_readPerson F_X3_readPerson (.code yX3_readPerson F_X3_readPerson.2.1 F_X3_readPerson.2.2.1 none) 1 := ⟨w_676, w_7, ⟨by decide, by decide⟩, by decide +kernel, by decide⟩
theorem m_X3_readPledge : LkM yX3_readPledge F_X3_readPledge (.code yX3_readPledge F_X3_readPledge.2.1 F_X3_readPledge.2.2.1 none) 0 := ⟨w_712, w_7, ⟨by decide, by decide⟩, by decide +kernel, by decide⟩
theorem m_X3_takeLaceInShoe : LkM yX3_takeLaceInShoe F_X3_takeLaceInShoe (.code yX3_takeLaceInShoe F_X3_takeLaceInShoe.2.1 F_X3_takeLaceInShoe.2.2.1 (some .int)) 0 := ⟨w_716, w_7, ⟨by decide, by decide⟩, by decide +kernel, by decide⟩
theorem m_X3_takeOther : LkM yX3_takeOther F_X3_takeOther (.code yX3_takeOther F_X3_takeOther.2.1 F_X3_takeOther.2.2.1 (some .int)) 2 := ⟨w_722, w_7, ⟨by decide, by decide⟩, by decide +kernel, by decide⟩
theorem m_X4_addStep : LkM yX4_addStep F_X4_addStep (.code yX4_addStep F_X4_addStep.2.1 F_X4_addStep.2.2.1 none) 1 := ⟨w_778, w_5, ⟨by decide, by decide⟩, by decide +kernel, by decide⟩
theorem m_X4_ask : LkM yX4_ask F_X4_ask (.code yX4_ask F_X4_ask.2.1 F_X4_ask.2.2.1 none) 2 := ⟨w_495, w_5, ⟨by decide, by decide⟩, by decide +kernel, by decide⟩
theorem m_X4_clear : LkM yX4_clear F_X4_clear (.code yX4_clear F_X4_clear.2.1 F_X4_clear.2.2.1 none) 0 := ⟨w_918, w_5, ⟨by decide, by decide⟩, by decide +kernel, by decide⟩
theorem m_X4_closeLine : LkM yX4_closeLine F_X4_closeLine (.code yX4_closeLine F_X4_closeLine.2.1 F_X4_closeLine.2.2.1 none) 0 := ⟨w_818, w_5, ⟨by decide, by decide⟩, by decide +kernel, by decide⟩
theorem m_X4_copyFrom : LkM yX4_copyFrom F_X4_copyFrom (.code yX4_copyFrom F_X4_copyFrom.2.1 F_X4_copyFrom.2.2.1 none) 1 := ⟨w_561, w_5, ⟨by decide, by decide⟩, by decide +kernel, by decide⟩
theorem m_X4_holds : LkM yX4_holds F_X4_holds (.code yX4_holds F_X4_holds.2.1 F_X4_holds.2.2.1 (some .boolean)) 1 := ⟨w_508, w_5, ⟨by decide, by decide⟩, by decide +kernel, by decide⟩
theorem m_X4_joined : LkM yX4_joined F_X4_joined (.code yX4_joined F_X4_joined.2.1 F_X4_joined.2.2.1 (some .int)) 3 := ⟨w_511, w_5, ⟨by decide, by decide⟩, by decide +kernel, by decide⟩
theorem m_X4_openLine : LkM yX4_openLine F_X4_openLine (.code yX4_openLine F_X4_openLine.2.1 F_X4_openLine.2.2.1 none) 2 := ⟨w_759, w_5, ⟨by decide, by decide⟩, by decide +kernel, by decide⟩
theorem m_X4_sumOf : LkM yX4_sumOf F_X4_sumOf (.code yX4_sumOf F_X4_sumOf.2.1 F_X4_sumOf.2.2.1 (some .int)) 3 := ⟨w_491, w_5, ⟨by decide, by decide⟩, by decide +kernel, by decide⟩
theorem m_X5_readAny {k : Nat} : LkM yX5_readAny (F_X5_readAny k) (.code yX5_readAny (F_X5_readAny k).2.1 (F_X5_readAny k).2.2.1 none) 1 := ⟨w_764, w_8, ⟨by decide, by decide⟩, by decide +kernel, Nat.le_of_ble_eq_true rfl⟩
theorem m_X5_readAtom {k : Nat} : LkM yX5_readAtom (F_X5_readAtom k) (.code yX5_readAtom (F_X5_readAtom k).2.1 (F_X5_readAtom k).2.2.1 none) 1 := ⟨w_772, w_8, ⟨by decide, by decide⟩, by decide +kernel, Nat.le_of_ble_eq_true rfl⟩
theorem m_X5_readComparison : LkM yX5_readComparison F_X5_readComparison (.code yX5_readComparison F_X5_readComparison.2.1 F_X5_readComparison.2.2.1 none) 0 := ⟨w_793, w_8, ⟨by decide, by decide⟩, by decide +kernel, by decide⟩
theorem m_X5_readEach {k : Nat} : LkM yX5_readEach (F_X5_readEach k) (.code yX5_readEach (F_X5_readEach k).2.1 (F_X5_readEach k).2.2.1 none) 1 := ⟨w_768, w_8, ⟨by decide, by decide⟩, by decide +kernel, Nat.le_of_ble_eq_true rfl⟩
theorem m_X5_readLine : LkM yX5_readLine F_X5_readLine (.code yX5_readLine F_X5_readLine.2.1 F_X5_readLine.2.2.1 none) 0 := ⟨w_745, w_8, ⟨by decide, by decide⟩, by decide +kernel, by decide⟩
theorem m_X5_readPart : LkM yX5_readPart F_X5_readPart (.code yX5_readPart F_X5_readPart.2.1 F_X5_readPart.2.2.1 none) 0 := ⟨w_801, w_8, ⟨by decide, by decide⟩, by decide +kernel, by decide⟩
theorem m_X5_readSum : LkM yX5_readSum F_X5_readSum (.code yX5_readSum F_X5_readSum.2.1 F_X5_readSum.2.2.1 none) 0 := ⟨w_797, w_8, ⟨by decide, by decide⟩, by decide +kernel, by decide⟩
theorem m_X5_takeKind : LkM yX5_takeKind F_X5_takeKind (.code yX5_takeKind F_X5_takeKind.2.1 F_X5_takeKind.2.2.1 (some .int)) 0 := ⟨w_749, w_8, ⟨by decide, by decide⟩, by decide +kernel, by decide⟩
theorem m_X6_readAll_72 : LkM yX6_readAll F_X6_readAll_72 (.code yX6_readAll F_X6_readAll_72.2.1 F_X6_readAll_72.2.2.1 none) 0 := ⟨w_593, w_6, ⟨by decide, by decide⟩, by decide +kernel, Nat.le_of_ble_eq_true rfl⟩
theorem m_X6_readAll_73 : LkM yX6_readAll F_X6_readAll_73 (.code yX6_readAll F_X6_readAll_73.2.1 F_X6_readAll_73.2.2.1 none) 0 := ⟨w_593, w_6, ⟨by decide, by decide⟩, by decide +kernel, Nat.le_of_ble_eq_true rfl⟩
theorem m_X7_gather : LkM yX7_gather F_X7_gather (.code yX7_gather F_X7_gather.2.1 F_X7_gather.2.2.1 (some .int)) 1 := ⟨w_425, w_10, ⟨by decide, by decide⟩, by decide +kernel, by decide⟩
theorem m_X7_isBalanced : LkM yX7_isBalanced F_X7_isBalanced (.code yX7_isBalanced F_X7_isBalanced.2.1 F_X7_isBalanced.2.2.1 (some .boolean)) 0 := ⟨w_441, w_10, ⟨by decide, by decide⟩, by decide +kernel, by decide⟩
theorem m_X7_seek : LkM yX7_seek F_X7_seek (.code yX7_seek F_X7_seek.2.1 F_X7_seek.2.2.1 none) 1 := ⟨w_421, w_10, ⟨by decide, by decide⟩, by decide +kernel, by decide⟩
theorem m_X7_take : LkM yX7_take F_X7_take (.code yX7_take F_X7_take.2.1 F_X7_take.2.2.1 none) 1 := ⟨w_445, w_10, ⟨by decide, by decide⟩, by decide +kernel, by decide⟩
theorem m_X8_add : LkM yX8_add F_X8_add (.code yX8_add F_X8_add.2.1 F_X8_add.2.2.1 none) 1 := ⟨w_387, w_2, ⟨by decide, by decide⟩, by decide +kernel, by decide⟩
theorem m_X8_isAtNumber : LkM yX8_isAtNumber F_X8_isAtNumber (.code yX8_isAtNumber F_X8_isAtNumber.2.1 F_X8_isAtNumber.2.2.1 (some .boolean)) 0 := ⟨w_805, w_2, ⟨by decide, by decide⟩, by decide +kernel, by decide⟩
theorem m_X8_isOver : LkM yX8_isOver F_X8_isOver (.code yX8_isOver F_X8_isOver.2.1 F_X8_isOver.2.2.1 (some .boolean)) 0 := ⟨w_609, w_2, ⟨by decide, by decide⟩, by decide +kernel, by decide⟩
theorem m_X8_isRight : LkM yX8_isRight F_X8_isRight (.code yX8_isRight F_X8_isRight.2.1 F_X8_isRight.2.2.1 (some .boolean)) 0 := ⟨w_699, w_2, ⟨by decide, by decide⟩, by decide +kernel, by decide⟩
theorem m_X8_moveTo : LkM yX8_moveTo F_X8_moveTo (.code yX8_moveTo F_X8_moveTo.2.1 F_X8_moveTo.2.2.1 none) 1 := ⟨w_605, w_2, ⟨by decide, by decide⟩, by decide +kernel, by decide⟩
theorem m_X8_needSign : LkM yX8_needSign F_X8_needSign (.code yX8_needSign F_X8_needSign.2.1 F_X8_needSign.2.2.1 none) 1 := ⟨w_786, w_2, ⟨by decide, by decide⟩, by decide +kernel, by decide⟩
theorem m_X8_needWord : LkM yX8_needWord F_X8_needWord (.code yX8_needWord F_X8_needWord.2.1 F_X8_needWord.2.2.1 none) 1 := ⟨w_693, w_2, ⟨by decide, by decide⟩, by decide +kernel, by decide⟩
theorem m_X8_openText : LkM yX8_openText F_X8_openText (.code yX8_openText F_X8_openText.2.1 F_X8_openText.2.2.1 none) 0 := ⟨w_597, w_2, ⟨by decide, by decide⟩, by decide +kernel, by decide⟩
theorem m_X8_refuse : LkM yX8_refuse F_X8_refuse (.code yX8_refuse F_X8_refuse.2.1 F_X8_refuse.2.2.1 none) 1 := ⟨w_680, w_2, ⟨by decide, by decide⟩, by decide +kernel, by decide⟩
theorem m_X8_runOf : LkM yX8_runOf F_X8_runOf (.code yX8_runOf F_X8_runOf.2.1 F_X8_runOf.2.2.1 (some .int)) 2 := ⟨w_624, w_2, ⟨by decide, by decide⟩, by decide +kernel, by decide⟩
theorem m_X8_takeNumber : LkM yX8_takeNumber F_X8_takeNumber (.code yX8_takeNumber F_X8_takeNumber.2.1 F_X8_takeNumber.2.2.1 (some .int)) 2 := ⟨w_684, w_2, ⟨by decide, by decide⟩, by decide +kernel, by decide⟩
theorem m_X8_takesSign : LkM yX8_takesSign F_X8_takesSign (.code yX8_takesSign F_X8_takesSign.2.1 F_X8_takesSign.2.2.1 (some .boolean)) 1 := ⟨w_782, w_2, ⟨by decide, by decide⟩, by decide +kernel, by decide⟩
theorem m_X8_takesWord : LkM yX8_takesWord F_X8_takesWord (.code yX8_takesWord F_X8_takesWord.2.1 F_X8_takesWord.2.2.1 (some .boolean)) 1 := ⟨w_620, w_2, ⟨by decide, by decide⟩, by decide +kernel, by decide⟩
theorem m_X8_useUp : LkM yX8_useUp F_X8_useUp (.code yX8_useUp F_X8_useUp.2.1 F_X8_useUp.2.2.1 (some .int)) 0 := ⟨w_601, w_2, ⟨by decide, by decide⟩, by decide +kernel, by decide⟩
theorem m_X9_firstBest : LkM yX9_firstBest F_X9_firstBest (.code yX9_firstBest F_X9_firstBest.2.1 F_X9_firstBest.2.2.1 (some .int)) 1 := ⟨w_1219, w_11, ⟨by decide, by decide⟩, by decide +kernel, by decide⟩
theorem m_X9_leastOfAll : LkM yX9_leastOfAll F_X9_leastOfAll (.code yX9_leastOfAll F_X9_leastOfAll.2.1 F_X9_leastOfAll.2.2.1 (some .int)) 0 := ⟨w_1211, w_11, ⟨by decide, by decide⟩, by decide +kernel, by decide⟩
theorem m_X9_partOf : LkM yX9_partOf F_X9_partOf (.code yX9_partOf F_X9_partOf.2.1 F_X9_partOf.2.2.1 (some .int)) 1 := ⟨w_1215, w_11, ⟨by decide, by decide⟩, by decide +kernel, by decide⟩
theorem m_X9_tell : LkM yX9_tell F_X9_tell (.code yX9_tell F_X9_tell.2.1 F_X9_tell.2.2.1 none) 3 := ⟨w_1195, w_11, ⟨by decide, by decide⟩, by decide +kernel, by decide⟩
theorem m_X9_weigh : LkM yX9_weigh F_X9_weigh (.code yX9_weigh F_X9_weigh.2.1 F_X9_weigh.2.2.1 none) 1 := ⟨w_1200, w_11, ⟨by decide, by decide⟩, by decide +kernel, by decide⟩
theorem m_X9_with : LkM yX9_with F_X9_with (.code yX9_with F_X9_with.2.1 F_X9_with.2.2.1 (some .int)) 2 := ⟨w_1205, w_11, ⟨by decide, by decide⟩, by decide +kernel, by decide⟩
theorem tk_RX11_113_115_117 : Tk RX11 113 115 117 "java/lang/IllegalArgumentException" := ⟨by decide +kernel, w_822, w_22, ⟨"the text of the land is wrong", 30, sT_RX11_115⟩, gw_ins [(1, 19), (4, 124), (4, 133), (4, 139), (4, 142), (4, 144), (4, 125), (4, 126), (1, 35), (1, 36), (4, 127), (4, 132), (4, 140), (4, 160), (4, 114), (4, 161), (4, 116), (4, 162), (4, 118), (4, 128), (4, 130), (4, 120), (4, 156), (4, 157), (4, 159), (4, 120), (4, 147), (4, 148), (4, 149), (4, 150), (4, 150), (4, 151), (4, 152), (4, 153), (4, 153), (4, 154), (4, 155), (4, 156), (4, 146), (4, 103), (4, 111), (4, 112), (4, 113), (4, 115), (4, 117), (4, 119), (4, 123), (4, 122), (4, 121)] (by decide +kernel), by decide +kernel, by decide +kernel⟩
theorem tk_RX11_113_135_117 : Tk RX11 113 135 117 "java/lang/IllegalArgumentException" := ⟨by decide +kernel, w_822, w_22, ⟨"the text of the law is wrong", 31, sT_RX11_135⟩, gw_ins [(1, 19), (4, 124), (4, 133), (4, 139), (4, 142), (4, 144), (4, 125), (4, 126), (1, 35), (1, 36), (4, 127), (4, 132), (4, 140), (4, 160), (4, 114), (4, 161), (4, 116), (4, 162), (4, 118), (4, 128), (4, 130), (4, 120), (4, 156), (4, 157), (4, 159), (4, 120), (4, 147), (4, 148), (4, 149), (4, 150), (4, 150), (4, 151), (4, 152), (4, 153), (4, 153), (4, 154), (4, 155), (4, 156), (4, 146), (4, 103), (4, 111), (4, 112), (4, 113), (4, 115), (4, 117), (4, 119), (4, 123), (4, 122), (4, 121)] (by decide +kernel), by decide +kernel, by decide +kernel⟩
theorem tk_RX11_113_241_117 : Tk RX11 113 241 117 "java/lang/IllegalArgumentException" := ⟨by decide +kernel, w_822, w_22, ⟨"no such loan", 38, sT_RX11_241⟩, gw_ins [(1, 19), (4, 124), (4, 133), (4, 139), (4, 142), (4, 144), (4, 125), (4, 126), (1, 35), (1, 36), (4, 127), (4, 132), (4, 140), (4, 160), (4, 114), (4, 161), (4, 116), (4, 162), (4, 118), (4, 128), (4, 130), (4, 120), (4, 156), (4, 157), (4, 159), (4, 120), (4, 147), (4, 148), (4, 149), (4, 150), (4, 150), (4, 151), (4, 152), (4, 153), (4, 153), (4, 154), (4, 155), (4, 156), (4, 146), (4, 103), (4, 111), (4, 112), (4, 113), (4, 115), (4, 117), (4, 119), (4, 123), (4, 122), (4, 121)] (by decide +kernel), by decide +kernel, by decide +kernel⟩
theorem tk_RX11_113_276_117 : Tk RX11 113 276 117 "java/lang/IllegalArgumentException" := ⟨by decide +kernel, w_822, w_22, ⟨"owner and holder are no surety", 42, sT_RX11_276⟩, gw_ins [(1, 19), (4, 124), (4, 133), (4, 139), (4, 142), (4, 144), (4, 125), (4, 126), (1, 35), (1, 36), (4, 127), (4, 132), (4, 140), (4, 160), (4, 114), (4, 161), (4, 116), (4, 162), (4, 118), (4, 128), (4, 130), (4, 120), (4, 156), (4, 157), (4, 159), (4, 120), (4, 147), (4, 148), (4, 149), (4, 150), (4, 150), (4, 151), (4, 152), (4, 153), (4, 153), (4, 154), (4, 155), (4, 156), (4, 146), (4, 103), (4, 111), (4, 112), (4, 113), (4, 115), (4, 117), (4, 119), (4, 123), (4, 122), (4, 121)] (by decide +kernel), by decide +kernel, by decide +kernel⟩
theorem tk_RX11_113_281_117 : Tk RX11 113 281 117 "java/lang/IllegalArgumentException" := ⟨by decide +kernel, w_822, w_22, ⟨"it cannot be given to that one", 44, sT_RX11_281⟩, gw_ins [(1, 19), (4, 124), (4, 133), (4, 139), (4, 142), (4, 144), (4, 125), (4, 126), (1, 35), (1, 36), (4, 127), (4, 132), (4, 140), (4, 160), (4, 114), (4, 161), (4, 116), (4, 162), (4, 118), (4, 128), (4, 130), (4, 120), (4, 156), (4, 157), (4, 159), (4, 120), (4, 147), (4, 148), (4, 149), (4, 150), (4, 150), (4, 151), (4, 152), (4, 153), (4, 153), (4, 154), (4, 155), (4, 156), (4, 146), (4, 103), (4, 111), (4, 112), (4, 113), (4, 115), (4, 117), (4, 119), (4, 123), (4, 122), (4, 121)] (by decide +kernel), by decide +kernel, by decide +kernel⟩
theorem tk_RX11_113_285_117 : Tk RX11 113 285 117 "java/lang/IllegalArgumentException" := ⟨by decide +kernel, w_822, w_22, ⟨"no such days", 45, sT_RX11_285⟩, gw_ins [(1, 19), (4, 124), (4, 133), (4, 139), (4, 142), (4, 144), (4, 125), (4, 126), (1, 35), (1, 36), (4, 127), (4, 132), (4, 140), (4, 160), (4, 114), (4, 161), (4, 116), (4, 162), (4, 118), (4, 128), (4, 130), (4, 120), (4, 156), (4, 157), (4, 159), (4, 120), (4, 147), (4, 148), (4, 149), (4, 150), (4, 150), (4, 151), (4, 152), (4, 153), (4, 153), (4, 154), (4, 155), (4, 156), (4, 146), (4, 103), (4, 111), (4, 112), (4, 113), (4, 115), (4, 117), (4, 119), (4, 123), (4, 122), (4, 121)] (by decide +kernel), by decide +kernel, by decide +kernel⟩
theorem tk_RX11_113_305_117 : Tk RX11 113 305 117 "java/lang/IllegalArgumentException" := ⟨by decide +kernel, w_822, w_22, ⟨"not a place for each person", 46, sT_RX11_305⟩, gw_ins [(1, 19), (4, 124), (4, 133), (4, 139), (4, 142), (4, 144), (4, 125), (4, 126), (1, 35), (1, 36), (4, 127), (4, 132), (4, 140), (4, 160), (4, 114), (4, 161), (4, 116), (4, 162), (4, 118), (4, 128), (4, 130), (4, 120), (4, 156), (4, 157), (4, 159), (4, 120), (4, 147), (4, 148), (4, 149), (4, 150), (4, 150), (4, 151), (4, 152), (4, 153), (4, 153), (4, 154), (4, 155), (4, 156), (4, 146), (4, 103), (4, 111), (4, 112), (4, 113), (4, 115), (4, 117), (4, 119), (4, 123), (4, 122), (4, 121)] (by decide +kernel), by decide +kernel, by decide +kernel⟩
theorem tk_RX11_113_340_117 : Tk RX11 113 340 117 "java/lang/IllegalArgumentException" := ⟨by decide +kernel, w_822, w_22, ⟨"both are one", 48, sT_RX11_340⟩, gw_ins [(1, 19), (4, 124), (4, 133), (4, 139), (4, 142), (4, 144), (4, 125), (4, 126), (1, 35), (1, 36), (4, 127), (4, 132), (4, 140), (4, 160), (4, 114), (4, 161), (4, 116), (4, 162), (4, 118), (4, 128), (4, 130), (4, 120), (4, 156), (4, 157), (4, 159), (4, 120), (4, 147), (4, 148), (4, 149), (4, 150), (4, 150), (4, 151), (4, 152), (4, 153), (4, 153), (4, 154), (4, 155), (4, 156), (4, 146), (4, 103), (4, 111), (4, 112), (4, 113), (4, 115), (4, 117), (4, 119), (4, 123), (4, 122), (4, 121)] (by decide +kernel), by decide +kernel, by decide +kernel⟩
theorem tk_RX11_113_379_117 : Tk RX11 113 379 117 "java/lang/IllegalArgumentException" := ⟨by decide +kernel, w_822, w_22, ⟨"no such amount", 50, sT_RX11_379⟩, gw_ins [(1, 19), (4, 124), (4, 133), (4, 139), (4, 142), (4, 144), (4, 125), (4, 126), (1, 35), (1, 36), (4, 127), (4, 132), (4, 140), (4, 160), (4, 114), (4, 161), (4, 116), (4, 162), (4, 118), (4, 128), (4, 130), (4, 120), (4, 156), (4, 157), (4, 159), (4, 120), (4, 147), (4, 148), (4, 149), (4, 150), (4, 150), (4, 151), (4, 152), (4, 153), (4, 153), (4, 154), (4, 155), (4, 156), (4, 146), (4, 103), (4, 111), (4, 112), (4, 113), (4, 115), (4, 117), (4, 119), (4, 123), (4, 122), (4, 121)] (by decide +kernel), by decide +kernel, by decide +kernel⟩
theorem tk_RX11_113_441_117 : Tk RX11 113 441 117 "java/lang/IllegalArgumentException" := ⟨by decide +kernel, w_822, w_22, ⟨"no such days ahead", 47, sT_RX11_441⟩, gw_ins [(1, 19), (4, 124), (4, 133), (4, 139), (4, 142), (4, 144), (4, 125), (4, 126), (1, 35), (1, 36), (4, 127), (4, 132), (4, 140), (4, 160), (4, 114), (4, 161), (4, 116), (4, 162), (4, 118), (4, 128), (4, 130), (4, 120), (4, 156), (4, 157), (4, 159), (4, 120), (4, 147), (4, 148), (4, 149), (4, 150), (4, 150), (4, 151), (4, 152), (4, 153), (4, 153), (4, 154), (4, 155), (4, 156), (4, 146), (4, 103), (4, 111), (4, 112), (4, 113), (4, 115), (4, 117), (4, 119), (4, 123), (4, 122), (4, 121)] (by decide +kernel), by decide +kernel, by decide +kernel⟩
theorem tk_RX11_113_446_117 : Tk RX11 113 446 117 "java/lang/IllegalArgumentException" := ⟨by decide +kernel, w_822, w_22, ⟨"no rows of people", 49, sT_RX11_446⟩, gw_ins [(1, 19), (4, 124), (4, 133), (4, 139), (4, 142), (4, 144), (4, 125), (4, 126), (1, 35), (1, 36), (4, 127), (4, 132), (4, 140), (4, 160), (4, 114), (4, 161), (4, 116), (4, 162), (4, 118), (4, 128), (4, 130), (4, 120), (4, 156), (4, 157), (4, 159), (4, 120), (4, 147), (4, 148), (4, 149), (4, 150), (4, 150), (4, 151), (4, 152), (4, 153), (4, 153), (4, 154), (4, 155), (4, 156), (4, 146), (4, 103), (4, 111), (4, 112), (4, 113), (4, 115), (4, 117), (4, 119), (4, 123), (4, 122), (4, 121)] (by decide +kernel), by decide +kernel, by decide +kernel⟩
theorem tk_RX11_123_125_127 : Tk RX11 123 125 127 "java/lang/UnsupportedOperationException" := ⟨by decide +kernel, w_892, w_23, ⟨"there are 12 texts", 29, sT_RX11_125⟩, gw_ins [(1, 19), (4, 124), (4, 133), (4, 139), (4, 142), (4, 144), (4, 125), (4, 126), (1, 35), (1, 36), (4, 127), (4, 132), (4, 140), (4, 160), (4, 114), (4, 161), (4, 116), (4, 162), (4, 118), (4, 128), (4, 130), (4, 120), (4, 156), (4, 157), (4, 159), (4, 120), (4, 183), (4, 184), (4, 185), (4, 150), (4, 150), (4, 151), (4, 152), (4, 153), (4, 153), (4, 154), (4, 155), (4, 156), (4, 182), (4, 173), (4, 175), (4, 137), (4, 176), (4, 177), (4, 178), (4, 179), (4, 123), (4, 122), (4, 180)] (by decide +kernel), by decide +kernel, by decide +kernel⟩
theorem tk_RX11_184_186_188 : TkN RX11 184 186 188 := ⟨w_965, w_26, ⟨"no such thing of a person", 33, sT_RX11_186⟩, gw_ins [(1, 19), (4, 124), (4, 133), (4, 139), (4, 142), (4, 144), (4, 125), (4, 126), (1, 35), (1, 36), (4, 127), (4, 132), (4, 140), (4, 160), (4, 114), (4, 161), (4, 116), (4, 162), (4, 118), (4, 128), (4, 130), (4, 120), (4, 156), (4, 157), (4, 159), (4, 120), (5, 16), (5, 17), (5, 18), (4, 150), (4, 150), (4, 151), (4, 152), (4, 153), (4, 153), (4, 154), (4, 155), (4, 156), (5, 15), (5, 6), (5, 8), (4, 138), (5, 9), (5, 10), (5, 11), (5, 12), (4, 123), (4, 122), (5, 13)] (by decide +kernel), by decide +kernel, by decide +kernel⟩
theorem tk_RX11_184_210_188 : TkN RX11 184 210 188 := ⟨w_965, w_26, ⟨"no such thing of a lace", 35, sT_RX11_210⟩, gw_ins [(1, 19), (4, 124), (4, 133), (4, 139), (4, 142), (4, 144), (4, 125), (4, 126), (1, 35), (1, 36), (4, 127), (4, 132), (4, 140), (4, 160), (4, 114), (4, 161), (4, 116), (4, 162), (4, 118), (4, 128), (4, 130), (4, 120), (4, 156), (4, 157), (4, 159), (4, 120), (5, 16), (5, 17), (5, 18), (4, 150), (4, 150), (4, 151), (4, 152), (4, 153), (4, 153), (4, 154), (4, 155), (4, 156), (5, 15), (5, 6), (5, 8), (4, 138), (5, 9), (5, 10), (5, 11), (5, 12), (4, 123), (4, 122), (5, 13)] (by decide +kernel), by decide +kernel, by decide +kernel⟩
theorem tk_RX11_184_225_188 : TkN RX11 184 225 188 := ⟨w_965, w_26, ⟨"no such thing of a walk", 37, sT_RX11_225⟩, gw_ins [(1, 19), (4, 124), (4, 133), (4, 139), (4, 142), (4, 144), (4, 125), (4, 126), (1, 35), (1, 36), (4, 127), (4, 132), (4, 140), (4, 160), (4, 114), (4, 161), (4, 116), (4, 162), (4, 118), (4, 128), (4, 130), (4, 120), (4, 156), (4, 157), (4, 159), (4, 120), (5, 16), (5, 17), (5, 18), (4, 150), (4, 150), (4, 151), (4, 152), (4, 153), (4, 153), (4, 154), (4, 155), (4, 156), (5, 15), (5, 6), (5, 8), (4, 138), (5, 9), (5, 10), (5, 11), (5, 12), (4, 123), (4, 122), (5, 13)] (by decide +kernel), by decide +kernel, by decide +kernel⟩
theorem tk_RX11_184_401_188 : TkN RX11 184 401 188 := ⟨w_965, w_26, ⟨"no such thing of a row", 51, sT_RX11_401⟩, gw_ins [(1, 19), (4, 124), (4, 133), (4, 139), (4, 142), (4, 144), (4, 125), (4, 126), (1, 35), (1, 36), (4, 127), (4, 132), (4, 140), (4, 160), (4, 114), (4, 161), (4, 116), (4, 162), (4, 118), (4, 128), (4, 130), (4, 120), (4, 156), (4, 157), (4, 159), (4, 120), (5, 16), (5, 17), (5, 18), (4, 150), (4, 150), (4, 151), (4, 152), (4, 153), (4, 153), (4, 154), (4, 155), (4, 156), (5, 15), (5, 6), (5, 8), (4, 138), (5, 9), (5, 10), (5, 11), (5, 12), (4, 123), (4, 122), (5, 13)] (by decide +kernel), by decide +kernel, by decide +kernel⟩
theorem tk_RX11_243_245_247 : Tk RX11 243 245 247 "java/lang/IllegalStateException" := ⟨by decide +kernel, w_1043, w_28, ⟨"it cannot be lent", 39, sT_RX11_245⟩, gw_ins [(1, 19), (4, 124), (4, 133), (4, 139), (4, 142), (4, 144), (4, 125), (4, 126), (1, 35), (1, 36), (4, 127), (4, 132), (4, 140), (4, 160), (4, 114), (4, 161), (4, 116), (4, 162), (4, 118), (4, 128), (4, 130), (4, 120), (4, 156), (4, 157), (4, 159), (4, 120), (5, 94), (5, 95), (5, 96), (4, 150), (4, 150), (4, 151), (4, 152), (4, 153), (4, 153), (4, 154), (4, 155), (4, 156), (5, 93), (5, 84), (5, 86), (4, 135), (5, 87), (5, 88), (5, 89), (5, 90), (4, 123), (4, 122), (5, 91)] (by decide +kernel), by decide +kernel, by decide +kernel⟩
theorem tk_RX11_243_271_247 : Tk RX11 243 271 247 "java/lang/IllegalStateException" := ⟨by decide +kernel, w_1043, w_28, ⟨"it cannot be paid", 40, sT_RX11_271⟩, gw_ins [(1, 19), (4, 124), (4, 133), (4, 139), (4, 142), (4, 144), (4, 125), (4, 126), (1, 35), (1, 36), (4, 127), (4, 132), (4, 140), (4, 160), (4, 114), (4, 161), (4, 116), (4, 162), (4, 118), (4, 128), (4, 130), (4, 120), (4, 156), (4, 157), (4, 159), (4, 120), (5, 94), (5, 95), (5, 96), (4, 150), (4, 150), (4, 151), (4, 152), (4, 153), (4, 153), (4, 154), (4, 155), (4, 156), (5, 93), (5, 84), (5, 86), (4, 135), (5, 87), (5, 88), (5, 89), (5, 90), (4, 123), (4, 122), (5, 91)] (by decide +kernel), by decide +kernel, by decide +kernel⟩
theorem tk_RX11_243_283_247 : Tk RX11 243 283 247 "java/lang/IllegalStateException" := ⟨by decide +kernel, w_1043, w_28, ⟨"the purse is less", 43, sT_RX11_283⟩, gw_ins [(1, 19), (4, 124), (4, 133), (4, 139), (4, 142), (4, 144), (4, 125), (4, 126), (1, 35), (1, 36), (4, 127), (4, 132), (4, 140), (4, 160), (4, 114), (4, 161), (4, 116), (4, 162), (4, 118), (4, 128), (4, 130), (4, 120), (4, 156), (4, 157), (4, 159), (4, 120), (5, 94), (5, 95), (5, 96), (4, 150), (4, 150), (4, 151), (4, 152), (4, 153), (4, 153), (4, 154), (4, 155), (4, 156), (5, 93), (5, 84), (5, 86), (4, 135), (5, 87), (5, 88), (5, 89), (5, 90), (4, 123), (4, 122), (5, 91)] (by decide +kernel), by decide +kernel, by decide +kernel⟩
theorem tk_RX11_243_439_247 : Tk RX11 243 439 247 "java/lang/IllegalStateException" := ⟨by decide +kernel, w_1043, w_28, ⟨"it is not pledged", 41, sT_RX11_439⟩, gw_ins [(1, 19), (4, 124), (4, 133), (4, 139), (4, 142), (4, 144), (4, 125), (4, 126), (1, 35), (1, 36), (4, 127), (4, 132), (4, 140), (4, 160), (4, 114), (4, 161), (4, 116), (4, 162), (4, 118), (4, 128), (4, 130), (4, 120), (4, 156), (4, 157), (4, 159), (4, 120), (5, 94), (5, 95), (5, 96), (4, 150), (4, 150), (4, 151), (4, 152), (4, 153), (4, 153), (4, 154), (4, 155), (4, 156), (5, 93), (5, 84), (5, 86), (4, 135), (5, 87), (5, 88), (5, 89), (5, 90), (4, 123), (4, 122), (5, 91)] (by decide +kernel), by decide +kernel, by decide +kernel⟩
theorem tk_RX11_430_432_434 : Tk RX11 430 432 434 "java/lang/IndexOutOfBoundsException" := ⟨by decide +kernel, w_937, w_24, ⟨"no such person", 32, sT_RX11_432⟩, gw_ins [(1, 19), (4, 124), (4, 133), (4, 139), (4, 142), (4, 144), (4, 125), (4, 126), (1, 35), (1, 36), (4, 127), (4, 132), (4, 140), (4, 160), (4, 114), (4, 161), (4, 116), (4, 162), (4, 118), (4, 128), (4, 130), (4, 120), (4, 156), (4, 157), (4, 159), (4, 120), (4, 228), (4, 229), (4, 230), (4, 150), (4, 150), (4, 151), (4, 152), (4, 153), (4, 153), (4, 154), (4, 155), (4, 156), (4, 227), (4, 218), (4, 220), (4, 136), (4, 221), (4, 222), (4, 223), (4, 224), (4, 123), (4, 122), (4, 225)] (by decide +kernel), by decide +kernel, by decide +kernel⟩
theorem tk_RX11_430_435_434 : Tk RX11 430 435 434 "java/lang/IndexOutOfBoundsException" := ⟨by decide +kernel, w_937, w_24, ⟨"no such lace", 34, sT_RX11_435⟩, gw_ins [(1, 19), (4, 124), (4, 133), (4, 139), (4, 142), (4, 144), (4, 125), (4, 126), (1, 35), (1, 36), (4, 127), (4, 132), (4, 140), (4, 160), (4, 114), (4, 161), (4, 116), (4, 162), (4, 118), (4, 128), (4, 130), (4, 120), (4, 156), (4, 157), (4, 159), (4, 120), (4, 228), (4, 229), (4, 230), (4, 150), (4, 150), (4, 151), (4, 152), (4, 153), (4, 153), (4, 154), (4, 155), (4, 156), (4, 227), (4, 218), (4, 220), (4, 136), (4, 221), (4, 222), (4, 223), (4, 224), (4, 123), (4, 122), (4, 225)] (by decide +kernel), by decide +kernel, by decide +kernel⟩
theorem tk_RX11_430_437_434 : Tk RX11 430 437 434 "java/lang/IndexOutOfBoundsException" := ⟨by decide +kernel, w_937, w_24, ⟨"no such place", 36, sT_RX11_437⟩, gw_ins [(1, 19), (4, 124), (4, 133), (4, 139), (4, 142), (4, 144), (4, 125), (4, 126), (1, 35), (1, 36), (4, 127), (4, 132), (4, 140), (4, 160), (4, 114), (4, 161), (4, 116), (4, 162), (4, 118), (4, 128), (4, 130), (4, 120), (4, 156), (4, 157), (4, 159), (4, 120), (4, 228), (4, 229), (4, 230), (4, 150), (4, 150), (4, 151), (4, 152), (4, 153), (4, 153), (4, 154), (4, 155), (4, 156), (4, 227), (4, 218), (4, 220), (4, 136), (4, 221), (4, 222), (4, 223), (4, 224), (4, 123), (4, 122), (4, 225)] (by decide +kernel), by decide +kernel, by decide +kernel⟩
