theorem ic_0 : Int32.ofInt 0 = 0 := by decide
theorem bp_60 : (Int8.ofInt 60).toInt32 = 60 := by decide
theorem bp_16 : (Int8.ofInt 16).toInt32 = 16 := by decide
theorem bp_12 : (Int8.ofInt 12).toInt32 = 12 := by decide
theorem bp_10 : (Int8.ofInt 10).toInt32 = 10 := by decide
theorem ic_1 : Int32.ofInt 1 = 1 := by decide
theorem bp_15 : (Int8.ofInt 15).toInt32 = 15 := by decide
theorem ic_3 : Int32.ofInt 3 = 3 := by decide
theorem sp_1023 : (Int16.ofInt 1023).toInt32 = 1023 := by decide
theorem ic_m1 : Int32.ofInt (-1) = (-1) := by decide
theorem ic_2 : Int32.ofInt 2 = 2 := by decide
theorem sp_999 : (Int16.ofInt 999).toInt32 = 999 := by decide
theorem sp_12345 : (Int16.ofInt 12345).toInt32 = 12345 := by decide
theorem sp_32767 : (Int16.ofInt 32767).toInt32 = 32767 := by decide
theorem ic_4 : Int32.ofInt 4 = 4 := by decide
theorem bp_8 : (Int8.ofInt 8).toInt32 = 8 := by decide
theorem bp_63 : (Int8.ofInt 63).toInt32 = 63 := by decide
theorem ic_5 : Int32.ofInt 5 = 5 := by decide
theorem bp_6 : (Int8.ofInt 6).toInt32 = 6 := by decide
theorem bp_7 : (Int8.ofInt 7).toInt32 = 7 := by decide
theorem bp_9 : (Int8.ofInt 9).toInt32 = 9 := by decide
theorem bp_100 : (Int8.ofInt 100).toInt32 = 100 := by decide
theorem bp_32 : (Int8.ofInt 32).toInt32 = 32 := by decide
theorem bp_97 : (Int8.ofInt 97).toInt32 = 97 := by decide
theorem bp_122 : (Int8.ofInt 122).toInt32 = 122 := by decide
theorem bp_48 : (Int8.ofInt 48).toInt32 = 48 := by decide
theorem bp_57 : (Int8.ofInt 57).toInt32 = 57 := by decide
theorem bp_19 : (Int8.ofInt 19).toInt32 = 19 := by decide
theorem sp_400 : (Int16.ofInt 400).toInt32 = 400 := by decide
theorem ic_16 : Int32.ofInt 16 = 16 := by decide
theorem sp_256 : (Int16.ofInt 256).toInt32 = 256 := by decide
theorem ic_8 : Int32.ofInt 8 = 8 := by decide
theorem bp_24 : (Int8.ofInt 24).toInt32 = 24 := by decide
theorem sp_255 : (Int16.ofInt 255).toInt32 = 255 := by decide
theorem ic_m8 : Int32.ofInt (-8) = (-8) := by decide
theorem bp_36 : (Int8.ofInt 36).toInt32 = 36 := by decide
theorem bp_20 : (Int8.ofInt 20).toInt32 = 20 := by decide
theorem sp_1219 : (Int16.ofInt 1219).toInt32 = 1219 := by decide
theorem sp_4070 : (Int16.ofInt 4070).toInt32 = 4070 := by decide
theorem sp_370 : (Int16.ofInt 370).toInt32 = 370 := by decide
theorem bp_28 : (Int8.ofInt 28).toInt32 = 28 := by decide
theorem bp_58 : (Int8.ofInt 58).toInt32 = 58 := by decide
theorem sp_1268 : (Int16.ofInt 1268).toInt32 = 1268 := by decide
theorem sp_239 : (Int16.ofInt 239).toInt32 = 239 := by decide
theorem sp_130 : (Int16.ofInt 130).toInt32 = 130 := by decide
theorem sp_131 : (Int16.ofInt 131).toInt32 = 131 := by decide
theorem sp_132 : (Int16.ofInt 132).toInt32 = 132 := by decide
theorem sp_133 : (Int16.ofInt 133).toInt32 = 133 := by decide
theorem sp_9999 : (Int16.ofInt 9999).toInt32 = 9999 := by decide
def F_J9_min_7cf53 : Fi := (RJ9, cJ9_min_7cf53, 2, 1, 0, 0, [])
def F_X0_forget : Fi := (RX0, cX0_forget, 1, 1, 0, 0, [])
def F_X1_add : Fi := (RX1, cX1_add, 5, 2, 0, 0, [])
def F_J9_floorMod_7cf53 : Fi := (RJ9, cJ9_floorMod_7cf53, 3, 1, 0, 0, [])
def F_X1_rowAt : Fi := (RX1, cX1_rowAt, 2, 2, 0, 0, [])
def F_X1_dayAt : Fi := (RX1, cX1_dayAt, 2, 3, 0, 0, [])
def F_X1_laceAt : Fi := (RX1, cX1_laceAt, 2, 3, 0, 0, [])
def F_X1_whatAt : Fi := (RX1, cX1_whatAt, 2, 3, 0, 0, [])
def F_X1_amountAt : Fi := (RX1, cX1_amountAt, 2, 3, 0, 0, [])
def F_X1_rowsOf : Fi := (RX1, cX1_rowsOf, 4, 4, 0, 0, [])
def F_X1_latestDayOf : Fi := (RX1, cX1_latestDayOf, 3, 4, 0, 0, [])
def F_X2_letGo : Fi := (RX2, cX2_letGo, 4, 1, 0, 0, [])
def F_X2_addPerson : Fi := (RX2, cX2_addPerson, 4, 2, 0, 0, [])
def F_X2_pledge : Fi := (RX2, cX2_pledge, 7, 1, 0, 0, [])
def F_X2_earn : Fi := (RX2, cX2_earn, 3, 2, 0, 0, [])
def F_X2_payOff : Fi := (RX2, cX2_payOff, 3, 3, 0, 0, [])
def F_X2_draw : Fi := (RX2, cX2_draw, 1, 1, 0, 0, [])
def F_X2_gaitOf : Fi := (RX2, cX2_gaitOf, 4, 1, 0, 0, [])
def F_J6_bitCount_0f7a4 : Fi := (RJ6, cJ6_bitCount_0f7a4, 1, 1, 0, 0, [])
def F_X2_heldBy : Fi := (RX2, cX2_heldBy, 4, 1, 0, 0, [])
def F_X4_ask : Fi := (RX4, cX4_ask, 4, 2, 0, 0, [])
def F_X2_slackOf : Fi := (RX2, cX2_slackOf, 2, 2, 0, 0, [])
def F_J9_max_7cf53 : Fi := (RJ9, cJ9_max_7cf53, 2, 1, 0, 0, [])
def F_X2_fall : Fi := (RX2, cX2_fall, 2, 2, 0, 0, [])
def F_X2_walk : Fi := (RX2, cX2_walk, 3, 2, 0, 0, [])
def F_X2_isPledged : Fi := (RX2, cX2_isPledged, 2, 1, 0, 0, [])
def F_X11_ownerOf : Fi := (RX11, cX11_ownerOf, 1, 1, 0, 0, [])
def F_X2_settle : Fi := (RX2, cX2_settle, 4, 4, 0, 0, [])
def F_X2_lacesThatAre : Fi := (RX2, cX2_lacesThatAre, 4, 1, 0, 0, [])
def F_X11_lacesOf : Fi := (RX11, cX11_lacesOf, 1, 1, 0, 0, [])
def F_X11_hasBit : Fi := (RX11, cX11_hasBit, 2, 1, 0, 0, [])
def F_X2_amountOf : Fi := (RX2, cX2_amountOf, 4, 2, 0, 0, [])
def F_X2_owedBy : Fi := (RX2, cX2_owedBy, 2, 3, 0, 0, [])
def F_X2_dueTo : Fi := (RX2, cX2_dueTo, 2, 3, 0, 0, [])
def F_X2_allPurses : Fi := (RX2, cX2_allPurses, 3, 1, 0, 0, [])
def F_X2_shareOf : Fi := (RX2, cX2_shareOf, 4, 2, 0, 0, [])
def F_X2_hangingOn : Fi := (RX2, cX2_hangingOn, 4, 1, 0, 0, [])
def F_X2_creditorOf : Fi := (RX2, cX2_creditorOf, 2, 2, 0, 0, [])
def F_X2_directCreditorsOf : Fi := (RX2, cX2_directCreditorsOf, 2, 3, 0, 0, [])
def F_X2_creditorsOf : Fi := (RX2, cX2_creditorsOf, 5, 4, 0, 0, [])
def F_X2_laceFor : Fi := (RX2, cX2_laceFor, 3, 2, 0, 0, [])
def F_X2_betterCall : Fi := (RX2, cX2_betterCall, 5, 3, 0, 0, [])
def F_X2_callable : Fi := (RX2, cX2_callable, 6, 4, 0, 0, [])
def F_X2_partiesOf : Fi := (RX2, cX2_partiesOf, 3, 2, 0, 0, [])
def F_X2_isInEachPledge : Fi := (RX2, cX2_isInEachPledge, 3, 3, 0, 0, [])
def F_X8_runOf : Fi := (RX8, cX8_runOf, 4, 1, 0, 0, [])
def F_X8_moveTo : Fi := (RX8, cX8_moveTo, 2, 1, 0, 0, [])
def F_X8_refuse : Fi := (RX8, cX8_refuse, 2, 1, 0, 0, [])
def F_X11_isOutside : Fi := (RX11, cX11_isOutside, 3, 1, 0, 0, [])
def F_X8_takeNumber : Fi := (RX8, cX8_takeNumber, 6, 2, 0, 0, [])
def F_X8_isRight : Fi := (RX8, cX8_isRight, 1, 1, 0, 0, [])
def F_X3_takeLaceInShoe : Fi := (RX3, cX3_takeLaceInShoe, 3, 3, 0, 0, [])
def F_X3_takeOther : Fi := (RX3, cX3_takeOther, 5, 3, 0, 0, [])
def F_X3_readMud : Fi := (RX3, cX3_readMud, 3, 3, 0, 0, [])
def F_X3_readGoal : Fi := (RX3, cX3_readGoal, 3, 3, 0, 0, [])
def F_X4_clear : Fi := (RX4, cX4_clear, 1, 1, 0, 0, [])
def F_X4_openLine : Fi := (RX4, cX4_openLine, 3, 1, 0, 0, [])
def F_X4_addStep : Fi := (RX4, cX4_addStep, 2, 1, 0, 0, [])
def F_X4_closeLine : Fi := (RX4, cX4_closeLine, 1, 1, 0, 0, [])
def F_X8_takesSign : Fi := (RX8, cX8_takesSign, 2, 2, 0, 0, [])
def F_X8_needSign : Fi := (RX8, cX8_needSign, 2, 3, 0, 0, [])
def F_X8_isAtNumber : Fi := (RX8, cX8_isAtNumber, 1, 2, 0, 0, [])
def F_X8_useUp : Fi := (RX8, cX8_useUp, 2, 1, 0, 0, [])
def F_X8_openText : Fi := (RX8, cX8_openText, 1, 2, 0, 0, [])
def F_X8_isOver : Fi := (RX8, cX8_isOver, 1, 1, 0, 0, [])
def F_X7_gather : Fi := (RX7, cX7_gather, 4, 2, 0, 0, [])
def F_J6_numberOfTrailingZeros_0f7a4 : Fi := (RJ6, cJ6_numberOfTrailingZeros_0f7a4, 2, 1, 0, 0, [])
def F_X7_isBalanced : Fi := (RX7, cX7_isBalanced, 2, 1, 0, 0, [])
def F_X7_take : Fi := (RX7, cX7_take, 3, 2, 0, 0, [])
def F_X7_seek : Fi := (RX7, cX7_seek, 7, 3, 0, 0, [])
def F_X8_add : Fi := (RX8, cX8_add, 3, 1, 0, 0, [])
def F_X9_tell : Fi := (RX9, cX9_tell, 4, 1, 0, 0, [])
def F_X9_with : Fi := (RX9, cX9_with, 4, 2, 0, 0, [])
def F_X9_weigh : Fi := (RX9, cX9_weigh, 5, 3, 0, 0, [])
def F_X9_leastOfAll : Fi := (RX9, cX9_leastOfAll, 1, 1, 0, 0, [])
def F_X9_firstBest : Fi := (RX9, cX9_firstBest, 3, 3, 0, 0, [])
def F_X9_partOf : Fi := (RX9, cX9_partOf, 5, 4, 0, 0, [])
def F_X10_areTold : Fi := (RX10, cX10_areTold, 4, 1, 0, 0, [])
def F_X10_fits : Fi := (RX10, cX10_fits, 6, 2, 0, 0, [])
def F_X10_take : Fi := (RX10, cX10_take, 3, 2, 0, 0, [])
def F_X10_seek : Fi := (RX10, cX10_seek, 4, 3, 0, 0, [])
def F_X10_parting : Fi := (RX10, cX10_parting, 5, 2, 0, 0, [])
def F_X11_feed : Fi := (RX11, cX11_feed, 6, 2, 0, 0, [])
def F_X11_end : Fi := (RX11, cX11_end, 2, 1, 0, 0, [])
def F_X11_fault : Fi := (RX11, cX11_fault, 1, 1, 0, 0, [])
def F_X11_solvent : Fi := (RX11, cX11_solvent, 3, 4, 0, 0, [])
def F_X11_tellsPlaces : Fi := (RX11, cX11_tellsPlaces, 3, 1, 0, 0, [])
def F_X11_rings : Fi := (RX11, cX11_rings, 1, 4, 0, 0, [])
def F_X11_untie : Fi := (RX11, cX11_untie, 2, 4, 0, 0, [])
def F_X11_trust : Fi := (RX11, cX11_trust, 5, 3, 0, 0, [])
def F_X11_needed : Fi := (RX11, cX11_needed, 3, 4, 0, 0, [])
def F_X11_rail : Fi := (RX11, cX11_rail, 1, 2, 0, 0, [])
def F_X11_seed : Fi := (RX11, cX11_seed, 3, 1, 0, 0, [])
def F_X12_thrown : Fi := (RX12, cX12_thrown, 1, 1, 0, 0, [])
def F_X12_throwsIf : Fi := (RX12, cX12_throwsIf, 3, 1, 0, 0, [])
def F_X12_in : Fi := (RX12, cX12_in, 3, 1, 0, 0, [])
def F_X12_has : Fi := (RX12, cX12_has, 2, 1, 0, 0, [])
def F_X12_image : Fi := (RX12, cX12_image, 2, 1, 0, 0, [])
def F_X12_back : Fi := (RX12, cX12_back, 2, 1, 0, 0, [])
def F_X12_remembers : Fi := (RX12, cX12_remembers, 2, 1, 0, 0, [])
def F_X12_undo : Fi := (RX12, cX12_undo, 2, 1, 0, 0, [])
def F_X12_people : Fi := (RX12, cX12_people, 1, 1, 0, 0, [])
def F_X12_laces : Fi := (RX12, cX12_laces, 1, 2, 0, 0, [])
def F_X12_everybody : Fi := (RX12, cX12_everybody, 1, 2, 0, 0, [])
def F_X12_at : Fi := (RX12, cX12_at, 2, 1, 0, 0, [])
def F_X12_of : Fi := (RX12, cX12_of, 3, 2, 0, 0, [])
def F_X12_laceAt : Fi := (RX12, cX12_laceAt, 2, 1, 0, 0, [])
def F_X12_ofLace : Fi := (RX12, cX12_ofLace, 3, 2, 0, 0, [])
def F_X12_ownerOf : Fi := (RX12, cX12_ownerOf, 1, 1, 0, 0, [])
def F_X12_isPledged : Fi := (RX12, cX12_isPledged, 2, 3, 0, 0, [])
def F_X12_isLost : Fi := (RX12, cX12_isLost, 2, 3, 0, 0, [])
def F_X12_isIn : Fi := (RX12, cX12_isIn, 2, 3, 0, 0, [])
def F_X12_noPerson : Fi := (RX12, cX12_noPerson, 2, 2, 0, 0, [])
def F_X12_noLace : Fi := (RX12, cX12_noLace, 2, 3, 0, 0, [])
def F_X12_noPlace : Fi := (RX12, cX12_noPlace, 1, 2, 0, 0, [])
def F_X12_tellsLace : Fi := (RX12, cX12_tellsLace, 7, 2, 0, 0, [])
def F_X12_comesBack : Fi := (RX12, cX12_comesBack, 2, 3, 0, 0, [])
def F_X12_gets : Fi := (RX12, cX12_gets, 3, 3, 0, 0, [])
def F_X12_drawn : Fi := (RX12, cX12_drawn, 2, 1, 0, 0, [])
def F_X12_feed : Fi := (RX12, cX12_feed, 7, 1, 0, 0, [])
def F_X12_end : Fi := (RX12, cX12_end, 2, 1, 0, 0, [])
def F_X12_isAt : Fi := (RX12, cX12_isAt, 3, 1, 0, 0, [])
def F_X12_blanks : Fi := (RX12, cX12_blanks, 1, 2, 0, 0, [])
def F_X12_letters : Fi := (RX12, cX12_letters, 1, 3, 0, 0, [])
def F_X12_sign : Fi := (RX12, cX12_sign, 2, 3, 0, 0, [])
def F_X12_number : Fi := (RX12, cX12_number, 4, 3, 0, 0, [])
def F_X12_fault : Fi := (RX12, cX12_fault, 1, 1, 0, 0, [])
def F_X12_uses : Fi := (RX12, cX12_uses, 1, 1, 0, 0, [])
def F_X12_emits : Fi := (RX12, cX12_emits, 3, 1, 0, 0, [])
def F_X12_slackOf : Fi := (RX12, cX12_slackOf, 2, 4, 0, 0, [])
def F_X12_heldBy : Fi := (RX12, cX12_heldBy, 4, 4, 0, 0, [])
def F_X12_isThere : Fi := (RX12, cX12_isThere, 2, 3, 0, 0, [])
def F_X12_hasLaw : Fi := (RX12, cX12_hasLaw, 1, 1, 0, 0, [])
def F_X12_owesOf : Fi := (RX12, cX12_owesOf, 4, 4, 0, 0, [])
def F_X12_dueTo : Fi := (RX12, cX12_dueTo, 4, 4, 0, 0, [])
def F_X12_lostOnes : Fi := (RX12, cX12_lostOnes, 3, 4, 0, 0, [])
def F_X12_pledgedOnes : Fi := (RX12, cX12_pledgedOnes, 3, 4, 0, 0, [])
def F_X12_shareOf : Fi := (RX12, cX12_shareOf, 3, 5, 0, 0, [])
def F_X12_lace : Fi := (RX12, cX12_lace, 3, 4, 0, 0, [])
def F_X12_mud : Fi := (RX12, cX12_mud, 2, 3, 0, 0, [])
def F_X12_tells : Fi := (RX12, cX12_tells, 5, 2, 0, 0, [])
def F_X12_isPaid : Fi := (RX12, cX12_isPaid, 4, 4, 0, 0, [])
def F_X12_isLostNow : Fi := (RX12, cX12_isLostNow, 3, 3, 0, 0, [])
def F_X12_rest : Fi := (RX12, cX12_rest, 3, 3, 0, 0, [])
def F_X12_falls : Fi := (RX12, cX12_falls, 2, 3, 0, 0, [])
def F_J9_abs_0f7a4 : Fi := (RJ9, cJ9_abs_0f7a4, 1, 1, 0, 0, [])
def F_X12_isCalled : Fi := (RX12, cX12_isCalled, 4, 5, 0, 0, [])
def F_X12_keepsAll : Fi := (RX12, cX12_keepsAll, 2, 1, 0, 0, [])
def F_X12_bringsBack : Fi := (RX12, cX12_bringsBack, 2, 1, 0, 0, [])
def F_X12_leastOf : Fi := (RX12, cX12_leastOf, 3, 1, 0, 0, [])
def F_X12_leastBy : Fi := (RX12, cX12_leastBy, 4, 2, 0, 0, [])
def F_X12_solvent : Fi := (RX12, cX12_solvent, 3, 5, 0, 0, [])
def F_X12_isRing : Fi := (RX12, cX12_isRing, 6, 3, 0, 0, [])
def F_X12_rings : Fi := (RX12, cX12_rings, 4, 5, 0, 0, [])
def F_X12_untie : Fi := (RX12, cX12_untie, 5, 5, 0, 0, [])
def F_X12_holdersOf : Fi := (RX12, cX12_holdersOf, 4, 4, 0, 0, [])
def F_X12_leadsFrom : Fi := (RX12, cX12_leadsFrom, 4, 5, 0, 0, [])
def F_X12_leads : Fi := (RX12, cX12_leads, 2, 6, 0, 0, [])
def F_X12_amountOf : Fi := (RX12, cX12_amountOf, 4, 3, 0, 0, [])
def F_X12_canBePaid : Fi := (RX12, cX12_canBePaid, 4, 4, 0, 0, [])
def F_X12_call : Fi := (RX12, cX12_call, 6, 5, 0, 0, [])
def F_X12_hangsOn : Fi := (RX12, cX12_hangsOn, 4, 4, 0, 0, [])
def F_X12_hangs : Fi := (RX12, cX12_hangs, 2, 5, 0, 0, [])
def F_X12_trust : Fi := (RX12, cX12_trust, 5, 5, 0, 0, [])
def F_X12_isNeeded : Fi := (RX12, cX12_isNeeded, 4, 4, 0, 0, [])
def F_X12_needed : Fi := (RX12, cX12_needed, 3, 5, 0, 0, [])
def F_X12_isTold : Fi := (RX12, cX12_isTold, 3, 3, 0, 0, [])
def F_X12_fits : Fi := (RX12, cX12_fits, 5, 2, 0, 0, [])
def F_X12_wear : Fi := (RX12, cX12_wear, 5, 4, 0, 0, [])
def F_X12_look : Fi := (RX12, cX12_look, 7, 4, 0, 0, [])
def F_X12_lends : Fi := (RX12, cX12_lends, 5, 4, 0, 0, [])
def F_X12_loose : Fi := (RX12, cX12_loose, 4, 4, 0, 0, [])
def F_X12_rail : Fi := (RX12, cX12_rail, 1, 5, 0, 0, [])
def F_X12_ofLog : Fi := (RX12, cX12_ofLog, 3, 1, 0, 0, [])
def F_X12_led : Fi := (RX12, cX12_led, 6, 4, 0, 0, [])
def F_X12_log : Fi := (RX12, cX12_log, 3, 2, 0, 0, [])
def F_X12_seed : Fi := (RX12, cX12_seed, 3, 1, 0, 0, [])
def F_X12_pursesOfAll : Fi := (RX12, cX12_pursesOfAll, 3, 3, 0, 0, [])
theorem w_1 : Cond.initialized "LaceBonds" ∈ gw := gw_in (i := 129) (by decide +kernel) rfl
theorem w_10 : Cond.initialized "LaceBonds$Rings" ∈ gw := gw_in (i := 138) (by decide +kernel) rfl
theorem w_100 : Cond.fieldLink "LaceBonds$Land" 21 "LaceBonds$Land" "fine" "I" ∈ gw := gw_in (i := 228) (by decide +kernel) rfl
theorem w_1017 : Cond.methodLink "LaceBonds$Land" 96 ⟨"java/lang/Math", "min", "(II)I"⟩ ∈ gw := gw_in (i := 1145) (by decide +kernel) rfl
theorem w_1018 : Cond.static ⟨"java/lang/Math", "min", "(II)I"⟩ ∈ gw := gw_in (i := 1146) (by decide +kernel) rfl
theorem w_1019 : Cond.code ⟨"java/lang/Math", "min", "(II)I"⟩ prog_23_method_69_code 2 (Option.some ClassFile.FieldType.int) ∈ gw := gw_in (i := 1147) (by decide +kernel) rfl
theorem w_1028 : Cond.methodLink "LaceBonds" 227 ⟨"LaceBonds$Land", "isPledged", "(I)Z"⟩ ∈ gw := gw_in (i := 1156) (by decide +kernel) rfl
theorem w_103 : Cond.fieldLink "LaceBonds$Land" 24 "LaceBonds$Land" "seed" "I" ∈ gw := gw_in (i := 231) (by decide +kernel) rfl
theorem w_104 : Cond.fieldLink "LaceBonds" 385 "LaceBonds$Land" "seed" "I" ∈ gw := gw_in (i := 232) (by decide +kernel) rfl
theorem w_1065 : Cond.instanceMethod ⟨"LaceBonds$Land", "earn", "(II)V"⟩ ∈ gw := gw_in (i := 1193) (by decide +kernel) rfl
theorem w_1066 : Cond.selects "LaceBonds$Land" ⟨"LaceBonds$Land", "earn", "(II)V"⟩ ⟨"LaceBonds$Land", "earn", "(II)V"⟩ ∈ gw := gw_in (i := 1194) (by decide +kernel) rfl
theorem w_1067 : Cond.code ⟨"LaceBonds$Land", "earn", "(II)V"⟩ prog_4_method_6_code 3 (none) ∈ gw := gw_in (i := 1195) (by decide +kernel) rfl
theorem w_107 : Cond.fieldLink "LaceBonds$Land" 30 "LaceBonds$Land" "purse" "[I" ∈ gw := gw_in (i := 235) (by decide +kernel) rfl
theorem w_1070 : Cond.instanceMethod ⟨"LaceBonds$Book", "add", "(IIII)V"⟩ ∈ gw := gw_in (i := 1198) (by decide +kernel) rfl
theorem w_1071 : Cond.selects "LaceBonds$Book" ⟨"LaceBonds$Book", "add", "(IIII)V"⟩ ⟨"LaceBonds$Book", "add", "(IIII)V"⟩ ∈ gw := gw_in (i := 1199) (by decide +kernel) rfl
theorem w_1072 : Cond.code ⟨"LaceBonds$Book", "add", "(IIII)V"⟩ prog_3_method_3_code 5 (none) ∈ gw := gw_in (i := 1200) (by decide +kernel) rfl
theorem w_1073 : Cond.methodLink "LaceBonds$Book" 28 ⟨"java/lang/Math", "min", "(II)I"⟩ ∈ gw := gw_in (i := 1201) (by decide +kernel) rfl
theorem w_108 : Cond.fieldLink "LaceBonds" 152 "LaceBonds$Land" "purse" "[I" ∈ gw := gw_in (i := 236) (by decide +kernel) rfl
theorem w_1083 : Cond.instanceMethod ⟨"LaceBonds$Land", "payOff", "(II)V"⟩ ∈ gw := gw_in (i := 1211) (by decide +kernel) rfl
theorem w_1084 : Cond.selects "LaceBonds$Land" ⟨"LaceBonds$Land", "payOff", "(II)V"⟩ ⟨"LaceBonds$Land", "payOff", "(II)V"⟩ ∈ gw := gw_in (i := 1212) (by decide +kernel) rfl
theorem w_1085 : Cond.code ⟨"LaceBonds$Land", "payOff", "(II)V"⟩ prog_4_method_5_code 3 (none) ∈ gw := gw_in (i := 1213) (by decide +kernel) rfl
theorem w_1086 : Cond.methodLink "LaceBonds$Land" 88 ⟨"LaceBonds$Land", "earn", "(II)V"⟩ ∈ gw := gw_in (i := 1214) (by decide +kernel) rfl
theorem w_1087 : Cond.methodLink "LaceBonds$Land" 92 ⟨"LaceBonds$Book", "add", "(IIII)V"⟩ ∈ gw := gw_in (i := 1215) (by decide +kernel) rfl
theorem w_109 : Cond.fieldLink "LaceBonds$Land" 34 "LaceBonds$Land" "pace" "[I" ∈ gw := gw_in (i := 237) (by decide +kernel) rfl
theorem w_11 : Cond.initialized "LaceBonds$Ways" ∈ gw := gw_in (i := 139) (by decide +kernel) rfl
theorem w_111 : Cond.fieldLink "LaceBonds$Land" 37 "LaceBonds$Land" "place" "[I" ∈ gw := gw_in (i := 239) (by decide +kernel) rfl
theorem w_113 : Cond.fieldLink "LaceBonds$Law" 72 "LaceBonds$Land" "place" "[I" ∈ gw := gw_in (i := 241) (by decide +kernel) rfl
theorem w_114 : Cond.fieldLink "LaceBonds$Land" 40 "LaceBonds$Land" "goal" "[I" ∈ gw := gw_in (i := 242) (by decide +kernel) rfl
theorem w_1144 : Cond.constant "LaceBonds$Land" 191 1103515245 ∈ gw := gw_in (i := 1272) (by decide +kernel) rfl
theorem w_115 : Cond.fieldLink "LaceBonds$LandReader" 113 "LaceBonds$Land" "goal" "[I" ∈ gw := gw_in (i := 243) (by decide +kernel) rfl
theorem w_1160 : Cond.methodLink "LaceBonds$Land" 192 ⟨"LaceBonds$Land", "payOff", "(II)V"⟩ ∈ gw := gw_in (i := 1288) (by decide +kernel) rfl
theorem w_117 : Cond.fieldLink "LaceBonds$Law" 84 "LaceBonds$Land" "goal" "[I" ∈ gw := gw_in (i := 245) (by decide +kernel) rfl
theorem w_118 : Cond.fieldLink "LaceBonds$Land" 43 "LaceBonds$Land" "tired" "[I" ∈ gw := gw_in (i := 246) (by decide +kernel) rfl
theorem w_1196 : Cond.constant "LaceBonds$Ways" 22 1000000 ∈ gw := gw_in (i := 1324) (by decide +kernel) rfl
theorem w_12 : Cond.initialized "LaceBonds$Wearers" ∈ gw := gw_in (i := 140) (by decide +kernel) rfl
theorem w_120 : Cond.fieldLink "LaceBonds$Law" 78 "LaceBonds$Land" "tired" "[I" ∈ gw := gw_in (i := 248) (by decide +kernel) rfl
theorem w_1202 : Cond.methodLink "LaceBonds$Ways" 27 ⟨"LaceBonds$Ways", "with", "(II)I"⟩ ∈ gw := gw_in (i := 1330) (by decide +kernel) rfl
theorem w_1204 : Cond.instanceMethod ⟨"LaceBonds$Ways", "with", "(II)I"⟩ ∈ gw := gw_in (i := 1332) (by decide +kernel) rfl
theorem w_1205 : Cond.code ⟨"LaceBonds$Ways", "with", "(II)I"⟩ prog_11_method_7_code 4 (Option.some ClassFile.FieldType.int) ∈ gw := gw_in (i := 1333) (by decide +kernel) rfl
theorem w_1206 : Cond.methodLink "LaceBonds$Ways" 40 ⟨"java/lang/Integer", "bitCount", "(I)I"⟩ ∈ gw := gw_in (i := 1334) (by decide +kernel) rfl
theorem w_1207 : Cond.methodLink "LaceBonds$Ways" 31 ⟨"java/lang/Math", "min", "(II)I"⟩ ∈ gw := gw_in (i := 1335) (by decide +kernel) rfl
theorem w_121 : Cond.fieldLink "LaceBonds$Land" 46 "LaceBonds$Land" "how" "[I" ∈ gw := gw_in (i := 249) (by decide +kernel) rfl
theorem w_1216 : Cond.methodLink "LaceBonds$Ways" 36 ⟨"LaceBonds$Ways", "firstBest", "(I)I"⟩ ∈ gw := gw_in (i := 1344) (by decide +kernel) rfl
theorem w_1218 : Cond.instanceMethod ⟨"LaceBonds$Ways", "firstBest", "(I)I"⟩ ∈ gw := gw_in (i := 1346) (by decide +kernel) rfl
theorem w_1219 : Cond.code ⟨"LaceBonds$Ways", "firstBest", "(I)I"⟩ prog_11_method_6_code 3 (Option.some ClassFile.FieldType.int) ∈ gw := gw_in (i := 1347) (by decide +kernel) rfl
theorem w_122 : Cond.fieldLink "LaceBonds$LandReader" 115 "LaceBonds$Land" "how" "[I" ∈ gw := gw_in (i := 250) (by decide +kernel) rfl
theorem w_124 : Cond.fieldLink "LaceBonds$Land" 49 "LaceBonds$Land" "holder" "[I" ∈ gw := gw_in (i := 252) (by decide +kernel) rfl
theorem w_1244 : Cond.methodLink "LaceBonds$Land" 162 ⟨"LaceBonds$Land", "directCreditorsOf", "(I)I"⟩ ∈ gw := gw_in (i := 1372) (by decide +kernel) rfl
theorem w_1246 : Cond.instanceMethod ⟨"LaceBonds$Land", "directCreditorsOf", "(I)I"⟩ ∈ gw := gw_in (i := 1374) (by decide +kernel) rfl
theorem w_1247 : Cond.code ⟨"LaceBonds$Land", "directCreditorsOf", "(I)I"⟩ prog_4_method_31_code 2 (Option.some ClassFile.FieldType.int) ∈ gw := gw_in (i := 1375) (by decide +kernel) rfl
theorem w_1248 : Cond.methodLink "LaceBonds$Land" 195 ⟨"LaceBonds$Land", "creditorOf", "(I)I"⟩ ∈ gw := gw_in (i := 1376) (by decide +kernel) rfl
theorem w_125 : Cond.fieldLink "LaceBonds$Rings" 47 "LaceBonds$Land" "holder" "[I" ∈ gw := gw_in (i := 253) (by decide +kernel) rfl
theorem w_1250 : Cond.instanceMethod ⟨"LaceBonds$Land", "creditorOf", "(I)I"⟩ ∈ gw := gw_in (i := 1378) (by decide +kernel) rfl
theorem w_1251 : Cond.code ⟨"LaceBonds$Land", "creditorOf", "(I)I"⟩ prog_4_method_32_code 2 (Option.some ClassFile.FieldType.int) ∈ gw := gw_in (i := 1379) (by decide +kernel) rfl
theorem w_127 : Cond.fieldLink "LaceBonds$Land" 52 "LaceBonds$Land" "amount" "[I" ∈ gw := gw_in (i := 255) (by decide +kernel) rfl
theorem w_1271 : Cond.methodLink "LaceBonds$Land" 165 ⟨"LaceBonds$Land", "laceFor", "(II)I"⟩ ∈ gw := gw_in (i := 1399) (by decide +kernel) rfl
theorem w_1273 : Cond.instanceMethod ⟨"LaceBonds$Land", "laceFor", "(II)I"⟩ ∈ gw := gw_in (i := 1401) (by decide +kernel) rfl
theorem w_1274 : Cond.code ⟨"LaceBonds$Land", "laceFor", "(II)I"⟩ prog_4_method_33_code 3 (Option.some ClassFile.FieldType.int) ∈ gw := gw_in (i := 1402) (by decide +kernel) rfl
theorem w_1275 : Cond.methodLink "LaceBonds$Land" 168 ⟨"LaceBonds$Land", "betterCall", "(III)I"⟩ ∈ gw := gw_in (i := 1403) (by decide +kernel) rfl
theorem w_1277 : Cond.instanceMethod ⟨"LaceBonds$Land", "betterCall", "(III)I"⟩ ∈ gw := gw_in (i := 1405) (by decide +kernel) rfl
theorem w_1278 : Cond.code ⟨"LaceBonds$Land", "betterCall", "(III)I"⟩ prog_4_method_34_code 5 (Option.some ClassFile.FieldType.int) ∈ gw := gw_in (i := 1406) (by decide +kernel) rfl
theorem w_128 : Cond.fieldLink "LaceBonds$Rings" 39 "LaceBonds$Land" "amount" "[I" ∈ gw := gw_in (i := 256) (by decide +kernel) rfl
theorem w_13 : Cond.initialized "LaceBondsModel" ∈ gw := gw_in (i := 141) (by decide +kernel) rfl
theorem w_130 : Cond.fieldLink "LaceBonds$Land" 55 "LaceBonds$Land" "knot" "[I" ∈ gw := gw_in (i := 258) (by decide +kernel) rfl
theorem w_1316 : Cond.methodLink "LaceBonds" 444 ⟨"LaceBonds$Wearers", "areTold", "(II)Z"⟩ ∈ gw := gw_in (i := 1444) (by decide +kernel) rfl
theorem w_1317 : Cond.instanceMethod ⟨"LaceBonds$Wearers", "areTold", "(II)Z"⟩ ∈ gw := gw_in (i := 1445) (by decide +kernel) rfl
theorem w_1318 : Cond.selects "LaceBonds$Wearers" ⟨"LaceBonds$Wearers", "areTold", "(II)Z"⟩ ⟨"LaceBonds$Wearers", "areTold", "(II)Z"⟩ ∈ gw := gw_in (i := 1446) (by decide +kernel) rfl
theorem w_1319 : Cond.code ⟨"LaceBonds$Wearers", "areTold", "(II)Z"⟩ prog_12_method_2_code 4 (Option.some ClassFile.FieldType.boolean) ∈ gw := gw_in (i := 1447) (by decide +kernel) rfl
theorem w_132 : Cond.fieldLink "LaceBonds$Land" 58 "LaceBonds$Land" "term" "[I" ∈ gw := gw_in (i := 260) (by decide +kernel) rfl
theorem w_1321 : Cond.methodLink "LaceBonds" 449 ⟨"LaceBonds$Wearers", "seek", "(II)V"⟩ ∈ gw := gw_in (i := 1449) (by decide +kernel) rfl
theorem w_1322 : Cond.instanceMethod ⟨"LaceBonds$Wearers", "seek", "(II)V"⟩ ∈ gw := gw_in (i := 1450) (by decide +kernel) rfl
theorem w_1323 : Cond.selects "LaceBonds$Wearers" ⟨"LaceBonds$Wearers", "seek", "(II)V"⟩ ⟨"LaceBonds$Wearers", "seek", "(II)V"⟩ ∈ gw := gw_in (i := 1451) (by decide +kernel) rfl
theorem w_1324 : Cond.code ⟨"LaceBonds$Wearers", "seek", "(II)V"⟩ prog_12_method_3_code 4 (none) ∈ gw := gw_in (i := 1452) (by decide +kernel) rfl
theorem w_1325 : Cond.methodLink "LaceBonds$Wearers" 34 ⟨"LaceBonds$Wearers", "fits", "(II)Z"⟩ ∈ gw := gw_in (i := 1453) (by decide +kernel) rfl
theorem w_1327 : Cond.instanceMethod ⟨"LaceBonds$Wearers", "fits", "(II)Z"⟩ ∈ gw := gw_in (i := 1455) (by decide +kernel) rfl
theorem w_1328 : Cond.code ⟨"LaceBonds$Wearers", "fits", "(II)Z"⟩ prog_12_method_5_code 6 (Option.some ClassFile.FieldType.boolean) ∈ gw := gw_in (i := 1456) (by decide +kernel) rfl
theorem w_1329 : Cond.methodLink "LaceBonds$Wearers" 48 ⟨"java/lang/Integer", "bitCount", "(I)I"⟩ ∈ gw := gw_in (i := 1457) (by decide +kernel) rfl
theorem w_1330 : Cond.methodLink "LaceBonds$Wearers" 38 ⟨"LaceBonds$Wearers", "take", "(I)V"⟩ ∈ gw := gw_in (i := 1458) (by decide +kernel) rfl
theorem w_1332 : Cond.instanceMethod ⟨"LaceBonds$Wearers", "take", "(I)V"⟩ ∈ gw := gw_in (i := 1460) (by decide +kernel) rfl
theorem w_1333 : Cond.code ⟨"LaceBonds$Wearers", "take", "(I)V"⟩ prog_12_method_6_code 3 (none) ∈ gw := gw_in (i := 1461) (by decide +kernel) rfl
theorem w_134 : Cond.fieldLink "LaceBonds$Land" 61 "LaceBonds$Land" "surety" "[I" ∈ gw := gw_in (i := 262) (by decide +kernel) rfl
theorem w_1346 : Cond.methodLink "LaceBonds$Wearers" 42 ⟨"java/lang/Math", "max", "(II)I"⟩ ∈ gw := gw_in (i := 1474) (by decide +kernel) rfl
theorem w_137 : Cond.fieldLink "LaceBonds$LandReader" 110 "LaceBonds$Land" "mud" "[I" ∈ gw := gw_in (i := 265) (by decide +kernel) rfl
theorem w_138 : Cond.fieldLink "LaceBonds$Law" 75 "LaceBonds$Land" "mud" "[I" ∈ gw := gw_in (i := 266) (by decide +kernel) rfl
theorem w_1397 : Cond.methodLink "LaceBonds$Book" 38 ⟨"LaceBonds$Book", "laceAt", "(I)I"⟩ ∈ gw := gw_in (i := 1525) (by decide +kernel) rfl
theorem w_1398 : Cond.instanceMethod ⟨"LaceBonds$Book", "laceAt", "(I)I"⟩ ∈ gw := gw_in (i := 1526) (by decide +kernel) rfl
theorem w_1399 : Cond.selects "LaceBonds$Book" ⟨"LaceBonds$Book", "laceAt", "(I)I"⟩ ⟨"LaceBonds$Book", "laceAt", "(I)I"⟩ ∈ gw := gw_in (i := 1527) (by decide +kernel) rfl
theorem w_140 : Cond.fieldLink "LaceBonds$Land" 70 "LaceBonds$Land" "book" "LLaceBonds$Book;" ∈ gw := gw_in (i := 268) (by decide +kernel) rfl
theorem w_1400 : Cond.code ⟨"LaceBonds$Book", "laceAt", "(I)I"⟩ prog_3_method_5_code 2 (Option.some ClassFile.FieldType.int) ∈ gw := gw_in (i := 1528) (by decide +kernel) rfl
theorem w_1401 : Cond.methodLink "LaceBonds$Book" 34 ⟨"LaceBonds$Book", "rowAt", "(I)I"⟩ ∈ gw := gw_in (i := 1529) (by decide +kernel) rfl
theorem w_1403 : Cond.instanceMethod ⟨"LaceBonds$Book", "rowAt", "(I)I"⟩ ∈ gw := gw_in (i := 1531) (by decide +kernel) rfl
theorem w_1404 : Cond.code ⟨"LaceBonds$Book", "rowAt", "(I)I"⟩ prog_3_method_10_code 2 (Option.some ClassFile.FieldType.int) ∈ gw := gw_in (i := 1532) (by decide +kernel) rfl
theorem w_1405 : Cond.methodLink "LaceBonds$Book" 44 ⟨"java/lang/Math", "floorMod", "(II)I"⟩ ∈ gw := gw_in (i := 1533) (by decide +kernel) rfl
theorem w_1406 : Cond.static ⟨"java/lang/Math", "floorMod", "(II)I"⟩ ∈ gw := gw_in (i := 1534) (by decide +kernel) rfl
theorem w_1407 : Cond.code ⟨"java/lang/Math", "floorMod", "(II)I"⟩ prog_23_method_50_code 3 (Option.some ClassFile.FieldType.int) ∈ gw := gw_in (i := 1535) (by decide +kernel) rfl
theorem w_1408 : Cond.methodLink "LaceBonds$Book" 41 ⟨"LaceBonds$Book", "dayAt", "(I)I"⟩ ∈ gw := gw_in (i := 1536) (by decide +kernel) rfl
theorem w_1409 : Cond.instanceMethod ⟨"LaceBonds$Book", "dayAt", "(I)I"⟩ ∈ gw := gw_in (i := 1537) (by decide +kernel) rfl
theorem w_141 : Cond.fieldLink "LaceBonds" 259 "LaceBonds$Land" "book" "LLaceBonds$Book;" ∈ gw := gw_in (i := 269) (by decide +kernel) rfl
theorem w_1410 : Cond.selects "LaceBonds$Book" ⟨"LaceBonds$Book", "dayAt", "(I)I"⟩ ⟨"LaceBonds$Book", "dayAt", "(I)I"⟩ ∈ gw := gw_in (i := 1538) (by decide +kernel) rfl
theorem w_1411 : Cond.code ⟨"LaceBonds$Book", "dayAt", "(I)I"⟩ prog_3_method_4_code 2 (Option.some ClassFile.FieldType.int) ∈ gw := gw_in (i := 1539) (by decide +kernel) rfl
theorem w_1444 : Cond.methodLink "LaceBondsModel" 48 ⟨"LaceBondsModel", "comesBack", "(I)V"⟩ ∈ gw := gw_in (i := 1572) (by decide +kernel) rfl
theorem w_1446 : Cond.instanceMethod ⟨"LaceBondsModel", "comesBack", "(I)V"⟩ ∈ gw := gw_in (i := 1574) (by decide +kernel) rfl
theorem w_1447 : Cond.code ⟨"LaceBondsModel", "comesBack", "(I)V"⟩ prog_14_method_25_code 2 (none) ∈ gw := gw_in (i := 1575) (by decide +kernel) rfl
theorem w_1448 : Cond.methodLink "LaceBondsModel" 80 ⟨"LaceBondsModel", "tellsLace", "(IIIIII)V"⟩ ∈ gw := gw_in (i := 1576) (by decide +kernel) rfl
theorem w_1450 : Cond.instanceMethod ⟨"LaceBondsModel", "tellsLace", "(IIIIII)V"⟩ ∈ gw := gw_in (i := 1578) (by decide +kernel) rfl
theorem w_1451 : Cond.code ⟨"LaceBondsModel", "tellsLace", "(IIIIII)V"⟩ prog_14_method_24_code 7 (none) ∈ gw := gw_in (i := 1579) (by decide +kernel) rfl
theorem w_1452 : Cond.methodLink "LaceBondsModel" 67 ⟨"LaceBondsModel", "laceAt", "(II)I"⟩ ∈ gw := gw_in (i := 1580) (by decide +kernel) rfl
theorem w_1453 : Cond.static ⟨"LaceBondsModel", "laceAt", "(II)I"⟩ ∈ gw := gw_in (i := 1581) (by decide +kernel) rfl
theorem w_1454 : Cond.code ⟨"LaceBondsModel", "laceAt", "(II)I"⟩ prog_14_method_15_code 2 (Option.some ClassFile.FieldType.int) ∈ gw := gw_in (i := 1582) (by decide +kernel) rfl
theorem w_1455 : Cond.fieldLink "LaceBondsModel" 3 "LaceBondsModel" "thrown" "I" ∈ gw := gw_in (i := 1583) (by decide +kernel) rfl
theorem w_1456 : Cond.fieldLink "LaceBondsModel" 13 "LaceBondsModel" "world" "[I" ∈ gw := gw_in (i := 1584) (by decide +kernel) rfl
theorem w_1457 : Cond.fieldLink "LaceBondsModel" 17 "LaceBondsModel" "image" "[I" ∈ gw := gw_in (i := 1585) (by decide +kernel) rfl
theorem w_1459 : Cond.fieldLink "LaceBondsModel" 23 "LaceBondsModel" "trial" "[I" ∈ gw := gw_in (i := 1587) (by decide +kernel) rfl
theorem w_1460 : Cond.fieldLink "LaceBondsModel" 26 "LaceBondsModel" "acts" "[I" ∈ gw := gw_in (i := 1588) (by decide +kernel) rfl
theorem w_1461 : Cond.fieldLink "LaceBondsModel" 52 "LaceBondsModel" "hasImage" "Z" ∈ gw := gw_in (i := 1589) (by decide +kernel) rfl
theorem w_1462 : Cond.fieldLink "LaceBondsModel" 56 "LaceBondsModel" "remembered" "I" ∈ gw := gw_in (i := 1590) (by decide +kernel) rfl
theorem w_1463 : Cond.fieldLink "LaceBondsModel" 29 "LaceBondsModel" "tape" "[B" ∈ gw := gw_in (i := 1591) (by decide +kernel) rfl
theorem w_1464 : Cond.fieldLink "LaceBondsModel" 93 "LaceBondsModel" "taped" "I" ∈ gw := gw_in (i := 1592) (by decide +kernel) rfl
theorem w_1465 : Cond.fieldLink "LaceBondsModel" 96 "LaceBondsModel" "point" "I" ∈ gw := gw_in (i := 1593) (by decide +kernel) rfl
theorem w_1466 : Cond.fieldLink "LaceBondsModel" 99 "LaceBondsModel" "end" "I" ∈ gw := gw_in (i := 1594) (by decide +kernel) rfl
theorem w_1467 : Cond.fieldLink "LaceBondsModel" 106 "LaceBondsModel" "begin" "I" ∈ gw := gw_in (i := 1595) (by decide +kernel) rfl
theorem w_1469 : Cond.fieldLink "LaceBondsModel" 33 "LaceBondsModel" "faultAt" "I" ∈ gw := gw_in (i := 1597) (by decide +kernel) rfl
theorem w_1470 : Cond.fieldLink "LaceBondsModel" 36 "LaceBondsModel" "five" "[I" ∈ gw := gw_in (i := 1598) (by decide +kernel) rfl
theorem w_1471 : Cond.fieldLink "LaceBondsModel" 187 "LaceBondsModel" "steps" "I" ∈ gw := gw_in (i := 1599) (by decide +kernel) rfl
theorem w_1473 : Cond.fieldLink "LaceBondsModel" 42 "LaceBondsModel" "days" "[I" ∈ gw := gw_in (i := 1601) (by decide +kernel) rfl
theorem w_1474 : Cond.fieldLink "LaceBondsModel" 45 "LaceBondsModel" "least" "[I" ∈ gw := gw_in (i := 1602) (by decide +kernel) rfl
theorem w_1548 : Cond.methodLink "LaceBondsModel" 252 ⟨"LaceBondsModel", "uses", "()V"⟩ ∈ gw := gw_in (i := 1676) (by decide +kernel) rfl
theorem w_1550 : Cond.instanceMethod ⟨"LaceBondsModel", "uses", "()V"⟩ ∈ gw := gw_in (i := 1678) (by decide +kernel) rfl
theorem w_1551 : Cond.code ⟨"LaceBondsModel", "uses", "()V"⟩ prog_14_method_39_code 1 (none) ∈ gw := gw_in (i := 1679) (by decide +kernel) rfl
theorem w_1552 : Cond.methodLink "LaceBondsModel" 109 ⟨"LaceBondsModel", "blanks", "()V"⟩ ∈ gw := gw_in (i := 1680) (by decide +kernel) rfl
theorem w_1554 : Cond.instanceMethod ⟨"LaceBondsModel", "blanks", "()V"⟩ ∈ gw := gw_in (i := 1682) (by decide +kernel) rfl
theorem w_1555 : Cond.code ⟨"LaceBondsModel", "blanks", "()V"⟩ prog_14_method_31_code 1 (none) ∈ gw := gw_in (i := 1683) (by decide +kernel) rfl
theorem w_1556 : Cond.methodLink "LaceBondsModel" 102 ⟨"LaceBondsModel", "isAt", "(II)Z"⟩ ∈ gw := gw_in (i := 1684) (by decide +kernel) rfl
theorem w_1558 : Cond.instanceMethod ⟨"LaceBondsModel", "isAt", "(II)Z"⟩ ∈ gw := gw_in (i := 1686) (by decide +kernel) rfl
theorem w_1559 : Cond.code ⟨"LaceBondsModel", "isAt", "(II)Z"⟩ prog_14_method_30_code 3 (Option.some ClassFile.FieldType.boolean) ∈ gw := gw_in (i := 1687) (by decide +kernel) rfl
theorem w_1583 : Cond.methodLink "LaceBondsModel" 59 ⟨"LaceBondsModel", "people", "()I"⟩ ∈ gw := gw_in (i := 1711) (by decide +kernel) rfl
theorem w_1585 : Cond.instanceMethod ⟨"LaceBondsModel", "people", "()I"⟩ ∈ gw := gw_in (i := 1713) (by decide +kernel) rfl
theorem w_1586 : Cond.code ⟨"LaceBondsModel", "people", "()I"⟩ prog_14_method_10_code 1 (Option.some ClassFile.FieldType.int) ∈ gw := gw_in (i := 1714) (by decide +kernel) rfl
theorem w_1587 : Cond.methodLink "LaceBondsModel" 128 ⟨"LaceBondsModel", "number", "(II)I"⟩ ∈ gw := gw_in (i := 1715) (by decide +kernel) rfl
theorem w_1589 : Cond.instanceMethod ⟨"LaceBondsModel", "number", "(II)I"⟩ ∈ gw := gw_in (i := 1717) (by decide +kernel) rfl
theorem w_1590 : Cond.code ⟨"LaceBondsModel", "number", "(II)I"⟩ prog_14_method_36_code 4 (Option.some ClassFile.FieldType.int) ∈ gw := gw_in (i := 1718) (by decide +kernel) rfl
theorem w_1597 : Cond.methodLink "LaceBondsModel" 63 ⟨"LaceBondsModel", "at", "(II)I"⟩ ∈ gw := gw_in (i := 1725) (by decide +kernel) rfl
theorem w_1598 : Cond.static ⟨"LaceBondsModel", "at", "(II)I"⟩ ∈ gw := gw_in (i := 1726) (by decide +kernel) rfl
theorem w_1599 : Cond.code ⟨"LaceBondsModel", "at", "(II)I"⟩ prog_14_method_13_code 2 (Option.some ClassFile.FieldType.int) ∈ gw := gw_in (i := 1727) (by decide +kernel) rfl
theorem w_1605 : Cond.methodLink "LaceBondsModel" 77 ⟨"LaceBondsModel", "laces", "()I"⟩ ∈ gw := gw_in (i := 1733) (by decide +kernel) rfl
theorem w_1607 : Cond.instanceMethod ⟨"LaceBondsModel", "laces", "()I"⟩ ∈ gw := gw_in (i := 1735) (by decide +kernel) rfl
theorem w_1608 : Cond.code ⟨"LaceBondsModel", "laces", "()I"⟩ prog_14_method_11_code 1 (Option.some ClassFile.FieldType.int) ∈ gw := gw_in (i := 1736) (by decide +kernel) rfl
theorem w_1609 : Cond.methodLink "LaceBondsModel" 138 ⟨"LaceBondsModel", "isIn", "(I)Z"⟩ ∈ gw := gw_in (i := 1737) (by decide +kernel) rfl
theorem w_1611 : Cond.instanceMethod ⟨"LaceBondsModel", "isIn", "(I)Z"⟩ ∈ gw := gw_in (i := 1739) (by decide +kernel) rfl
theorem w_1612 : Cond.code ⟨"LaceBondsModel", "isIn", "(I)Z"⟩ prog_14_method_20_code 2 (Option.some ClassFile.FieldType.boolean) ∈ gw := gw_in (i := 1740) (by decide +kernel) rfl
theorem w_1613 : Cond.methodLink "LaceBondsModel" 70 ⟨"LaceBondsModel", "ofLace", "(II)I"⟩ ∈ gw := gw_in (i := 1741) (by decide +kernel) rfl
theorem w_1615 : Cond.instanceMethod ⟨"LaceBondsModel", "ofLace", "(II)I"⟩ ∈ gw := gw_in (i := 1743) (by decide +kernel) rfl
theorem w_1616 : Cond.code ⟨"LaceBondsModel", "ofLace", "(II)I"⟩ prog_14_method_16_code 3 (Option.some ClassFile.FieldType.int) ∈ gw := gw_in (i := 1744) (by decide +kernel) rfl
theorem w_1618 : Cond.methodLink "LaceBondsModel" 144 ⟨"LaceBondsModel", "ownerOf", "(I)I"⟩ ∈ gw := gw_in (i := 1746) (by decide +kernel) rfl
theorem w_1619 : Cond.static ⟨"LaceBondsModel", "ownerOf", "(I)I"⟩ ∈ gw := gw_in (i := 1747) (by decide +kernel) rfl
theorem w_1620 : Cond.code ⟨"LaceBondsModel", "ownerOf", "(I)I"⟩ prog_14_method_17_code 1 (Option.some ClassFile.FieldType.int) ∈ gw := gw_in (i := 1748) (by decide +kernel) rfl
theorem w_1695 : Cond.methodLink "LaceBondsModel" 263 ⟨"LaceBondsModel", "throwsIf", "(ZI)Z"⟩ ∈ gw := gw_in (i := 1823) (by decide +kernel) rfl
theorem w_1697 : Cond.instanceMethod ⟨"LaceBondsModel", "throwsIf", "(ZI)Z"⟩ ∈ gw := gw_in (i := 1825) (by decide +kernel) rfl
theorem w_1698 : Cond.code ⟨"LaceBondsModel", "throwsIf", "(ZI)Z"⟩ prog_14_method_2_code 3 (Option.some ClassFile.FieldType.boolean) ∈ gw := gw_in (i := 1826) (by decide +kernel) rfl
theorem w_1707 : Cond.methodLink "LaceBondsModel" 305 ⟨"LaceBondsModel", "noPerson", "(I)Z"⟩ ∈ gw := gw_in (i := 1835) (by decide +kernel) rfl
theorem w_1709 : Cond.instanceMethod ⟨"LaceBondsModel", "noPerson", "(I)Z"⟩ ∈ gw := gw_in (i := 1837) (by decide +kernel) rfl
theorem w_1710 : Cond.code ⟨"LaceBondsModel", "noPerson", "(I)Z"⟩ prog_14_method_21_code 2 (Option.some ClassFile.FieldType.boolean) ∈ gw := gw_in (i := 1838) (by decide +kernel) rfl
theorem w_1711 : Cond.methodLink "LaceBondsModel" 73 ⟨"LaceBondsModel", "in", "(III)Z"⟩ ∈ gw := gw_in (i := 1839) (by decide +kernel) rfl
theorem w_1712 : Cond.static ⟨"LaceBondsModel", "in", "(III)Z"⟩ ∈ gw := gw_in (i := 1840) (by decide +kernel) rfl
theorem w_1713 : Cond.code ⟨"LaceBondsModel", "in", "(III)Z"⟩ prog_14_method_3_code 3 (Option.some ClassFile.FieldType.boolean) ∈ gw := gw_in (i := 1841) (by decide +kernel) rfl
theorem w_1714 : Cond.methodLink "LaceBondsModel" 269 ⟨"LaceBondsModel", "heldBy", "(I)I"⟩ ∈ gw := gw_in (i := 1842) (by decide +kernel) rfl
theorem w_1716 : Cond.instanceMethod ⟨"LaceBondsModel", "heldBy", "(I)I"⟩ ∈ gw := gw_in (i := 1844) (by decide +kernel) rfl
theorem w_1717 : Cond.code ⟨"LaceBondsModel", "heldBy", "(I)I"⟩ prog_14_method_59_code 4 (Option.some ClassFile.FieldType.int) ∈ gw := gw_in (i := 1845) (by decide +kernel) rfl
theorem w_1718 : Cond.methodLink "LaceBondsModel" 308 ⟨"LaceBondsModel", "owesOf", "(I)I"⟩ ∈ gw := gw_in (i := 1846) (by decide +kernel) rfl
theorem w_1720 : Cond.instanceMethod ⟨"LaceBondsModel", "owesOf", "(I)I"⟩ ∈ gw := gw_in (i := 1848) (by decide +kernel) rfl
theorem w_1721 : Cond.code ⟨"LaceBondsModel", "owesOf", "(I)I"⟩ prog_14_method_68_code 4 (Option.some ClassFile.FieldType.int) ∈ gw := gw_in (i := 1849) (by decide +kernel) rfl
theorem w_1722 : Cond.methodLink "LaceBondsModel" 296 ⟨"LaceBondsModel", "isPledged", "(I)Z"⟩ ∈ gw := gw_in (i := 1850) (by decide +kernel) rfl
theorem w_1724 : Cond.instanceMethod ⟨"LaceBondsModel", "isPledged", "(I)Z"⟩ ∈ gw := gw_in (i := 1852) (by decide +kernel) rfl
theorem w_1725 : Cond.code ⟨"LaceBondsModel", "isPledged", "(I)Z"⟩ prog_14_method_18_code 2 (Option.some ClassFile.FieldType.boolean) ∈ gw := gw_in (i := 1853) (by decide +kernel) rfl
theorem w_1730 : Cond.methodLink "LaceBondsModel" 84 ⟨"LaceBondsModel", "of", "(II)I"⟩ ∈ gw := gw_in (i := 1858) (by decide +kernel) rfl
theorem w_1732 : Cond.instanceMethod ⟨"LaceBondsModel", "of", "(II)I"⟩ ∈ gw := gw_in (i := 1860) (by decide +kernel) rfl
theorem w_1733 : Cond.code ⟨"LaceBondsModel", "of", "(II)I"⟩ prog_14_method_14_code 3 (Option.some ClassFile.FieldType.int) ∈ gw := gw_in (i := 1861) (by decide +kernel) rfl
theorem w_1738 : Cond.methodLink "LaceBondsModel" 302 ⟨"LaceBondsModel", "lostOnes", "()I"⟩ ∈ gw := gw_in (i := 1866) (by decide +kernel) rfl
theorem w_1740 : Cond.instanceMethod ⟨"LaceBondsModel", "lostOnes", "()I"⟩ ∈ gw := gw_in (i := 1868) (by decide +kernel) rfl
theorem w_1741 : Cond.code ⟨"LaceBondsModel", "lostOnes", "()I"⟩ prog_14_method_70_code 3 (Option.some ClassFile.FieldType.int) ∈ gw := gw_in (i := 1869) (by decide +kernel) rfl
theorem w_1742 : Cond.methodLink "LaceBondsModel" 299 ⟨"LaceBondsModel", "isLost", "(I)Z"⟩ ∈ gw := gw_in (i := 1870) (by decide +kernel) rfl
theorem w_1744 : Cond.instanceMethod ⟨"LaceBondsModel", "isLost", "(I)Z"⟩ ∈ gw := gw_in (i := 1872) (by decide +kernel) rfl
theorem w_1745 : Cond.code ⟨"LaceBondsModel", "isLost", "(I)Z"⟩ prog_14_method_19_code 2 (Option.some ClassFile.FieldType.boolean) ∈ gw := gw_in (i := 1873) (by decide +kernel) rfl
theorem w_1746 : Cond.methodLink "LaceBondsModel" 272 ⟨"java/lang/Integer", "bitCount", "(I)I"⟩ ∈ gw := gw_in (i := 1874) (by decide +kernel) rfl
theorem w_1751 : Cond.methodLink "LaceBondsModel" 317 ⟨"LaceBondsModel", "noLace", "(I)Z"⟩ ∈ gw := gw_in (i := 1879) (by decide +kernel) rfl
theorem w_1753 : Cond.instanceMethod ⟨"LaceBondsModel", "noLace", "(I)Z"⟩ ∈ gw := gw_in (i := 1881) (by decide +kernel) rfl
theorem w_1754 : Cond.code ⟨"LaceBondsModel", "noLace", "(I)Z"⟩ prog_14_method_22_code 2 (Option.some ClassFile.FieldType.boolean) ∈ gw := gw_in (i := 1882) (by decide +kernel) rfl
theorem w_1759 : Cond.methodLink "LaceBondsModel" 320 ⟨"LaceBondsModel", "noPlace", "(I)Z"⟩ ∈ gw := gw_in (i := 1887) (by decide +kernel) rfl
theorem w_1760 : Cond.static ⟨"LaceBondsModel", "noPlace", "(I)Z"⟩ ∈ gw := gw_in (i := 1888) (by decide +kernel) rfl
theorem w_1761 : Cond.code ⟨"LaceBondsModel", "noPlace", "(I)Z"⟩ prog_14_method_23_code 1 (Option.some ClassFile.FieldType.boolean) ∈ gw := gw_in (i := 1889) (by decide +kernel) rfl
theorem w_1794 : Cond.methodLink "LaceBondsModel" 293 ⟨"java/lang/Math", "max", "(II)I"⟩ ∈ gw := gw_in (i := 1922) (by decide +kernel) rfl
theorem w_1799 : Cond.methodLink "LaceBondsModel" 87 ⟨"java/lang/Math", "min", "(II)I"⟩ ∈ gw := gw_in (i := 1927) (by decide +kernel) rfl
theorem w_1812 : Cond.methodLink "LaceBondsModel" 339 ⟨"LaceBondsModel", "remembers", "()V"⟩ ∈ gw := gw_in (i := 1940) (by decide +kernel) rfl
theorem w_1814 : Cond.instanceMethod ⟨"LaceBondsModel", "remembers", "()V"⟩ ∈ gw := gw_in (i := 1942) (by decide +kernel) rfl
theorem w_1815 : Cond.code ⟨"LaceBondsModel", "remembers", "()V"⟩ prog_14_method_8_code 2 (none) ∈ gw := gw_in (i := 1943) (by decide +kernel) rfl
theorem w_1816 : Cond.methodLink "LaceBondsModel" 332 ⟨"LaceBondsModel", "gets", "(II)V"⟩ ∈ gw := gw_in (i := 1944) (by decide +kernel) rfl
theorem w_1818 : Cond.instanceMethod ⟨"LaceBondsModel", "gets", "(II)V"⟩ ∈ gw := gw_in (i := 1946) (by decide +kernel) rfl
theorem w_1819 : Cond.code ⟨"LaceBondsModel", "gets", "(II)V"⟩ prog_14_method_26_code 3 (none) ∈ gw := gw_in (i := 1947) (by decide +kernel) rfl
theorem w_1820 : Cond.methodLink "LaceBondsModel" 335 ⟨"LaceBondsModel", "tells", "(III)V"⟩ ∈ gw := gw_in (i := 1948) (by decide +kernel) rfl
theorem w_1822 : Cond.instanceMethod ⟨"LaceBondsModel", "tells", "(III)V"⟩ ∈ gw := gw_in (i := 1950) (by decide +kernel) rfl
theorem w_1823 : Cond.code ⟨"LaceBondsModel", "tells", "(III)V"⟩ prog_14_method_78_code 5 (none) ∈ gw := gw_in (i := 1951) (by decide +kernel) rfl
theorem w_1828 : Cond.methodLink "LaceBondsModel" 342 ⟨"LaceBondsModel", "isPaid", "(II)V"⟩ ∈ gw := gw_in (i := 1956) (by decide +kernel) rfl
theorem w_1830 : Cond.instanceMethod ⟨"LaceBondsModel", "isPaid", "(II)V"⟩ ∈ gw := gw_in (i := 1958) (by decide +kernel) rfl
theorem w_1831 : Cond.code ⟨"LaceBondsModel", "isPaid", "(II)V"⟩ prog_14_method_79_code 4 (none) ∈ gw := gw_in (i := 1959) (by decide +kernel) rfl
theorem w_1860 : Cond.constant "LaceBondsModel" 92 1103515245 ∈ gw := gw_in (i := 1988) (by decide +kernel) rfl
theorem w_187 : Cond.fieldLink "LaceBonds$Law" 9 "LaceBonds$Law" "told" "Z" ∈ gw := gw_in (i := 315) (by decide +kernel) rfl
theorem w_1876 : Cond.methodLink "LaceBondsModel" 348 ⟨"LaceBondsModel", "isLostNow", "(I)V"⟩ ∈ gw := gw_in (i := 2004) (by decide +kernel) rfl
theorem w_1878 : Cond.instanceMethod ⟨"LaceBondsModel", "isLostNow", "(I)V"⟩ ∈ gw := gw_in (i := 2006) (by decide +kernel) rfl
theorem w_1879 : Cond.code ⟨"LaceBondsModel", "isLostNow", "(I)V"⟩ prog_14_method_80_code 3 (none) ∈ gw := gw_in (i := 2007) (by decide +kernel) rfl
theorem w_190 : Cond.fieldLink "LaceBonds$Law" 15 "LaceBonds$Law" "lines" "I" ∈ gw := gw_in (i := 318) (by decide +kernel) rfl
theorem w_1900 : Cond.constant "LaceBondsModel" 373 1000000 ∈ gw := gw_in (i := 2028) (by decide +kernel) rfl
theorem w_1913 : Cond.methodLink "LaceBondsModel" 380 ⟨"LaceBondsModel", "has", "(II)Z"⟩ ∈ gw := gw_in (i := 2041) (by decide +kernel) rfl
theorem w_1914 : Cond.static ⟨"LaceBondsModel", "has", "(II)Z"⟩ ∈ gw := gw_in (i := 2042) (by decide +kernel) rfl
theorem w_1915 : Cond.code ⟨"LaceBondsModel", "has", "(II)Z"⟩ prog_14_method_4_code 2 (Option.some ClassFile.FieldType.boolean) ∈ gw := gw_in (i := 2043) (by decide +kernel) rfl
theorem w_192 : Cond.fieldLink "LaceBonds$Law" 19 "LaceBonds$Law" "size" "I" ∈ gw := gw_in (i := 320) (by decide +kernel) rfl
theorem w_1920 : Cond.methodLink "LaceBondsModel" 377 ⟨"LaceBondsModel", "leastOf", "(II)I"⟩ ∈ gw := gw_in (i := 2048) (by decide +kernel) rfl
theorem w_1922 : Cond.instanceMethod ⟨"LaceBondsModel", "leastOf", "(II)I"⟩ ∈ gw := gw_in (i := 2050) (by decide +kernel) rfl
theorem w_1923 : Cond.code ⟨"LaceBondsModel", "leastOf", "(II)I"⟩ prog_14_method_98_code 3 (Option.some ClassFile.FieldType.int) ∈ gw := gw_in (i := 2051) (by decide +kernel) rfl
theorem w_193 : Cond.fieldLink "LaceBonds$Law" 22 "LaceBonds$Law" "kinds" "[I" ∈ gw := gw_in (i := 321) (by decide +kernel) rfl
theorem w_1932 : Cond.methodLink "LaceBondsModel" 389 ⟨"LaceBondsModel", "pledgedOnes", "()I"⟩ ∈ gw := gw_in (i := 2060) (by decide +kernel) rfl
theorem w_1934 : Cond.instanceMethod ⟨"LaceBondsModel", "pledgedOnes", "()I"⟩ ∈ gw := gw_in (i := 2062) (by decide +kernel) rfl
theorem w_1935 : Cond.code ⟨"LaceBondsModel", "pledgedOnes", "()I"⟩ prog_14_method_71_code 3 (Option.some ClassFile.FieldType.int) ∈ gw := gw_in (i := 2063) (by decide +kernel) rfl
theorem w_1936 : Cond.methodLink "LaceBondsModel" 392 ⟨"LaceBondsModel", "isRing", "(I)Z"⟩ ∈ gw := gw_in (i := 2064) (by decide +kernel) rfl
theorem w_1938 : Cond.instanceMethod ⟨"LaceBondsModel", "isRing", "(I)Z"⟩ ∈ gw := gw_in (i := 2066) (by decide +kernel) rfl
theorem w_1939 : Cond.code ⟨"LaceBondsModel", "isRing", "(I)Z"⟩ prog_14_method_103_code 6 (Option.some ClassFile.FieldType.boolean) ∈ gw := gw_in (i := 2067) (by decide +kernel) rfl
theorem w_194 : Cond.fieldLink "LaceBonds$Law" 26 "LaceBonds$Law" "numbers" "[I" ∈ gw := gw_in (i := 322) (by decide +kernel) rfl
theorem w_1948 : Cond.methodLink "LaceBondsModel" 398 ⟨"LaceBondsModel", "leadsFrom", "(I)I"⟩ ∈ gw := gw_in (i := 2076) (by decide +kernel) rfl
theorem w_195 : Cond.fieldLink "LaceBonds$Law" 29 "LaceBonds$Law" "begins" "[I" ∈ gw := gw_in (i := 323) (by decide +kernel) rfl
theorem w_1950 : Cond.instanceMethod ⟨"LaceBondsModel", "leadsFrom", "(I)I"⟩ ∈ gw := gw_in (i := 2078) (by decide +kernel) rfl
theorem w_1951 : Cond.code ⟨"LaceBondsModel", "leadsFrom", "(I)I"⟩ prog_14_method_107_code 4 (Option.some ClassFile.FieldType.int) ∈ gw := gw_in (i := 2079) (by decide +kernel) rfl
theorem w_1952 : Cond.methodLink "LaceBondsModel" 395 ⟨"LaceBondsModel", "holdersOf", "(I)I"⟩ ∈ gw := gw_in (i := 2080) (by decide +kernel) rfl
theorem w_1954 : Cond.instanceMethod ⟨"LaceBondsModel", "holdersOf", "(I)I"⟩ ∈ gw := gw_in (i := 2082) (by decide +kernel) rfl
theorem w_1955 : Cond.code ⟨"LaceBondsModel", "holdersOf", "(I)I"⟩ prog_14_method_106_code 4 (Option.some ClassFile.FieldType.int) ∈ gw := gw_in (i := 2083) (by decide +kernel) rfl
theorem w_196 : Cond.fieldLink "LaceBonds$Law" 32 "LaceBonds$Law" "ends" "[I" ∈ gw := gw_in (i := 324) (by decide +kernel) rfl
theorem w_1964 : Cond.methodLink "LaceBondsModel" 401 ⟨"LaceBondsModel", "amountOf", "(I)I"⟩ ∈ gw := gw_in (i := 2092) (by decide +kernel) rfl
theorem w_1966 : Cond.instanceMethod ⟨"LaceBondsModel", "amountOf", "(I)I"⟩ ∈ gw := gw_in (i := 2094) (by decide +kernel) rfl
theorem w_1967 : Cond.code ⟨"LaceBondsModel", "amountOf", "(I)I"⟩ prog_14_method_110_code 4 (Option.some ClassFile.FieldType.int) ∈ gw := gw_in (i := 2095) (by decide +kernel) rfl
theorem w_1968 : Cond.methodLink "LaceBondsModel" 404 ⟨"LaceBondsModel", "canBePaid", "(I)Z"⟩ ∈ gw := gw_in (i := 2096) (by decide +kernel) rfl
theorem w_197 : Cond.fieldLink "LaceBonds$Law" 35 "LaceBonds$Law" "steps" "[I" ∈ gw := gw_in (i := 325) (by decide +kernel) rfl
theorem w_1970 : Cond.instanceMethod ⟨"LaceBondsModel", "canBePaid", "(I)Z"⟩ ∈ gw := gw_in (i := 2098) (by decide +kernel) rfl
theorem w_1971 : Cond.code ⟨"LaceBondsModel", "canBePaid", "(I)Z"⟩ prog_14_method_111_code 4 (Option.some ClassFile.FieldType.boolean) ∈ gw := gw_in (i := 2099) (by decide +kernel) rfl
theorem w_198 : Cond.fieldLink "LaceBonds$Law" 38 "LaceBonds$Law" "facts" "[I" ∈ gw := gw_in (i := 326) (by decide +kernel) rfl
theorem w_1988 : Cond.methodLink "LaceBondsModel" 410 ⟨"LaceBondsModel", "hangsOn", "(I)I"⟩ ∈ gw := gw_in (i := 2116) (by decide +kernel) rfl
theorem w_1990 : Cond.instanceMethod ⟨"LaceBondsModel", "hangsOn", "(I)I"⟩ ∈ gw := gw_in (i := 2118) (by decide +kernel) rfl
theorem w_1991 : Cond.code ⟨"LaceBondsModel", "hangsOn", "(I)I"⟩ prog_14_method_116_code 4 (Option.some ClassFile.FieldType.int) ∈ gw := gw_in (i := 2119) (by decide +kernel) rfl
theorem w_2 : Cond.initialized "LaceBonds$Tape" ∈ gw := gw_in (i := 130) (by decide +kernel) rfl
theorem w_2000 : Cond.methodLink "LaceBondsModel" 413 ⟨"LaceBondsModel", "everybody", "()I"⟩ ∈ gw := gw_in (i := 2128) (by decide +kernel) rfl
theorem w_2002 : Cond.instanceMethod ⟨"LaceBondsModel", "everybody", "()I"⟩ ∈ gw := gw_in (i := 2130) (by decide +kernel) rfl
theorem w_2003 : Cond.code ⟨"LaceBondsModel", "everybody", "()I"⟩ prog_14_method_12_code 1 (Option.some ClassFile.FieldType.int) ∈ gw := gw_in (i := 2131) (by decide +kernel) rfl
theorem w_2004 : Cond.methodLink "LaceBondsModel" 416 ⟨"LaceBondsModel", "isNeeded", "(I)Z"⟩ ∈ gw := gw_in (i := 2132) (by decide +kernel) rfl
theorem w_2006 : Cond.instanceMethod ⟨"LaceBondsModel", "isNeeded", "(I)Z"⟩ ∈ gw := gw_in (i := 2134) (by decide +kernel) rfl
theorem w_2007 : Cond.code ⟨"LaceBondsModel", "isNeeded", "(I)Z"⟩ prog_14_method_119_code 4 (Option.some ClassFile.FieldType.boolean) ∈ gw := gw_in (i := 2135) (by decide +kernel) rfl
theorem w_2012 : Cond.methodLink "LaceBondsModel" 419 ⟨"LaceBondsModel", "isTold", "()Z"⟩ ∈ gw := gw_in (i := 2140) (by decide +kernel) rfl
theorem w_2014 : Cond.instanceMethod ⟨"LaceBondsModel", "isTold", "()Z"⟩ ∈ gw := gw_in (i := 2142) (by decide +kernel) rfl
theorem w_2015 : Cond.code ⟨"LaceBondsModel", "isTold", "()Z"⟩ prog_14_method_121_code 3 (Option.some ClassFile.FieldType.boolean) ∈ gw := gw_in (i := 2143) (by decide +kernel) rfl
theorem w_2016 : Cond.methodLink "LaceBondsModel" 422 ⟨"LaceBondsModel", "fits", "(I)Z"⟩ ∈ gw := gw_in (i := 2144) (by decide +kernel) rfl
theorem w_2018 : Cond.instanceMethod ⟨"LaceBondsModel", "fits", "(I)Z"⟩ ∈ gw := gw_in (i := 2146) (by decide +kernel) rfl
theorem w_2019 : Cond.code ⟨"LaceBondsModel", "fits", "(I)Z"⟩ prog_14_method_122_code 5 (Option.some ClassFile.FieldType.boolean) ∈ gw := gw_in (i := 2147) (by decide +kernel) rfl
theorem w_2060 : Cond.methodLink "LaceBondsModel" 428 ⟨"LaceBondsModel", "ofLog", "(II)I"⟩ ∈ gw := gw_in (i := 2188) (by decide +kernel) rfl
theorem w_2062 : Cond.instanceMethod ⟨"LaceBondsModel", "ofLog", "(II)I"⟩ ∈ gw := gw_in (i := 2190) (by decide +kernel) rfl
theorem w_2063 : Cond.code ⟨"LaceBondsModel", "ofLog", "(II)I"⟩ prog_14_method_133_code 3 (Option.some ClassFile.FieldType.int) ∈ gw := gw_in (i := 2191) (by decide +kernel) rfl
theorem w_230 : Cond.fieldLink "LaceBonds$LandReader" 9 "LaceBonds$LandReader" "land" "LLaceBonds$Land;" ∈ gw := gw_in (i := 358) (by decide +kernel) rfl
theorem w_232 : Cond.fieldLink "LaceBonds$LandReader" 15 "LaceBonds$LandReader" "text" "LLaceBonds$Tape;" ∈ gw := gw_in (i := 360) (by decide +kernel) rfl
theorem w_233 : Cond.sameField "LaceBonds$LandReader" "LaceBonds$Reader" "text" "LLaceBonds$Tape;" ∈ gw := gw_in (i := 361) (by decide +kernel) rfl
theorem w_25 : Cond.initialized "java/lang/Integer" ∈ gw := gw_in (i := 153) (by decide +kernel) rfl
theorem w_267 : Cond.fieldLink "LaceBonds$Acts" 21 "LaceBonds$Acts" "count" "I" ∈ gw := gw_in (i := 395) (by decide +kernel) rfl
theorem w_27 : Cond.initialized "java/lang/Math" ∈ gw := gw_in (i := 155) (by decide +kernel) rfl
theorem w_282 : Cond.fieldLink "LaceBonds$Rings" 9 "LaceBonds$Rings" "laces" "[I" ∈ gw := gw_in (i := 410) (by decide +kernel) rfl
theorem w_283 : Cond.fieldLink "LaceBonds$Rings" 15 "LaceBonds$Rings" "balance" "[I" ∈ gw := gw_in (i := 411) (by decide +kernel) rfl
theorem w_284 : Cond.fieldLink "LaceBonds$Rings" 18 "LaceBonds$Rings" "found" "I" ∈ gw := gw_in (i := 412) (by decide +kernel) rfl
theorem w_285 : Cond.fieldLink "LaceBonds" 329 "LaceBonds$Rings" "found" "I" ∈ gw := gw_in (i := 413) (by decide +kernel) rfl
theorem w_286 : Cond.fieldLink "LaceBonds$Rings" 22 "LaceBonds$Rings" "best" "I" ∈ gw := gw_in (i := 414) (by decide +kernel) rfl
theorem w_287 : Cond.fieldLink "LaceBonds" 332 "LaceBonds$Rings" "best" "I" ∈ gw := gw_in (i := 415) (by decide +kernel) rfl
theorem w_3 : Cond.initialized "LaceBonds$Land" ∈ gw := gw_in (i := 131) (by decide +kernel) rfl
theorem w_303 : Cond.fieldLink "LaceBonds$Ways" 9 "LaceBonds$Ways" "needs" "[I" ∈ gw := gw_in (i := 431) (by decide +kernel) rfl
theorem w_304 : Cond.fieldLink "LaceBonds$Ways" 15 "LaceBonds$Ways" "least" "[I" ∈ gw := gw_in (i := 432) (by decide +kernel) rfl
theorem w_305 : Cond.fieldLink "LaceBonds$Ways" 18 "LaceBonds$Ways" "people" "I" ∈ gw := gw_in (i := 433) (by decide +kernel) rfl
theorem w_319 : Cond.fieldLink "LaceBonds$Wearers" 25 "LaceBonds$Wearers" "tape" "LLaceBonds$Tape;" ∈ gw := gw_in (i := 447) (by decide +kernel) rfl
theorem w_320 : Cond.fieldLink "LaceBonds$Wearers" 9 "LaceBonds$Wearers" "setsWith" "[I" ∈ gw := gw_in (i := 448) (by decide +kernel) rfl
theorem w_321 : Cond.fieldLink "LaceBonds$Wearers" 15 "LaceBonds$Wearers" "people" "I" ∈ gw := gw_in (i := 449) (by decide +kernel) rfl
theorem w_322 : Cond.fieldLink "LaceBonds$Wearers" 19 "LaceBonds$Wearers" "count" "I" ∈ gw := gw_in (i := 450) (by decide +kernel) rfl
theorem w_324 : Cond.fieldLink "LaceBonds$Wearers" 22 "LaceBonds$Wearers" "inAll" "I" ∈ gw := gw_in (i := 452) (by decide +kernel) rfl
theorem w_337 : Cond.fieldLink "LaceBonds" 10 "LaceBonds" "tape" "LLaceBonds$Tape;" ∈ gw := gw_in (i := 465) (by decide +kernel) rfl
theorem w_338 : Cond.fieldLink "LaceBonds" 19 "LaceBonds" "now" "LLaceBonds$Land;" ∈ gw := gw_in (i := 466) (by decide +kernel) rfl
theorem w_347 : Cond.fieldLink "LaceBonds" 70 "LaceBonds" "ringSeeker" "LLaceBonds$Rings;" ∈ gw := gw_in (i := 475) (by decide +kernel) rfl
theorem w_349 : Cond.fieldLink "LaceBonds" 86 "LaceBonds" "wearers" "LLaceBonds$Wearers;" ∈ gw := gw_in (i := 477) (by decide +kernel) rfl
theorem w_384 : Cond.methodLink "LaceBonds" 98 ⟨"LaceBonds$Tape", "add", "(I)V"⟩ ∈ gw := gw_in (i := 512) (by decide +kernel) rfl
theorem w_385 : Cond.instanceMethod ⟨"LaceBonds$Tape", "add", "(I)V"⟩ ∈ gw := gw_in (i := 513) (by decide +kernel) rfl
theorem w_386 : Cond.selects "LaceBonds$Tape" ⟨"LaceBonds$Tape", "add", "(I)V"⟩ ⟨"LaceBonds$Tape", "add", "(I)V"⟩ ∈ gw := gw_in (i := 514) (by decide +kernel) rfl
theorem w_387 : Cond.code ⟨"LaceBonds$Tape", "add", "(I)V"⟩ prog_10_method_2_code 3 (none) ∈ gw := gw_in (i := 515) (by decide +kernel) rfl
theorem w_4 : Cond.initialized "LaceBonds$Book" ∈ gw := gw_in (i := 132) (by decide +kernel) rfl
theorem w_400 : Cond.methodLink "LaceBonds" 175 ⟨"LaceBonds$Land", "owedBy", "(I)I"⟩ ∈ gw := gw_in (i := 528) (by decide +kernel) rfl
theorem w_401 : Cond.instanceMethod ⟨"LaceBonds$Land", "owedBy", "(I)I"⟩ ∈ gw := gw_in (i := 529) (by decide +kernel) rfl
theorem w_402 : Cond.selects "LaceBonds$Land" ⟨"LaceBonds$Land", "owedBy", "(I)I"⟩ ⟨"LaceBonds$Land", "owedBy", "(I)I"⟩ ∈ gw := gw_in (i := 530) (by decide +kernel) rfl
theorem w_403 : Cond.code ⟨"LaceBonds$Land", "owedBy", "(I)I"⟩ prog_4_method_16_code 2 (Option.some ClassFile.FieldType.int) ∈ gw := gw_in (i := 531) (by decide +kernel) rfl
theorem w_405 : Cond.static ⟨"LaceBonds", "lacesOf", "(I)I"⟩ ∈ gw := gw_in (i := 533) (by decide +kernel) rfl
theorem w_406 : Cond.code ⟨"LaceBonds", "lacesOf", "(I)I"⟩ prog_1_method_60_code 1 (Option.some ClassFile.FieldType.int) ∈ gw := gw_in (i := 534) (by decide +kernel) rfl
theorem w_407 : Cond.methodLink "LaceBonds$Land" 149 ⟨"LaceBonds$Land", "amountOf", "(I)I"⟩ ∈ gw := gw_in (i := 535) (by decide +kernel) rfl
theorem w_408 : Cond.instanceMethod ⟨"LaceBonds$Land", "amountOf", "(I)I"⟩ ∈ gw := gw_in (i := 536) (by decide +kernel) rfl
theorem w_409 : Cond.selects "LaceBonds$Land" ⟨"LaceBonds$Land", "amountOf", "(I)I"⟩ ⟨"LaceBonds$Land", "amountOf", "(I)I"⟩ ∈ gw := gw_in (i := 537) (by decide +kernel) rfl
theorem w_410 : Cond.code ⟨"LaceBonds$Land", "amountOf", "(I)I"⟩ prog_4_method_18_code 4 (Option.some ClassFile.FieldType.int) ∈ gw := gw_in (i := 538) (by decide +kernel) rfl
theorem w_412 : Cond.static ⟨"LaceBonds", "hasBit", "(II)Z"⟩ ∈ gw := gw_in (i := 540) (by decide +kernel) rfl
theorem w_413 : Cond.code ⟨"LaceBonds", "hasBit", "(II)Z"⟩ prog_1_method_61_code 2 (Option.some ClassFile.FieldType.boolean) ∈ gw := gw_in (i := 541) (by decide +kernel) rfl
theorem w_418 : Cond.methodLink "LaceBonds" 326 ⟨"LaceBonds$Rings", "seek", "(LLaceBonds$Land;)V"⟩ ∈ gw := gw_in (i := 546) (by decide +kernel) rfl
theorem w_419 : Cond.instanceMethod ⟨"LaceBonds$Rings", "seek", "(LLaceBonds$Land;)V"⟩ ∈ gw := gw_in (i := 547) (by decide +kernel) rfl
theorem w_420 : Cond.selects "LaceBonds$Rings" ⟨"LaceBonds$Rings", "seek", "(LLaceBonds$Land;)V"⟩ ⟨"LaceBonds$Rings", "seek", "(LLaceBonds$Land;)V"⟩ ∈ gw := gw_in (i := 548) (by decide +kernel) rfl
theorem w_421 : Cond.code ⟨"LaceBonds$Rings", "seek", "(LLaceBonds$Land;)V"⟩ prog_9_method_2_code 7 (none) ∈ gw := gw_in (i := 549) (by decide +kernel) rfl
theorem w_422 : Cond.methodLink "LaceBonds$Rings" 25 ⟨"LaceBonds$Rings", "gather", "(LLaceBonds$Land;)I"⟩ ∈ gw := gw_in (i := 550) (by decide +kernel) rfl
theorem w_424 : Cond.instanceMethod ⟨"LaceBonds$Rings", "gather", "(LLaceBonds$Land;)I"⟩ ∈ gw := gw_in (i := 552) (by decide +kernel) rfl
theorem w_425 : Cond.code ⟨"LaceBonds$Rings", "gather", "(LLaceBonds$Land;)I"⟩ prog_9_method_3_code 4 (Option.some ClassFile.FieldType.int) ∈ gw := gw_in (i := 553) (by decide +kernel) rfl
theorem w_426 : Cond.methodLink "LaceBonds$Rings" 61 ⟨"LaceBonds$Land", "isPledged", "(I)Z"⟩ ∈ gw := gw_in (i := 554) (by decide +kernel) rfl
theorem w_427 : Cond.instanceMethod ⟨"LaceBonds$Land", "isPledged", "(I)Z"⟩ ∈ gw := gw_in (i := 555) (by decide +kernel) rfl
theorem w_428 : Cond.selects "LaceBonds$Land" ⟨"LaceBonds$Land", "isPledged", "(I)Z"⟩ ⟨"LaceBonds$Land", "isPledged", "(I)Z"⟩ ∈ gw := gw_in (i := 556) (by decide +kernel) rfl
theorem w_429 : Cond.code ⟨"LaceBonds$Land", "isPledged", "(I)Z"⟩ prog_4_method_11_code 2 (Option.some ClassFile.FieldType.boolean) ∈ gw := gw_in (i := 557) (by decide +kernel) rfl
theorem w_43 : Cond.fieldLink "LaceBonds$Tape" 9 "LaceBonds$Tape" "bytes" "[I" ∈ gw := gw_in (i := 171) (by decide +kernel) rfl
theorem w_430 : Cond.methodLink "LaceBonds$Rings" 29 ⟨"java/lang/Integer", "numberOfTrailingZeros", "(I)I"⟩ ∈ gw := gw_in (i := 558) (by decide +kernel) rfl
theorem w_431 : Cond.static ⟨"java/lang/Integer", "numberOfTrailingZeros", "(I)I"⟩ ∈ gw := gw_in (i := 559) (by decide +kernel) rfl
theorem w_432 : Cond.code ⟨"java/lang/Integer", "numberOfTrailingZeros", "(I)I"⟩ prog_22_method_48_code 2 (Option.some ClassFile.FieldType.int) ∈ gw := gw_in (i := 560) (by decide +kernel) rfl
theorem w_433 : Cond.constant "java/lang/Integer" 264 65536 ∈ gw := gw_in (i := 561) (by decide +kernel) rfl
theorem w_436 : Cond.static ⟨"LaceBonds", "ownerOf", "(I)I"⟩ ∈ gw := gw_in (i := 564) (by decide +kernel) rfl
theorem w_437 : Cond.code ⟨"LaceBonds", "ownerOf", "(I)I"⟩ prog_1_method_59_code 1 (Option.some ClassFile.FieldType.int) ∈ gw := gw_in (i := 565) (by decide +kernel) rfl
theorem w_438 : Cond.methodLink "LaceBonds$Rings" 50 ⟨"LaceBonds$Rings", "isBalanced", "()Z"⟩ ∈ gw := gw_in (i := 566) (by decide +kernel) rfl
theorem w_44 : Cond.fieldLink "LaceBonds$Wearers" 29 "LaceBonds$Tape" "bytes" "[I" ∈ gw := gw_in (i := 172) (by decide +kernel) rfl
theorem w_440 : Cond.instanceMethod ⟨"LaceBonds$Rings", "isBalanced", "()Z"⟩ ∈ gw := gw_in (i := 568) (by decide +kernel) rfl
theorem w_441 : Cond.code ⟨"LaceBonds$Rings", "isBalanced", "()Z"⟩ prog_9_method_4_code 2 (Option.some ClassFile.FieldType.boolean) ∈ gw := gw_in (i := 569) (by decide +kernel) rfl
theorem w_442 : Cond.methodLink "LaceBonds$Rings" 54 ⟨"LaceBonds$Rings", "take", "(I)V"⟩ ∈ gw := gw_in (i := 570) (by decide +kernel) rfl
theorem w_444 : Cond.instanceMethod ⟨"LaceBonds$Rings", "take", "(I)V"⟩ ∈ gw := gw_in (i := 572) (by decide +kernel) rfl
theorem w_445 : Cond.code ⟨"LaceBonds$Rings", "take", "(I)V"⟩ prog_9_method_5_code 3 (none) ∈ gw := gw_in (i := 573) (by decide +kernel) rfl
theorem w_446 : Cond.methodLink "LaceBonds$Rings" 65 ⟨"java/lang/Integer", "bitCount", "(I)I"⟩ ∈ gw := gw_in (i := 574) (by decide +kernel) rfl
theorem w_447 : Cond.static ⟨"java/lang/Integer", "bitCount", "(I)I"⟩ ∈ gw := gw_in (i := 575) (by decide +kernel) rfl
theorem w_448 : Cond.code ⟨"java/lang/Integer", "bitCount", "(I)I"⟩ prog_22_method_49_code 1 (Option.some ClassFile.FieldType.int) ∈ gw := gw_in (i := 576) (by decide +kernel) rfl
theorem w_449 : Cond.constant "java/lang/Integer" 265 1431655765 ∈ gw := gw_in (i := 577) (by decide +kernel) rfl
theorem w_45 : Cond.fieldLink "LaceBonds" 307 "LaceBonds$Tape" "bytes" "[I" ∈ gw := gw_in (i := 173) (by decide +kernel) rfl
theorem w_450 : Cond.constant "java/lang/Integer" 266 858993459 ∈ gw := gw_in (i := 578) (by decide +kernel) rfl
theorem w_451 : Cond.constant "java/lang/Integer" 267 252645135 ∈ gw := gw_in (i := 579) (by decide +kernel) rfl
theorem w_456 : Cond.methodLink "LaceBonds" 335 ⟨"java/lang/Integer", "bitCount", "(I)I"⟩ ∈ gw := gw_in (i := 584) (by decide +kernel) rfl
theorem w_46 : Cond.fieldLink "LaceBonds$Tape" 15 "LaceBonds$Tape" "size" "I" ∈ gw := gw_in (i := 174) (by decide +kernel) rfl
theorem w_461 : Cond.methodLink "LaceBonds" 361 ⟨"LaceBonds$Land", "hangingOn", "(I)I"⟩ ∈ gw := gw_in (i := 589) (by decide +kernel) rfl
theorem w_462 : Cond.instanceMethod ⟨"LaceBonds$Land", "hangingOn", "(I)I"⟩ ∈ gw := gw_in (i := 590) (by decide +kernel) rfl
theorem w_463 : Cond.selects "LaceBonds$Land" ⟨"LaceBonds$Land", "hangingOn", "(I)I"⟩ ⟨"LaceBonds$Land", "hangingOn", "(I)I"⟩ ∈ gw := gw_in (i := 591) (by decide +kernel) rfl
theorem w_464 : Cond.code ⟨"LaceBonds$Land", "hangingOn", "(I)I"⟩ prog_4_method_21_code 4 (Option.some ClassFile.FieldType.int) ∈ gw := gw_in (i := 592) (by decide +kernel) rfl
theorem w_465 : Cond.methodLink "LaceBonds" 352 ⟨"LaceBonds$Land", "amountOf", "(I)I"⟩ ∈ gw := gw_in (i := 593) (by decide +kernel) rfl
theorem w_47 : Cond.fieldLink "LaceBonds" 94 "LaceBonds$Tape" "size" "I" ∈ gw := gw_in (i := 175) (by decide +kernel) rfl
theorem w_470 : Cond.methodLink "LaceBonds" 364 ⟨"LaceBonds$Land", "isInEachPledge", "(I)Z"⟩ ∈ gw := gw_in (i := 598) (by decide +kernel) rfl
theorem w_471 : Cond.instanceMethod ⟨"LaceBonds$Land", "isInEachPledge", "(I)Z"⟩ ∈ gw := gw_in (i := 599) (by decide +kernel) rfl
theorem w_472 : Cond.selects "LaceBonds$Land" ⟨"LaceBonds$Land", "isInEachPledge", "(I)Z"⟩ ⟨"LaceBonds$Land", "isInEachPledge", "(I)Z"⟩ ∈ gw := gw_in (i := 600) (by decide +kernel) rfl
theorem w_473 : Cond.code ⟨"LaceBonds$Land", "isInEachPledge", "(I)Z"⟩ prog_4_method_24_code 3 (Option.some ClassFile.FieldType.boolean) ∈ gw := gw_in (i := 601) (by decide +kernel) rfl
theorem w_474 : Cond.methodLink "LaceBonds$Land" 106 ⟨"LaceBonds$Land", "isPledged", "(I)Z"⟩ ∈ gw := gw_in (i := 602) (by decide +kernel) rfl
theorem w_475 : Cond.methodLink "LaceBonds$Land" 172 ⟨"LaceBonds$Land", "partiesOf", "(I)I"⟩ ∈ gw := gw_in (i := 603) (by decide +kernel) rfl
theorem w_477 : Cond.instanceMethod ⟨"LaceBonds$Land", "partiesOf", "(I)I"⟩ ∈ gw := gw_in (i := 605) (by decide +kernel) rfl
theorem w_478 : Cond.code ⟨"LaceBonds$Land", "partiesOf", "(I)I"⟩ prog_4_method_35_code 3 (Option.some ClassFile.FieldType.int) ∈ gw := gw_in (i := 606) (by decide +kernel) rfl
theorem w_48 : Cond.fieldLink "LaceBonds$Tape" 19 "LaceBonds$Tape" "length" "I" ∈ gw := gw_in (i := 176) (by decide +kernel) rfl
theorem w_49 : Cond.fieldLink "LaceBonds$Tape" 22 "LaceBonds$Tape" "at" "I" ∈ gw := gw_in (i := 177) (by decide +kernel) rfl
theorem w_496 : Cond.methodLink "LaceBonds$Law" 58 ⟨"LaceBonds$Land", "gaitOf", "(I)I"⟩ ∈ gw := gw_in (i := 624) (by decide +kernel) rfl
theorem w_497 : Cond.instanceMethod ⟨"LaceBonds$Land", "gaitOf", "(I)I"⟩ ∈ gw := gw_in (i := 625) (by decide +kernel) rfl
theorem w_498 : Cond.selects "LaceBonds$Land" ⟨"LaceBonds$Land", "gaitOf", "(I)I"⟩ ⟨"LaceBonds$Land", "gaitOf", "(I)I"⟩ ∈ gw := gw_in (i := 626) (by decide +kernel) rfl
theorem w_499 : Cond.code ⟨"LaceBonds$Land", "gaitOf", "(I)I"⟩ prog_4_method_13_code 4 (Option.some ClassFile.FieldType.int) ∈ gw := gw_in (i := 627) (by decide +kernel) rfl
theorem w_500 : Cond.methodLink "LaceBonds$Law" 64 ⟨"java/lang/Integer", "bitCount", "(I)I"⟩ ∈ gw := gw_in (i := 628) (by decide +kernel) rfl
theorem w_501 : Cond.methodLink "LaceBonds$Law" 69 ⟨"LaceBonds$Land", "heldBy", "(I)I"⟩ ∈ gw := gw_in (i := 629) (by decide +kernel) rfl
theorem w_502 : Cond.instanceMethod ⟨"LaceBonds$Land", "heldBy", "(I)I"⟩ ∈ gw := gw_in (i := 630) (by decide +kernel) rfl
theorem w_503 : Cond.selects "LaceBonds$Land" ⟨"LaceBonds$Land", "heldBy", "(I)I"⟩ ⟨"LaceBonds$Land", "heldBy", "(I)I"⟩ ∈ gw := gw_in (i := 631) (by decide +kernel) rfl
theorem w_504 : Cond.code ⟨"LaceBonds$Land", "heldBy", "(I)I"⟩ prog_4_method_15_code 4 (Option.some ClassFile.FieldType.int) ∈ gw := gw_in (i := 632) (by decide +kernel) rfl
theorem w_516 : Cond.methodLink "LaceBonds$Land" 138 ⟨"LaceBonds$Land", "gaitOf", "(I)I"⟩ ∈ gw := gw_in (i := 644) (by decide +kernel) rfl
theorem w_517 : Cond.methodLink "LaceBonds$Land" 141 ⟨"java/lang/Integer", "bitCount", "(I)I"⟩ ∈ gw := gw_in (i := 645) (by decide +kernel) rfl
theorem w_518 : Cond.methodLink "LaceBonds$Land" 132 ⟨"java/lang/Math", "max", "(II)I"⟩ ∈ gw := gw_in (i := 646) (by decide +kernel) rfl
theorem w_519 : Cond.static ⟨"java/lang/Math", "max", "(II)I"⟩ ∈ gw := gw_in (i := 647) (by decide +kernel) rfl
theorem w_520 : Cond.code ⟨"java/lang/Math", "max", "(II)I"⟩ prog_23_method_65_code 2 (Option.some ClassFile.FieldType.int) ∈ gw := gw_in (i := 648) (by decide +kernel) rfl
theorem w_525 : Cond.methodLink "LaceBonds" 355 ⟨"LaceBonds$Land", "lacesThatAre", "(I)I"⟩ ∈ gw := gw_in (i := 653) (by decide +kernel) rfl
theorem w_526 : Cond.instanceMethod ⟨"LaceBonds$Land", "lacesThatAre", "(I)I"⟩ ∈ gw := gw_in (i := 654) (by decide +kernel) rfl
theorem w_527 : Cond.selects "LaceBonds$Land" ⟨"LaceBonds$Land", "lacesThatAre", "(I)I"⟩ ⟨"LaceBonds$Land", "lacesThatAre", "(I)I"⟩ ∈ gw := gw_in (i := 655) (by decide +kernel) rfl
theorem w_528 : Cond.code ⟨"LaceBonds$Land", "lacesThatAre", "(I)I"⟩ prog_4_method_12_code 4 (Option.some ClassFile.FieldType.int) ∈ gw := gw_in (i := 656) (by decide +kernel) rfl
theorem w_53 : Cond.fieldLink "LaceBonds$Tape" 25 "LaceBonds$Tape" "wrong" "I" ∈ gw := gw_in (i := 181) (by decide +kernel) rfl
theorem w_598 : Cond.methodLink "LaceBonds$Tape" 28 ⟨"LaceBonds$Tape", "useUp", "()I"⟩ ∈ gw := gw_in (i := 726) (by decide +kernel) rfl
theorem w_599 : Cond.instanceMethod ⟨"LaceBonds$Tape", "useUp", "()I"⟩ ∈ gw := gw_in (i := 727) (by decide +kernel) rfl
theorem w_600 : Cond.selects "LaceBonds$Tape" ⟨"LaceBonds$Tape", "useUp", "()I"⟩ ⟨"LaceBonds$Tape", "useUp", "()I"⟩ ∈ gw := gw_in (i := 728) (by decide +kernel) rfl
theorem w_601 : Cond.code ⟨"LaceBonds$Tape", "useUp", "()I"⟩ prog_10_method_3_code 2 (Option.some ClassFile.FieldType.int) ∈ gw := gw_in (i := 729) (by decide +kernel) rfl
theorem w_602 : Cond.methodLink "LaceBonds$Tape" 32 ⟨"LaceBonds$Tape", "moveTo", "(I)V"⟩ ∈ gw := gw_in (i := 730) (by decide +kernel) rfl
theorem w_604 : Cond.instanceMethod ⟨"LaceBonds$Tape", "moveTo", "(I)V"⟩ ∈ gw := gw_in (i := 732) (by decide +kernel) rfl
theorem w_605 : Cond.code ⟨"LaceBonds$Tape", "moveTo", "(I)V"⟩ prog_10_method_15_code 2 (none) ∈ gw := gw_in (i := 733) (by decide +kernel) rfl
theorem w_621 : Cond.methodLink "LaceBonds$Tape" 36 ⟨"LaceBonds$Tape", "runOf", "(CC)I"⟩ ∈ gw := gw_in (i := 749) (by decide +kernel) rfl
theorem w_623 : Cond.instanceMethod ⟨"LaceBonds$Tape", "runOf", "(CC)I"⟩ ∈ gw := gw_in (i := 751) (by decide +kernel) rfl
theorem w_624 : Cond.code ⟨"LaceBonds$Tape", "runOf", "(CC)I"⟩ prog_10_method_14_code 4 (Option.some ClassFile.FieldType.int) ∈ gw := gw_in (i := 752) (by decide +kernel) rfl
theorem w_677 : Cond.methodLink "LaceBonds$LandReader" 65 ⟨"LaceBonds$Tape", "refuse", "(I)V"⟩ ∈ gw := gw_in (i := 805) (by decide +kernel) rfl
theorem w_678 : Cond.instanceMethod ⟨"LaceBonds$Tape", "refuse", "(I)V"⟩ ∈ gw := gw_in (i := 806) (by decide +kernel) rfl
theorem w_679 : Cond.selects "LaceBonds$Tape" ⟨"LaceBonds$Tape", "refuse", "(I)V"⟩ ⟨"LaceBonds$Tape", "refuse", "(I)V"⟩ ∈ gw := gw_in (i := 807) (by decide +kernel) rfl
theorem w_680 : Cond.code ⟨"LaceBonds$Tape", "refuse", "(I)V"⟩ prog_10_method_7_code 2 (none) ∈ gw := gw_in (i := 808) (by decide +kernel) rfl
theorem w_681 : Cond.methodLink "LaceBonds$LandReader" 53 ⟨"LaceBonds$Tape", "takeNumber", "(II)I"⟩ ∈ gw := gw_in (i := 809) (by decide +kernel) rfl
theorem w_682 : Cond.instanceMethod ⟨"LaceBonds$Tape", "takeNumber", "(II)I"⟩ ∈ gw := gw_in (i := 810) (by decide +kernel) rfl
theorem w_683 : Cond.selects "LaceBonds$Tape" ⟨"LaceBonds$Tape", "takeNumber", "(II)I"⟩ ⟨"LaceBonds$Tape", "takeNumber", "(II)I"⟩ ∈ gw := gw_in (i := 811) (by decide +kernel) rfl
theorem w_684 : Cond.code ⟨"LaceBonds$Tape", "takeNumber", "(II)I"⟩ prog_10_method_12_code 6 (Option.some ClassFile.FieldType.int) ∈ gw := gw_in (i := 812) (by decide +kernel) rfl
theorem w_685 : Cond.methodLink "LaceBonds$Tape" 52 ⟨"LaceBonds$Tape", "refuse", "(I)V"⟩ ∈ gw := gw_in (i := 813) (by decide +kernel) rfl
theorem w_687 : Cond.static ⟨"LaceBonds", "isOutside", "(III)Z"⟩ ∈ gw := gw_in (i := 815) (by decide +kernel) rfl
theorem w_688 : Cond.code ⟨"LaceBonds", "isOutside", "(III)Z"⟩ prog_1_method_62_code 3 (Option.some ClassFile.FieldType.boolean) ∈ gw := gw_in (i := 816) (by decide +kernel) rfl
theorem w_696 : Cond.methodLink "LaceBonds$LandReader" 78 ⟨"LaceBonds$Tape", "isRight", "()Z"⟩ ∈ gw := gw_in (i := 824) (by decide +kernel) rfl
theorem w_697 : Cond.instanceMethod ⟨"LaceBonds$Tape", "isRight", "()Z"⟩ ∈ gw := gw_in (i := 825) (by decide +kernel) rfl
theorem w_698 : Cond.selects "LaceBonds$Tape" ⟨"LaceBonds$Tape", "isRight", "()Z"⟩ ⟨"LaceBonds$Tape", "isRight", "()Z"⟩ ∈ gw := gw_in (i := 826) (by decide +kernel) rfl
theorem w_699 : Cond.code ⟨"LaceBonds$Tape", "isRight", "()Z"⟩ prog_10_method_5_code 1 (Option.some ClassFile.FieldType.boolean) ∈ gw := gw_in (i := 827) (by decide +kernel) rfl
theorem w_704 : Cond.methodLink "LaceBonds$Land" 84 ⟨"LaceBonds$Land", "letGo", "(III)V"⟩ ∈ gw := gw_in (i := 832) (by decide +kernel) rfl
theorem w_706 : Cond.instanceMethod ⟨"LaceBonds$Land", "letGo", "(III)V"⟩ ∈ gw := gw_in (i := 834) (by decide +kernel) rfl
theorem w_707 : Cond.code ⟨"LaceBonds$Land", "letGo", "(III)V"⟩ prog_4_method_30_code 4 (none) ∈ gw := gw_in (i := 835) (by decide +kernel) rfl
theorem w_780 : Cond.instanceMethod ⟨"LaceBonds$Tape", "takesSign", "(C)Z"⟩ ∈ gw := gw_in (i := 908) (by decide +kernel) rfl
theorem w_781 : Cond.selects "LaceBonds$Tape" ⟨"LaceBonds$Tape", "takesSign", "(C)Z"⟩ ⟨"LaceBonds$Tape", "takesSign", "(C)Z"⟩ ∈ gw := gw_in (i := 909) (by decide +kernel) rfl
theorem w_782 : Cond.code ⟨"LaceBonds$Tape", "takesSign", "(C)Z"⟩ prog_10_method_9_code 2 (Option.some ClassFile.FieldType.boolean) ∈ gw := gw_in (i := 910) (by decide +kernel) rfl
theorem w_787 : Cond.methodLink "LaceBonds$Tape" 55 ⟨"LaceBonds$Tape", "takesSign", "(C)Z"⟩ ∈ gw := gw_in (i := 915) (by decide +kernel) rfl
theorem w_79 : Cond.fieldLink "LaceBonds$Book" 9 "LaceBonds$Book" "rows" "[I" ∈ gw := gw_in (i := 207) (by decide +kernel) rfl
theorem w_80 : Cond.fieldLink "LaceBonds$Book" 15 "LaceBonds$Book" "next" "I" ∈ gw := gw_in (i := 208) (by decide +kernel) rfl
theorem w_81 : Cond.fieldLink "LaceBonds$Book" 19 "LaceBonds$Book" "size" "I" ∈ gw := gw_in (i := 209) (by decide +kernel) rfl
theorem w_82 : Cond.fieldLink "LaceBonds" 404 "LaceBonds$Book" "size" "I" ∈ gw := gw_in (i := 210) (by decide +kernel) rfl
theorem w_90 : Cond.fieldLink "LaceBonds$Land" 9 "LaceBonds$Land" "people" "I" ∈ gw := gw_in (i := 218) (by decide +kernel) rfl
theorem w_91 : Cond.fieldLink "LaceBonds$LandReader" 68 "LaceBonds$Land" "people" "I" ∈ gw := gw_in (i := 219) (by decide +kernel) rfl
theorem w_92 : Cond.fieldLink "LaceBonds$Rings" 58 "LaceBonds$Land" "people" "I" ∈ gw := gw_in (i := 220) (by decide +kernel) rfl
theorem w_93 : Cond.fieldLink "LaceBonds" 291 "LaceBonds$Land" "people" "I" ∈ gw := gw_in (i := 221) (by decide +kernel) rfl
theorem w_936 : Cond.methodLink "LaceBonds" 237 ⟨"LaceBonds", "isOutside", "(III)Z"⟩ ∈ gw := gw_in (i := 1064) (by decide +kernel) rfl
theorem w_959 : Cond.methodLink "LaceBonds$Land" 152 ⟨"LaceBonds$Land", "heldBy", "(I)I"⟩ ∈ gw := gw_in (i := 1087) (by decide +kernel) rfl
theorem w_96 : Cond.fieldLink "LaceBonds$Land" 18 "LaceBonds$Land" "day" "I" ∈ gw := gw_in (i := 224) (by decide +kernel) rfl
theorem w_964 : Cond.methodLink "LaceBonds$Land" 159 ⟨"LaceBonds$Land", "lacesThatAre", "(I)I"⟩ ∈ gw := gw_in (i := 1092) (by decide +kernel) rfl
theorem w_98 : Cond.fieldLink "LaceBonds$Law" 81 "LaceBonds$Land" "day" "I" ∈ gw := gw_in (i := 226) (by decide +kernel) rfl
theorem ws_0 : Cond.selects "LaceBonds$Rings" ⟨"LaceBonds$Rings", "gather", "(LLaceBonds$Land;)I"⟩ ⟨"LaceBonds$Rings", "gather", "(LLaceBonds$Land;)I"⟩ ∈ gw := gw_in (i := 0) (by decide +kernel) rfl
theorem ws_1 : Cond.selects "LaceBonds$Rings" ⟨"LaceBonds$Rings", "isBalanced", "()Z"⟩ ⟨"LaceBonds$Rings", "isBalanced", "()Z"⟩ ∈ gw := gw_in (i := 1) (by decide +kernel) rfl
theorem ws_100 : Cond.selects "LaceBondsModel" ⟨"LaceBondsModel", "isPaid", "(II)V"⟩ ⟨"LaceBondsModel", "isPaid", "(II)V"⟩ ∈ gw := gw_in (i := 100) (by decide +kernel) rfl
theorem ws_106 : Cond.selects "LaceBondsModel" ⟨"LaceBondsModel", "isLostNow", "(I)V"⟩ ⟨"LaceBondsModel", "isLostNow", "(I)V"⟩ ∈ gw := gw_in (i := 106) (by decide +kernel) rfl
theorem ws_112 : Cond.selects "LaceBondsModel" ⟨"LaceBondsModel", "leastOf", "(II)I"⟩ ⟨"LaceBondsModel", "leastOf", "(II)I"⟩ ∈ gw := gw_in (i := 112) (by decide +kernel) rfl
theorem ws_113 : Cond.selects "LaceBondsModel" ⟨"LaceBondsModel", "pledgedOnes", "()I"⟩ ⟨"LaceBondsModel", "pledgedOnes", "()I"⟩ ∈ gw := gw_in (i := 113) (by decide +kernel) rfl
theorem ws_114 : Cond.selects "LaceBondsModel" ⟨"LaceBondsModel", "isRing", "(I)Z"⟩ ⟨"LaceBondsModel", "isRing", "(I)Z"⟩ ∈ gw := gw_in (i := 114) (by decide +kernel) rfl
theorem ws_115 : Cond.selects "LaceBondsModel" ⟨"LaceBondsModel", "leadsFrom", "(I)I"⟩ ⟨"LaceBondsModel", "leadsFrom", "(I)I"⟩ ∈ gw := gw_in (i := 115) (by decide +kernel) rfl
theorem ws_116 : Cond.selects "LaceBondsModel" ⟨"LaceBondsModel", "holdersOf", "(I)I"⟩ ⟨"LaceBondsModel", "holdersOf", "(I)I"⟩ ∈ gw := gw_in (i := 116) (by decide +kernel) rfl
theorem ws_117 : Cond.selects "LaceBondsModel" ⟨"LaceBondsModel", "amountOf", "(I)I"⟩ ⟨"LaceBondsModel", "amountOf", "(I)I"⟩ ∈ gw := gw_in (i := 117) (by decide +kernel) rfl
theorem ws_118 : Cond.selects "LaceBondsModel" ⟨"LaceBondsModel", "canBePaid", "(I)Z"⟩ ⟨"LaceBondsModel", "canBePaid", "(I)Z"⟩ ∈ gw := gw_in (i := 118) (by decide +kernel) rfl
theorem ws_120 : Cond.selects "LaceBondsModel" ⟨"LaceBondsModel", "hangsOn", "(I)I"⟩ ⟨"LaceBondsModel", "hangsOn", "(I)I"⟩ ∈ gw := gw_in (i := 120) (by decide +kernel) rfl
theorem ws_121 : Cond.selects "LaceBondsModel" ⟨"LaceBondsModel", "everybody", "()I"⟩ ⟨"LaceBondsModel", "everybody", "()I"⟩ ∈ gw := gw_in (i := 121) (by decide +kernel) rfl
theorem ws_122 : Cond.selects "LaceBondsModel" ⟨"LaceBondsModel", "isNeeded", "(I)Z"⟩ ⟨"LaceBondsModel", "isNeeded", "(I)Z"⟩ ∈ gw := gw_in (i := 122) (by decide +kernel) rfl
theorem ws_123 : Cond.selects "LaceBondsModel" ⟨"LaceBondsModel", "isTold", "()Z"⟩ ⟨"LaceBondsModel", "isTold", "()Z"⟩ ∈ gw := gw_in (i := 123) (by decide +kernel) rfl
theorem ws_124 : Cond.selects "LaceBondsModel" ⟨"LaceBondsModel", "fits", "(I)Z"⟩ ⟨"LaceBondsModel", "fits", "(I)Z"⟩ ∈ gw := gw_in (i := 124) (by decide +kernel) rfl
theorem ws_126 : Cond.selects "LaceBondsModel" ⟨"LaceBondsModel", "ofLog", "(II)I"⟩ ⟨"LaceBondsModel", "ofLog", "(II)I"⟩ ∈ gw := gw_in (i := 126) (by decide +kernel) rfl
theorem ws_2 : Cond.selects "LaceBonds$Rings" ⟨"LaceBonds$Rings", "take", "(I)V"⟩ ⟨"LaceBonds$Rings", "take", "(I)V"⟩ ∈ gw := gw_in (i := 2) (by decide +kernel) rfl
theorem ws_3 : Cond.selects "LaceBonds$Land" ⟨"LaceBonds$Land", "partiesOf", "(I)I"⟩ ⟨"LaceBonds$Land", "partiesOf", "(I)I"⟩ ∈ gw := gw_in (i := 3) (by decide +kernel) rfl
theorem ws_34 : Cond.selects "LaceBonds$Ways" ⟨"LaceBonds$Ways", "with", "(II)I"⟩ ⟨"LaceBonds$Ways", "with", "(II)I"⟩ ∈ gw := gw_in (i := 34) (by decide +kernel) rfl
theorem ws_35 : Cond.selects "LaceBonds$Ways" ⟨"LaceBonds$Ways", "firstBest", "(I)I"⟩ ⟨"LaceBonds$Ways", "firstBest", "(I)I"⟩ ∈ gw := gw_in (i := 35) (by decide +kernel) rfl
theorem ws_37 : Cond.selects "LaceBonds$Land" ⟨"LaceBonds$Land", "directCreditorsOf", "(I)I"⟩ ⟨"LaceBonds$Land", "directCreditorsOf", "(I)I"⟩ ∈ gw := gw_in (i := 37) (by decide +kernel) rfl
theorem ws_38 : Cond.selects "LaceBonds$Land" ⟨"LaceBonds$Land", "creditorOf", "(I)I"⟩ ⟨"LaceBonds$Land", "creditorOf", "(I)I"⟩ ∈ gw := gw_in (i := 38) (by decide +kernel) rfl
theorem ws_39 : Cond.selects "LaceBonds$Land" ⟨"LaceBonds$Land", "laceFor", "(II)I"⟩ ⟨"LaceBonds$Land", "laceFor", "(II)I"⟩ ∈ gw := gw_in (i := 39) (by decide +kernel) rfl
theorem ws_40 : Cond.selects "LaceBonds$Land" ⟨"LaceBonds$Land", "betterCall", "(III)I"⟩ ⟨"LaceBonds$Land", "betterCall", "(III)I"⟩ ∈ gw := gw_in (i := 40) (by decide +kernel) rfl
theorem ws_43 : Cond.selects "LaceBonds$Wearers" ⟨"LaceBonds$Wearers", "fits", "(II)Z"⟩ ⟨"LaceBonds$Wearers", "fits", "(II)Z"⟩ ∈ gw := gw_in (i := 43) (by decide +kernel) rfl
theorem ws_44 : Cond.selects "LaceBonds$Wearers" ⟨"LaceBonds$Wearers", "take", "(I)V"⟩ ⟨"LaceBonds$Wearers", "take", "(I)V"⟩ ∈ gw := gw_in (i := 44) (by decide +kernel) rfl
theorem ws_45 : Cond.selects "LaceBonds$Book" ⟨"LaceBonds$Book", "rowAt", "(I)I"⟩ ⟨"LaceBonds$Book", "rowAt", "(I)I"⟩ ∈ gw := gw_in (i := 45) (by decide +kernel) rfl
theorem ws_46 : Cond.selects "LaceBondsModel" ⟨"LaceBondsModel", "comesBack", "(I)V"⟩ ⟨"LaceBondsModel", "comesBack", "(I)V"⟩ ∈ gw := gw_in (i := 46) (by decide +kernel) rfl
theorem ws_47 : Cond.selects "LaceBondsModel" ⟨"LaceBondsModel", "tellsLace", "(IIIIII)V"⟩ ⟨"LaceBondsModel", "tellsLace", "(IIIIII)V"⟩ ∈ gw := gw_in (i := 47) (by decide +kernel) rfl
theorem ws_49 : Cond.selects "LaceBondsModel" ⟨"LaceBondsModel", "uses", "()V"⟩ ⟨"LaceBondsModel", "uses", "()V"⟩ ∈ gw := gw_in (i := 49) (by decide +kernel) rfl
theorem ws_50 : Cond.selects "LaceBondsModel" ⟨"LaceBondsModel", "blanks", "()V"⟩ ⟨"LaceBondsModel", "blanks", "()V"⟩ ∈ gw := gw_in (i := 50) (by decide +kernel) rfl
theorem ws_51 : Cond.selects "LaceBondsModel" ⟨"LaceBondsModel", "isAt", "(II)Z"⟩ ⟨"LaceBondsModel", "isAt", "(II)Z"⟩ ∈ gw := gw_in (i := 51) (by decide +kernel) rfl
theorem ws_57 : Cond.selects "LaceBondsModel" ⟨"LaceBondsModel", "people", "()I"⟩ ⟨"LaceBondsModel", "people", "()I"⟩ ∈ gw := gw_in (i := 57) (by decide +kernel) rfl
theorem ws_58 : Cond.selects "LaceBondsModel" ⟨"LaceBondsModel", "number", "(II)I"⟩ ⟨"LaceBondsModel", "number", "(II)I"⟩ ∈ gw := gw_in (i := 58) (by decide +kernel) rfl
theorem ws_6 : Cond.selects "LaceBonds$Tape" ⟨"LaceBonds$Tape", "moveTo", "(I)V"⟩ ⟨"LaceBonds$Tape", "moveTo", "(I)V"⟩ ∈ gw := gw_in (i := 6) (by decide +kernel) rfl
theorem ws_61 : Cond.selects "LaceBondsModel" ⟨"LaceBondsModel", "laces", "()I"⟩ ⟨"LaceBondsModel", "laces", "()I"⟩ ∈ gw := gw_in (i := 61) (by decide +kernel) rfl
theorem ws_62 : Cond.selects "LaceBondsModel" ⟨"LaceBondsModel", "isIn", "(I)Z"⟩ ⟨"LaceBondsModel", "isIn", "(I)Z"⟩ ∈ gw := gw_in (i := 62) (by decide +kernel) rfl
theorem ws_63 : Cond.selects "LaceBondsModel" ⟨"LaceBondsModel", "ofLace", "(II)I"⟩ ⟨"LaceBondsModel", "ofLace", "(II)I"⟩ ∈ gw := gw_in (i := 63) (by decide +kernel) rfl
theorem ws_7 : Cond.selects "LaceBonds$Tape" ⟨"LaceBonds$Tape", "runOf", "(CC)I"⟩ ⟨"LaceBonds$Tape", "runOf", "(CC)I"⟩ ∈ gw := gw_in (i := 7) (by decide +kernel) rfl
theorem ws_77 : Cond.selects "LaceBondsModel" ⟨"LaceBondsModel", "throwsIf", "(ZI)Z"⟩ ⟨"LaceBondsModel", "throwsIf", "(ZI)Z"⟩ ∈ gw := gw_in (i := 77) (by decide +kernel) rfl
theorem ws_78 : Cond.selects "LaceBondsModel" ⟨"LaceBondsModel", "noPerson", "(I)Z"⟩ ⟨"LaceBondsModel", "noPerson", "(I)Z"⟩ ∈ gw := gw_in (i := 78) (by decide +kernel) rfl
theorem ws_79 : Cond.selects "LaceBondsModel" ⟨"LaceBondsModel", "heldBy", "(I)I"⟩ ⟨"LaceBondsModel", "heldBy", "(I)I"⟩ ∈ gw := gw_in (i := 79) (by decide +kernel) rfl
theorem ws_80 : Cond.selects "LaceBondsModel" ⟨"LaceBondsModel", "owesOf", "(I)I"⟩ ⟨"LaceBondsModel", "owesOf", "(I)I"⟩ ∈ gw := gw_in (i := 80) (by decide +kernel) rfl
theorem ws_81 : Cond.selects "LaceBondsModel" ⟨"LaceBondsModel", "isPledged", "(I)Z"⟩ ⟨"LaceBondsModel", "isPledged", "(I)Z"⟩ ∈ gw := gw_in (i := 81) (by decide +kernel) rfl
theorem ws_83 : Cond.selects "LaceBondsModel" ⟨"LaceBondsModel", "of", "(II)I"⟩ ⟨"LaceBondsModel", "of", "(II)I"⟩ ∈ gw := gw_in (i := 83) (by decide +kernel) rfl
theorem ws_85 : Cond.selects "LaceBondsModel" ⟨"LaceBondsModel", "lostOnes", "()I"⟩ ⟨"LaceBondsModel", "lostOnes", "()I"⟩ ∈ gw := gw_in (i := 85) (by decide +kernel) rfl
theorem ws_86 : Cond.selects "LaceBondsModel" ⟨"LaceBondsModel", "isLost", "(I)Z"⟩ ⟨"LaceBondsModel", "isLost", "(I)Z"⟩ ∈ gw := gw_in (i := 86) (by decide +kernel) rfl
theorem ws_87 : Cond.selects "LaceBondsModel" ⟨"LaceBondsModel", "noLace", "(I)Z"⟩ ⟨"LaceBondsModel", "noLace", "(I)Z"⟩ ∈ gw := gw_in (i := 87) (by decide +kernel) rfl
theorem ws_9 : Cond.selects "LaceBonds$Land" ⟨"LaceBonds$Land", "letGo", "(III)V"⟩ ⟨"LaceBonds$Land", "letGo", "(III)V"⟩ ∈ gw := gw_in (i := 9) (by decide +kernel) rfl
theorem ws_97 : Cond.selects "LaceBondsModel" ⟨"LaceBondsModel", "remembers", "()V"⟩ ⟨"LaceBondsModel", "remembers", "()V"⟩ ∈ gw := gw_in (i := 97) (by decide +kernel) rfl
theorem ws_98 : Cond.selects "LaceBondsModel" ⟨"LaceBondsModel", "gets", "(II)V"⟩ ⟨"LaceBondsModel", "gets", "(II)V"⟩ ∈ gw := gw_in (i := 98) (by decide +kernel) rfl
theorem ws_99 : Cond.selects "LaceBondsModel" ⟨"LaceBondsModel", "tells", "(III)V"⟩ ⟨"LaceBondsModel", "tells", "(III)V"⟩ ∈ gw := gw_in (i := 99) (by decide +kernel) rfl
theorem in_0 : ∀ w ∈ u_ws RX0 TX0 3, w ∈ gw := gw_ins [397, 399, 401] (by decide +kernel)
theorem in_1 : ∀ w ∈ u_ws RX1 TX1 3, w ∈ gw := gw_ins [211, 213, 215] (by decide +kernel)
theorem in_10 : ∀ w ∈ u_ws RX10 TX10 5, w ∈ gw := gw_ins [454, 456, 458, 460, 462] (by decide +kernel)
theorem in_11 : ∀ w ∈ u_ws RX11 TX11 14, w ∈ gw := gw_ins [479, 481, 483, 485, 487, 489, 491, 493, 495, 497, 499, 501, 503, 505] (by decide +kernel)
theorem in_12 : ∀ w ∈ u_ws RX12 TX12 20, w ∈ gw := gw_ins [1603, 1605, 1607, 1609, 1611, 1613, 1615, 1617, 1619, 1621, 1623, 1625, 1627, 1629, 1631, 1633, 1635, 1637, 1639, 1641] (by decide +kernel)
theorem in_2 : ∀ w ∈ u_ws RX2 TX2 19, w ∈ gw := gw_ins [270, 272, 274, 276, 278, 280, 282, 284, 286, 288, 290, 292, 294, 296, 298, 300, 302, 304, 306] (by decide +kernel)
theorem in_3 : ∀ w ∈ u_ws RX3 TX3 3, w ∈ gw := gw_ins [367, 369, 365] (by decide +kernel)
theorem in_4 : ∀ w ∈ u_ws RX4 TX4 10, w ∈ gw := gw_ins [328, 330, 332, 334, 336, 338, 340, 342, 344, 346] (by decide +kernel)
theorem in_7 : ∀ w ∈ u_ws RX7 TX7 4, w ∈ gw := gw_ins [416, 418, 420, 422] (by decide +kernel)
theorem in_8 : ∀ w ∈ u_ws RX8 TX8 5, w ∈ gw := gw_ins [183, 185, 187, 189, 191] (by decide +kernel)
theorem in_9 : ∀ w ∈ u_ws RX9 TX9 3, w ∈ gw := gw_ins [434, 436, 438] (by decide +kernel)
theorem pt_0_2 : Pt9 0 2 .int := ⟨RX0, TX0, 3, tyX0, clX0, tyX0_ok, nmX0, rfl, by decide +kernel⟩
theorem pt_10_2 : Pt9 10 2 .int := ⟨RX10, TX10, 5, tyX10, clX10, tyX10_ok, nmX10, rfl, by decide +kernel⟩
theorem pt_10_3 : Pt9 10 3 .int := ⟨RX10, TX10, 5, tyX10, clX10, tyX10_ok, nmX10, rfl, by decide +kernel⟩
theorem pt_10_4 : Pt9 10 4 .int := ⟨RX10, TX10, 5, tyX10, clX10, tyX10_ok, nmX10, rfl, by decide +kernel⟩
theorem pt_12_0 : Pt9 12 0 .int := ⟨RX12, TX12, 20, tyX12, clX12, tyX12_ok, nmX12, rfl, by decide +kernel⟩
theorem pt_12_10 : Pt9 12 10 .int := ⟨RX12, TX12, 20, tyX12, clX12, tyX12_ok, nmX12, rfl, by decide +kernel⟩
theorem pt_12_11 : Pt9 12 11 .int := ⟨RX12, TX12, 20, tyX12, clX12, tyX12_ok, nmX12, rfl, by decide +kernel⟩
theorem pt_12_12 : Pt9 12 12 .int := ⟨RX12, TX12, 20, tyX12, clX12, tyX12_ok, nmX12, rfl, by decide +kernel⟩
theorem pt_12_16 : Pt9 12 16 .int := ⟨RX12, TX12, 20, tyX12, clX12, tyX12_ok, nmX12, rfl, by decide +kernel⟩
theorem pt_12_6 : Pt9 12 6 .boolean := ⟨RX12, TX12, 20, tyX12, clX12, tyX12_ok, nmX12, rfl, by decide +kernel⟩
theorem pt_12_7 : Pt9 12 7 .int := ⟨RX12, TX12, 20, tyX12, clX12, tyX12_ok, nmX12, rfl, by decide +kernel⟩
theorem pt_12_9 : Pt9 12 9 .int := ⟨RX12, TX12, 20, tyX12, clX12, tyX12_ok, nmX12, rfl, by decide +kernel⟩
theorem pt_1_1 : Pt9 1 1 .int := ⟨RX1, TX1, 3, tyX1, clX1, tyX1_ok, nmX1, rfl, by decide +kernel⟩
theorem pt_1_2 : Pt9 1 2 .int := ⟨RX1, TX1, 3, tyX1, clX1, tyX1_ok, nmX1, rfl, by decide +kernel⟩
theorem pt_2_0 : Pt9 2 0 .int := ⟨RX2, TX2, 19, tyX2, clX2, tyX2_ok, nmX2, rfl, by decide +kernel⟩
theorem pt_2_4 : Pt9 2 4 .int := ⟨RX2, TX2, 19, tyX2, clX2, tyX2_ok, nmX2, rfl, by decide +kernel⟩
theorem pt_4_0 : Pt9 4 0 .boolean := ⟨RX4, TX4, 10, tyX4, clX4, tyX4_ok, nmX4, rfl, by decide +kernel⟩
theorem pt_4_1 : Pt9 4 1 .int := ⟨RX4, TX4, 10, tyX4, clX4, tyX4_ok, nmX4, rfl, by decide +kernel⟩
theorem pt_4_2 : Pt9 4 2 .int := ⟨RX4, TX4, 10, tyX4, clX4, tyX4_ok, nmX4, rfl, by decide +kernel⟩
theorem pt_7_2 : Pt9 7 2 .int := ⟨RX7, TX7, 4, tyX7, clX7, tyX7_ok, nmX7, rfl, by decide +kernel⟩
theorem pt_7_3 : Pt9 7 3 .int := ⟨RX7, TX7, 4, tyX7, clX7, tyX7_ok, nmX7, rfl, by decide +kernel⟩
theorem pt_8_1 : Pt9 8 1 .int := ⟨RX8, TX8, 5, tyX8, clX8, tyX8_ok, nmX8, rfl, by decide +kernel⟩
theorem pt_8_2 : Pt9 8 2 .int := ⟨RX8, TX8, 5, tyX8, clX8, tyX8_ok, nmX8, rfl, by decide +kernel⟩
theorem pt_8_3 : Pt9 8 3 .int := ⟨RX8, TX8, 5, tyX8, clX8, tyX8_ok, nmX8, rfl, by decide +kernel⟩
theorem pt_8_4 : Pt9 8 4 .int := ⟨RX8, TX8, 5, tyX8, clX8, tyX8_ok, nmX8, rfl, by decide +kernel⟩
theorem pt_9_2 : Pt9 9 2 .int := ⟨RX9, TX9, 3, tyX9, clX9, tyX9_ok, nmX9, rfl, by decide +kernel⟩
theorem fl_RX0_21 : Fl RX0 21 0 2 := ⟨RX0, TX0, 3, "LaceBonds$Acts", clX0, by decide, in_0, w_267, Or.inl rfl⟩
theorem fl_RX10_15 : Fl RX10 15 10 2 := ⟨RX10, TX10, 5, "LaceBonds$Wearers", clX10, by decide, in_10, w_321, Or.inl rfl⟩
theorem fl_RX10_19 : Fl RX10 19 10 3 := ⟨RX10, TX10, 5, "LaceBonds$Wearers", clX10, by decide, in_10, w_322, Or.inl rfl⟩
theorem fl_RX10_22 : Fl RX10 22 10 4 := ⟨RX10, TX10, 5, "LaceBonds$Wearers", clX10, by decide, in_10, w_324, Or.inl rfl⟩
theorem fl_RX10_25 : Fl RX10 25 10 0 := ⟨RX10, TX10, 5, "LaceBonds$Wearers", clX10, by decide, in_10, w_319, Or.inl rfl⟩
theorem fl_RX10_29 : Fl RX10 29 8 0 := ⟨RX8, TX8, 5, "LaceBonds$Tape", clX8, by decide, in_8, w_44, Or.inl rfl⟩
theorem fl_RX10_9 : Fl RX10 9 10 1 := ⟨RX10, TX10, 5, "LaceBonds$Wearers", clX10, by decide, in_10, w_320, Or.inl rfl⟩
theorem fl_RX11_10 : Fl RX11 10 11 0 := ⟨RX11, TX11, 14, "LaceBonds", clX11, by decide, in_11, w_337, Or.inl rfl⟩
theorem fl_RX11_152 : Fl RX11 152 2 6 := ⟨RX2, TX2, 19, "LaceBonds$Land", clX2, by decide, in_2, w_108, Or.inl rfl⟩
theorem fl_RX11_19 : Fl RX11 19 11 1 := ⟨RX11, TX11, 14, "LaceBonds", clX11, by decide, in_11, w_338, Or.inl rfl⟩
theorem fl_RX11_259 : Fl RX11 259 2 18 := ⟨RX2, TX2, 19, "LaceBonds$Land", clX2, by decide, in_2, w_141, Or.inl rfl⟩
theorem fl_RX11_291 : Fl RX11 291 2 0 := ⟨RX2, TX2, 19, "LaceBonds$Land", clX2, by decide, in_2, w_93, Or.inl rfl⟩
theorem fl_RX11_307 : Fl RX11 307 8 0 := ⟨RX8, TX8, 5, "LaceBonds$Tape", clX8, by decide, in_8, w_45, Or.inl rfl⟩
theorem fl_RX11_329 : Fl RX11 329 7 2 := ⟨RX7, TX7, 4, "LaceBonds$Rings", clX7, by decide, in_7, w_285, Or.inl rfl⟩
theorem fl_RX11_332 : Fl RX11 332 7 3 := ⟨RX7, TX7, 4, "LaceBonds$Rings", clX7, by decide, in_7, w_287, Or.inl rfl⟩
theorem fl_RX11_385 : Fl RX11 385 2 4 := ⟨RX2, TX2, 19, "LaceBonds$Land", clX2, by decide, in_2, w_104, Or.inl rfl⟩
theorem fl_RX11_404 : Fl RX11 404 1 2 := ⟨RX1, TX1, 3, "LaceBonds$Book", clX1, by decide, in_1, w_82, Or.inl rfl⟩
theorem fl_RX11_70 : Fl RX11 70 11 10 := ⟨RX11, TX11, 14, "LaceBonds", clX11, by decide, in_11, w_347, Or.inl rfl⟩
theorem fl_RX11_86 : Fl RX11 86 11 12 := ⟨RX11, TX11, 14, "LaceBonds", clX11, by decide, in_11, w_349, Or.inl rfl⟩
theorem fl_RX11_94 : Fl RX11 94 8 1 := ⟨RX8, TX8, 5, "LaceBonds$Tape", clX8, by decide, in_8, w_47, Or.inl rfl⟩
theorem fl_RX12_106 : Fl RX12 106 12 12 := ⟨RX12, TX12, 20, "LaceBondsModel", clX12, by decide, in_12, w_1467, Or.inl rfl⟩
theorem fl_RX12_13 : Fl RX12 13 12 1 := ⟨RX12, TX12, 20, "LaceBondsModel", clX12, by decide, in_12, w_1456, Or.inl rfl⟩
theorem fl_RX12_17 : Fl RX12 17 12 2 := ⟨RX12, TX12, 20, "LaceBondsModel", clX12, by decide, in_12, w_1457, Or.inl rfl⟩
theorem fl_RX12_187 : Fl RX12 187 12 16 := ⟨RX12, TX12, 20, "LaceBondsModel", clX12, by decide, in_12, w_1471, Or.inl rfl⟩
theorem fl_RX12_23 : Fl RX12 23 12 4 := ⟨RX12, TX12, 20, "LaceBondsModel", clX12, by decide, in_12, w_1459, Or.inl rfl⟩
theorem fl_RX12_26 : Fl RX12 26 12 5 := ⟨RX12, TX12, 20, "LaceBondsModel", clX12, by decide, in_12, w_1460, Or.inl rfl⟩
theorem fl_RX12_29 : Fl RX12 29 12 8 := ⟨RX12, TX12, 20, "LaceBondsModel", clX12, by decide, in_12, w_1463, Or.inl rfl⟩
theorem fl_RX12_3 : Fl RX12 3 12 0 := ⟨RX12, TX12, 20, "LaceBondsModel", clX12, by decide, in_12, w_1455, Or.inl rfl⟩
theorem fl_RX12_33 : Fl RX12 33 12 14 := ⟨RX12, TX12, 20, "LaceBondsModel", clX12, by decide, in_12, w_1469, Or.inl rfl⟩
theorem fl_RX12_36 : Fl RX12 36 12 15 := ⟨RX12, TX12, 20, "LaceBondsModel", clX12, by decide, in_12, w_1470, Or.inl rfl⟩
theorem fl_RX12_42 : Fl RX12 42 12 18 := ⟨RX12, TX12, 20, "LaceBondsModel", clX12, by decide, in_12, w_1473, Or.inl rfl⟩
theorem fl_RX12_45 : Fl RX12 45 12 19 := ⟨RX12, TX12, 20, "LaceBondsModel", clX12, by decide, in_12, w_1474, Or.inl rfl⟩
theorem fl_RX12_52 : Fl RX12 52 12 6 := ⟨RX12, TX12, 20, "LaceBondsModel", clX12, by decide, in_12, w_1461, Or.inl rfl⟩
theorem fl_RX12_56 : Fl RX12 56 12 7 := ⟨RX12, TX12, 20, "LaceBondsModel", clX12, by decide, in_12, w_1462, Or.inl rfl⟩
theorem fl_RX12_93 : Fl RX12 93 12 9 := ⟨RX12, TX12, 20, "LaceBondsModel", clX12, by decide, in_12, w_1464, Or.inl rfl⟩
theorem fl_RX12_96 : Fl RX12 96 12 10 := ⟨RX12, TX12, 20, "LaceBondsModel", clX12, by decide, in_12, w_1465, Or.inl rfl⟩
theorem fl_RX12_99 : Fl RX12 99 12 11 := ⟨RX12, TX12, 20, "LaceBondsModel", clX12, by decide, in_12, w_1466, Or.inl rfl⟩
theorem fl_RX1_15 : Fl RX1 15 1 1 := ⟨RX1, TX1, 3, "LaceBonds$Book", clX1, by decide, in_1, w_80, Or.inl rfl⟩
theorem fl_RX1_19 : Fl RX1 19 1 2 := ⟨RX1, TX1, 3, "LaceBonds$Book", clX1, by decide, in_1, w_81, Or.inl rfl⟩
theorem fl_RX1_9 : Fl RX1 9 1 0 := ⟨RX1, TX1, 3, "LaceBonds$Book", clX1, by decide, in_1, w_79, Or.inl rfl⟩
theorem fl_RX2_18 : Fl RX2 18 2 2 := ⟨RX2, TX2, 19, "LaceBonds$Land", clX2, by decide, in_2, w_96, Or.inl rfl⟩
theorem fl_RX2_21 : Fl RX2 21 2 3 := ⟨RX2, TX2, 19, "LaceBonds$Land", clX2, by decide, in_2, w_100, Or.inl rfl⟩
theorem fl_RX2_24 : Fl RX2 24 2 4 := ⟨RX2, TX2, 19, "LaceBonds$Land", clX2, by decide, in_2, w_103, Or.inl rfl⟩
theorem fl_RX2_30 : Fl RX2 30 2 6 := ⟨RX2, TX2, 19, "LaceBonds$Land", clX2, by decide, in_2, w_107, Or.inl rfl⟩
theorem fl_RX2_34 : Fl RX2 34 2 7 := ⟨RX2, TX2, 19, "LaceBonds$Land", clX2, by decide, in_2, w_109, Or.inl rfl⟩
theorem fl_RX2_37 : Fl RX2 37 2 8 := ⟨RX2, TX2, 19, "LaceBonds$Land", clX2, by decide, in_2, w_111, Or.inl rfl⟩
theorem fl_RX2_40 : Fl RX2 40 2 9 := ⟨RX2, TX2, 19, "LaceBonds$Land", clX2, by decide, in_2, w_114, Or.inl rfl⟩
theorem fl_RX2_43 : Fl RX2 43 2 10 := ⟨RX2, TX2, 19, "LaceBonds$Land", clX2, by decide, in_2, w_118, Or.inl rfl⟩
theorem fl_RX2_46 : Fl RX2 46 2 11 := ⟨RX2, TX2, 19, "LaceBonds$Land", clX2, by decide, in_2, w_121, Or.inl rfl⟩
theorem fl_RX2_49 : Fl RX2 49 2 12 := ⟨RX2, TX2, 19, "LaceBonds$Land", clX2, by decide, in_2, w_124, Or.inl rfl⟩
theorem fl_RX2_52 : Fl RX2 52 2 13 := ⟨RX2, TX2, 19, "LaceBonds$Land", clX2, by decide, in_2, w_127, Or.inl rfl⟩
theorem fl_RX2_55 : Fl RX2 55 2 14 := ⟨RX2, TX2, 19, "LaceBonds$Land", clX2, by decide, in_2, w_130, Or.inl rfl⟩
theorem fl_RX2_58 : Fl RX2 58 2 15 := ⟨RX2, TX2, 19, "LaceBonds$Land", clX2, by decide, in_2, w_132, Or.inl rfl⟩
theorem fl_RX2_61 : Fl RX2 61 2 16 := ⟨RX2, TX2, 19, "LaceBonds$Land", clX2, by decide, in_2, w_134, Or.inl rfl⟩
theorem fl_RX2_70 : Fl RX2 70 2 18 := ⟨RX2, TX2, 19, "LaceBonds$Land", clX2, by decide, in_2, w_140, Or.inl rfl⟩
theorem fl_RX2_9 : Fl RX2 9 2 0 := ⟨RX2, TX2, 19, "LaceBonds$Land", clX2, by decide, in_2, w_90, Or.inl rfl⟩
theorem fl_RX3_110 : Fl RX3 110 2 17 := ⟨RX2, TX2, 19, "LaceBonds$Land", clX2, by decide, in_2, w_137, Or.inl rfl⟩
theorem fl_RX3_113 : Fl RX3 113 2 9 := ⟨RX2, TX2, 19, "LaceBonds$Land", clX2, by decide, in_2, w_115, Or.inl rfl⟩
theorem fl_RX3_115 : Fl RX3 115 2 11 := ⟨RX2, TX2, 19, "LaceBonds$Land", clX2, by decide, in_2, w_122, Or.inl rfl⟩
theorem fl_RX3_15 : Fl RX3 15 3 0 := ⟨RX3, TX3, 3, "LaceBonds$LandReader", clX3, by decide, in_3, w_232, Or.inr w_233⟩
theorem fl_RX3_68 : Fl RX3 68 2 0 := ⟨RX2, TX2, 19, "LaceBonds$Land", clX2, by decide, in_2, w_91, Or.inl rfl⟩
theorem fl_RX3_9 : Fl RX3 9 3 2 := ⟨RX3, TX3, 3, "LaceBonds$LandReader", clX3, by decide, in_3, w_230, Or.inl rfl⟩
theorem fl_RX4_15 : Fl RX4 15 4 1 := ⟨RX4, TX4, 10, "LaceBonds$Law", clX4, by decide, in_4, w_190, Or.inl rfl⟩
theorem fl_RX4_19 : Fl RX4 19 4 2 := ⟨RX4, TX4, 10, "LaceBonds$Law", clX4, by decide, in_4, w_192, Or.inl rfl⟩
theorem fl_RX4_22 : Fl RX4 22 4 3 := ⟨RX4, TX4, 10, "LaceBonds$Law", clX4, by decide, in_4, w_193, Or.inl rfl⟩
theorem fl_RX4_26 : Fl RX4 26 4 4 := ⟨RX4, TX4, 10, "LaceBonds$Law", clX4, by decide, in_4, w_194, Or.inl rfl⟩
theorem fl_RX4_29 : Fl RX4 29 4 5 := ⟨RX4, TX4, 10, "LaceBonds$Law", clX4, by decide, in_4, w_195, Or.inl rfl⟩
theorem fl_RX4_32 : Fl RX4 32 4 6 := ⟨RX4, TX4, 10, "LaceBonds$Law", clX4, by decide, in_4, w_196, Or.inl rfl⟩
theorem fl_RX4_35 : Fl RX4 35 4 7 := ⟨RX4, TX4, 10, "LaceBonds$Law", clX4, by decide, in_4, w_197, Or.inl rfl⟩
theorem fl_RX4_38 : Fl RX4 38 4 8 := ⟨RX4, TX4, 10, "LaceBonds$Law", clX4, by decide, in_4, w_198, Or.inl rfl⟩
theorem fl_RX4_72 : Fl RX4 72 2 8 := ⟨RX2, TX2, 19, "LaceBonds$Land", clX2, by decide, in_2, w_113, Or.inl rfl⟩
theorem fl_RX4_75 : Fl RX4 75 2 17 := ⟨RX2, TX2, 19, "LaceBonds$Land", clX2, by decide, in_2, w_138, Or.inl rfl⟩
theorem fl_RX4_78 : Fl RX4 78 2 10 := ⟨RX2, TX2, 19, "LaceBonds$Land", clX2, by decide, in_2, w_120, Or.inl rfl⟩
theorem fl_RX4_81 : Fl RX4 81 2 2 := ⟨RX2, TX2, 19, "LaceBonds$Land", clX2, by decide, in_2, w_98, Or.inl rfl⟩
theorem fl_RX4_84 : Fl RX4 84 2 9 := ⟨RX2, TX2, 19, "LaceBonds$Land", clX2, by decide, in_2, w_117, Or.inl rfl⟩
theorem fl_RX4_9 : Fl RX4 9 4 0 := ⟨RX4, TX4, 10, "LaceBonds$Law", clX4, by decide, in_4, w_187, Or.inl rfl⟩
theorem fl_RX7_15 : Fl RX7 15 7 1 := ⟨RX7, TX7, 4, "LaceBonds$Rings", clX7, by decide, in_7, w_283, Or.inl rfl⟩
theorem fl_RX7_18 : Fl RX7 18 7 2 := ⟨RX7, TX7, 4, "LaceBonds$Rings", clX7, by decide, in_7, w_284, Or.inl rfl⟩
theorem fl_RX7_22 : Fl RX7 22 7 3 := ⟨RX7, TX7, 4, "LaceBonds$Rings", clX7, by decide, in_7, w_286, Or.inl rfl⟩
theorem fl_RX7_39 : Fl RX7 39 2 13 := ⟨RX2, TX2, 19, "LaceBonds$Land", clX2, by decide, in_2, w_128, Or.inl rfl⟩
theorem fl_RX7_47 : Fl RX7 47 2 12 := ⟨RX2, TX2, 19, "LaceBonds$Land", clX2, by decide, in_2, w_125, Or.inl rfl⟩
theorem fl_RX7_58 : Fl RX7 58 2 0 := ⟨RX2, TX2, 19, "LaceBonds$Land", clX2, by decide, in_2, w_92, Or.inl rfl⟩
theorem fl_RX7_9 : Fl RX7 9 7 0 := ⟨RX7, TX7, 4, "LaceBonds$Rings", clX7, by decide, in_7, w_282, Or.inl rfl⟩
theorem fl_RX8_15 : Fl RX8 15 8 1 := ⟨RX8, TX8, 5, "LaceBonds$Tape", clX8, by decide, in_8, w_46, Or.inl rfl⟩
theorem fl_RX8_19 : Fl RX8 19 8 2 := ⟨RX8, TX8, 5, "LaceBonds$Tape", clX8, by decide, in_8, w_48, Or.inl rfl⟩
theorem fl_RX8_22 : Fl RX8 22 8 3 := ⟨RX8, TX8, 5, "LaceBonds$Tape", clX8, by decide, in_8, w_49, Or.inl rfl⟩
theorem fl_RX8_25 : Fl RX8 25 8 4 := ⟨RX8, TX8, 5, "LaceBonds$Tape", clX8, by decide, in_8, w_53, Or.inl rfl⟩
theorem fl_RX8_9 : Fl RX8 9 8 0 := ⟨RX8, TX8, 5, "LaceBonds$Tape", clX8, by decide, in_8, w_43, Or.inl rfl⟩
theorem fl_RX9_15 : Fl RX9 15 9 1 := ⟨RX9, TX9, 3, "LaceBonds$Ways", clX9, by decide, in_9, w_304, Or.inl rfl⟩
theorem fl_RX9_18 : Fl RX9 18 9 2 := ⟨RX9, TX9, 3, "LaceBonds$Ways", clX9, by decide, in_9, w_305, Or.inl rfl⟩
theorem fl_RX9_9 : Fl RX9 9 9 0 := ⟨RX9, TX9, 3, "LaceBonds$Ways", clX9, by decide, in_9, w_303, Or.inl rfl⟩
theorem fn_RX11_146 : FlN RX11 146 8 4 := ⟨RX8, TX8, 5, "LaceBonds", clX8, by decide, in_8, List.mem_of_getElem? (i := 1) rfl⟩
theorem fn_RX3_19 : FlN RX3 19 8 3 := ⟨RX8, TX8, 5, "LaceBonds", clX8, by decide, in_8, List.mem_of_getElem? (i := 0) rfl⟩
theorem ks_RX10_42 : LkS RX10 42 yJ9_max_7cf53 := ⟨w_1346, w_519⟩
theorem ks_RX10_48 : LkS RX10 48 yJ6_bitCount_0f7a4 := ⟨w_1329, w_447⟩
theorem ks_RX10_54 : LkSN RX10 54 yX11_hasBit := ⟨⟨"LaceBonds", List.mem_of_getElem? (i := 7) rfl⟩, w_412⟩
theorem ks_RX11_237 : LkS RX11 237 yX11_isOutside := ⟨w_936, w_687⟩
theorem ks_RX11_335 : LkS RX11 335 yJ6_bitCount_0f7a4 := ⟨w_456, w_447⟩
theorem ks_RX12_144 : LkS RX12 144 yX12_ownerOf := ⟨w_1618, w_1619⟩
theorem ks_RX12_272 : LkS RX12 272 yJ6_bitCount_0f7a4 := ⟨w_1746, w_447⟩
theorem ks_RX12_293 : LkS RX12 293 yJ9_max_7cf53 := ⟨w_1794, w_519⟩
theorem ks_RX12_320 : LkS RX12 320 yX12_noPlace := ⟨w_1759, w_1760⟩
theorem ks_RX12_380 : LkS RX12 380 yX12_has := ⟨w_1913, w_1914⟩
theorem ks_RX12_63 : LkS RX12 63 yX12_at := ⟨w_1597, w_1598⟩
theorem ks_RX12_67 : LkS RX12 67 yX12_laceAt := ⟨w_1452, w_1453⟩
theorem ks_RX12_73 : LkS RX12 73 yX12_in := ⟨w_1711, w_1712⟩
theorem ks_RX12_87 : LkS RX12 87 yJ9_min_7cf53 := ⟨w_1799, w_1018⟩
theorem ks_RX1_28 : LkS RX1 28 yJ9_min_7cf53 := ⟨w_1073, w_1018⟩
theorem ks_RX1_44 : LkS RX1 44 yJ9_floorMod_7cf53 := ⟨w_1405, w_1406⟩
theorem ks_RX2_132 : LkS RX2 132 yJ9_max_7cf53 := ⟨w_518, w_519⟩
theorem ks_RX2_135 : LkSN RX2 135 yX11_ownerOf := ⟨⟨"LaceBonds", List.mem_of_getElem? (i := 0) rfl⟩, w_436⟩
theorem ks_RX2_141 : LkS RX2 141 yJ6_bitCount_0f7a4 := ⟨w_517, w_447⟩
theorem ks_RX2_146 : LkSN RX2 146 yX11_lacesOf := ⟨⟨"LaceBonds", List.mem_of_getElem? (i := 2) rfl⟩, w_405⟩
theorem ks_RX2_155 : LkSN RX2 155 yX11_hasBit := ⟨⟨"LaceBonds", List.mem_of_getElem? (i := 1) rfl⟩, w_412⟩
theorem ks_RX2_96 : LkS RX2 96 yJ9_min_7cf53 := ⟨w_1017, w_1018⟩
theorem ks_RX4_64 : LkS RX4 64 yJ6_bitCount_0f7a4 := ⟨w_500, w_447⟩
theorem ks_RX7_29 : LkS RX7 29 yJ6_numberOfTrailingZeros_0f7a4 := ⟨w_430, w_431⟩
theorem ks_RX7_35 : LkSN RX7 35 yX11_hasBit := ⟨⟨"LaceBonds", List.mem_of_getElem? (i := 4) rfl⟩, w_412⟩
theorem ks_RX7_44 : LkSN RX7 44 yX11_ownerOf := ⟨⟨"LaceBonds", List.mem_of_getElem? (i := 5) rfl⟩, w_436⟩
theorem ks_RX7_65 : LkS RX7 65 yJ6_bitCount_0f7a4 := ⟨w_446, w_447⟩
theorem ks_RX8_59 : LkSN RX8 59 yX11_isOutside := ⟨⟨"LaceBonds", List.mem_of_getElem? (i := 3) rfl⟩, w_687⟩
theorem ks_RX9_23 : LkSN RX9 23 yX11_hasBit := ⟨⟨"LaceBonds", List.mem_of_getElem? (i := 6) rfl⟩, w_412⟩
theorem ks_RX9_31 : LkS RX9 31 yJ9_min_7cf53 := ⟨w_1207, w_1018⟩
theorem ks_RX9_40 : LkS RX9 40 yJ6_bitCount_0f7a4 := ⟨w_1206, w_447⟩
theorem kv_RX10_34 : LkV RX10 34 yX10_fits := ⟨w_1325, w_1327, ws_43⟩
theorem kv_RX10_38 : LkV RX10 38 yX10_take := ⟨w_1330, w_1332, ws_44⟩
theorem kv_RX11_175 : LkV RX11 175 yX2_owedBy := ⟨w_400, w_401, w_402⟩
theorem kv_RX11_227 : LkV RX11 227 yX2_isPledged := ⟨w_1028, w_427, w_428⟩
theorem kv_RX11_326 : LkV RX11 326 yX7_seek := ⟨w_418, w_419, w_420⟩
theorem kv_RX11_352 : LkV RX11 352 yX2_amountOf := ⟨w_465, w_408, w_409⟩
theorem kv_RX11_355 : LkV RX11 355 yX2_lacesThatAre := ⟨w_525, w_526, w_527⟩
theorem kv_RX11_361 : LkV RX11 361 yX2_hangingOn := ⟨w_461, w_462, w_463⟩
theorem kv_RX11_364 : LkV RX11 364 yX2_isInEachPledge := ⟨w_470, w_471, w_472⟩
theorem kv_RX11_444 : LkV RX11 444 yX10_areTold := ⟨w_1316, w_1317, w_1318⟩
theorem kv_RX11_449 : LkV RX11 449 yX10_seek := ⟨w_1321, w_1322, w_1323⟩
theorem kv_RX11_98 : LkV RX11 98 yX8_add := ⟨w_384, w_385, w_386⟩
theorem kv_RX12_102 : LkV RX12 102 yX12_isAt := ⟨w_1556, w_1558, ws_51⟩
theorem kv_RX12_109 : LkV RX12 109 yX12_blanks := ⟨w_1552, w_1554, ws_50⟩
theorem kv_RX12_128 : LkV RX12 128 yX12_number := ⟨w_1587, w_1589, ws_58⟩
theorem kv_RX12_138 : LkV RX12 138 yX12_isIn := ⟨w_1609, w_1611, ws_62⟩
theorem kv_RX12_252 : LkV RX12 252 yX12_uses := ⟨w_1548, w_1550, ws_49⟩
theorem kv_RX12_263 : LkV RX12 263 yX12_throwsIf := ⟨w_1695, w_1697, ws_77⟩
theorem kv_RX12_269 : LkV RX12 269 yX12_heldBy := ⟨w_1714, w_1716, ws_79⟩
theorem kv_RX12_296 : LkV RX12 296 yX12_isPledged := ⟨w_1722, w_1724, ws_81⟩
theorem kv_RX12_299 : LkV RX12 299 yX12_isLost := ⟨w_1742, w_1744, ws_86⟩
theorem kv_RX12_302 : LkV RX12 302 yX12_lostOnes := ⟨w_1738, w_1740, ws_85⟩
theorem kv_RX12_305 : LkV RX12 305 yX12_noPerson := ⟨w_1707, w_1709, ws_78⟩
theorem kv_RX12_308 : LkV RX12 308 yX12_owesOf := ⟨w_1718, w_1720, ws_80⟩
theorem kv_RX12_317 : LkV RX12 317 yX12_noLace := ⟨w_1751, w_1753, ws_87⟩
theorem kv_RX12_332 : LkV RX12 332 yX12_gets := ⟨w_1816, w_1818, ws_98⟩
theorem kv_RX12_335 : LkV RX12 335 yX12_tells := ⟨w_1820, w_1822, ws_99⟩
theorem kv_RX12_339 : LkV RX12 339 yX12_remembers := ⟨w_1812, w_1814, ws_97⟩
theorem kv_RX12_342 : LkV RX12 342 yX12_isPaid := ⟨w_1828, w_1830, ws_100⟩
theorem kv_RX12_348 : LkV RX12 348 yX12_isLostNow := ⟨w_1876, w_1878, ws_106⟩
theorem kv_RX12_377 : LkV RX12 377 yX12_leastOf := ⟨w_1920, w_1922, ws_112⟩
theorem kv_RX12_389 : LkV RX12 389 yX12_pledgedOnes := ⟨w_1932, w_1934, ws_113⟩
theorem kv_RX12_392 : LkV RX12 392 yX12_isRing := ⟨w_1936, w_1938, ws_114⟩
theorem kv_RX12_395 : LkV RX12 395 yX12_holdersOf := ⟨w_1952, w_1954, ws_116⟩
theorem kv_RX12_398 : LkV RX12 398 yX12_leadsFrom := ⟨w_1948, w_1950, ws_115⟩
theorem kv_RX12_401 : LkV RX12 401 yX12_amountOf := ⟨w_1964, w_1966, ws_117⟩
theorem kv_RX12_404 : LkV RX12 404 yX12_canBePaid := ⟨w_1968, w_1970, ws_118⟩
theorem kv_RX12_410 : LkV RX12 410 yX12_hangsOn := ⟨w_1988, w_1990, ws_120⟩
theorem kv_RX12_413 : LkV RX12 413 yX12_everybody := ⟨w_2000, w_2002, ws_121⟩
theorem kv_RX12_416 : LkV RX12 416 yX12_isNeeded := ⟨w_2004, w_2006, ws_122⟩
theorem kv_RX12_419 : LkV RX12 419 yX12_isTold := ⟨w_2012, w_2014, ws_123⟩
theorem kv_RX12_422 : LkV RX12 422 yX12_fits := ⟨w_2016, w_2018, ws_124⟩
theorem kv_RX12_428 : LkV RX12 428 yX12_ofLog := ⟨w_2060, w_2062, ws_126⟩
theorem kv_RX12_48 : LkV RX12 48 yX12_comesBack := ⟨w_1444, w_1446, ws_46⟩
theorem kv_RX12_59 : LkV RX12 59 yX12_people := ⟨w_1583, w_1585, ws_57⟩
theorem kv_RX12_70 : LkV RX12 70 yX12_ofLace := ⟨w_1613, w_1615, ws_63⟩
theorem kv_RX12_77 : LkV RX12 77 yX12_laces := ⟨w_1605, w_1607, ws_61⟩
theorem kv_RX12_80 : LkV RX12 80 yX12_tellsLace := ⟨w_1448, w_1450, ws_47⟩
theorem kv_RX12_84 : LkV RX12 84 yX12_of := ⟨w_1730, w_1732, ws_83⟩
theorem kv_RX1_34 : LkV RX1 34 yX1_rowAt := ⟨w_1401, w_1403, ws_45⟩
theorem kv_RX1_38 : LkV RX1 38 yX1_laceAt := ⟨w_1397, w_1398, w_1399⟩
theorem kv_RX1_41 : LkV RX1 41 yX1_dayAt := ⟨w_1408, w_1409, w_1410⟩
theorem kv_RX2_106 : LkV RX2 106 yX2_isPledged := ⟨w_474, w_427, w_428⟩
theorem kv_RX2_138 : LkV RX2 138 yX2_gaitOf := ⟨w_516, w_497, w_498⟩
theorem kv_RX2_149 : LkV RX2 149 yX2_amountOf := ⟨w_407, w_408, w_409⟩
theorem kv_RX2_152 : LkV RX2 152 yX2_heldBy := ⟨w_959, w_502, w_503⟩
theorem kv_RX2_159 : LkV RX2 159 yX2_lacesThatAre := ⟨w_964, w_526, w_527⟩
theorem kv_RX2_162 : LkV RX2 162 yX2_directCreditorsOf := ⟨w_1244, w_1246, ws_37⟩
theorem kv_RX2_165 : LkV RX2 165 yX2_laceFor := ⟨w_1271, w_1273, ws_39⟩
theorem kv_RX2_168 : LkV RX2 168 yX2_betterCall := ⟨w_1275, w_1277, ws_40⟩
theorem kv_RX2_172 : LkV RX2 172 yX2_partiesOf := ⟨w_475, w_477, ws_3⟩
theorem kv_RX2_192 : LkV RX2 192 yX2_payOff := ⟨w_1160, w_1083, w_1084⟩
theorem kv_RX2_195 : LkV RX2 195 yX2_creditorOf := ⟨w_1248, w_1250, ws_38⟩
theorem kv_RX2_84 : LkV RX2 84 yX2_letGo := ⟨w_704, w_706, ws_9⟩
theorem kv_RX2_88 : LkV RX2 88 yX2_earn := ⟨w_1086, w_1065, w_1066⟩
theorem kv_RX2_92 : LkV RX2 92 yX1_add := ⟨w_1087, w_1070, w_1071⟩
theorem kv_RX3_53 : LkV RX3 53 yX8_takeNumber := ⟨w_681, w_682, w_683⟩
theorem kv_RX3_65 : LkV RX3 65 yX8_refuse := ⟨w_677, w_678, w_679⟩
theorem kv_RX3_78 : LkV RX3 78 yX8_isRight := ⟨w_696, w_697, w_698⟩
theorem kv_RX4_58 : LkV RX4 58 yX2_gaitOf := ⟨w_496, w_497, w_498⟩
theorem kv_RX4_69 : LkV RX4 69 yX2_heldBy := ⟨w_501, w_502, w_503⟩
theorem kv_RX7_25 : LkV RX7 25 yX7_gather := ⟨w_422, w_424, ws_0⟩
theorem kv_RX7_50 : LkV RX7 50 yX7_isBalanced := ⟨w_438, w_440, ws_1⟩
theorem kv_RX7_54 : LkV RX7 54 yX7_take := ⟨w_442, w_444, ws_2⟩
theorem kv_RX7_61 : LkV RX7 61 yX2_isPledged := ⟨w_426, w_427, w_428⟩
theorem kv_RX8_28 : LkV RX8 28 yX8_useUp := ⟨w_598, w_599, w_600⟩
theorem kv_RX8_32 : LkV RX8 32 yX8_moveTo := ⟨w_602, w_604, ws_6⟩
theorem kv_RX8_36 : LkV RX8 36 yX8_runOf := ⟨w_621, w_623, ws_7⟩
theorem kv_RX8_52 : LkV RX8 52 yX8_refuse := ⟨w_685, w_678, w_679⟩
theorem kv_RX8_55 : LkV RX8 55 yX8_takesSign := ⟨w_787, w_780, w_781⟩
theorem kv_RX9_27 : LkV RX9 27 yX9_with := ⟨w_1202, w_1204, ws_34⟩
theorem kv_RX9_36 : LkV RX9 36 yX9_firstBest := ⟨w_1216, w_1218, ws_35⟩
theorem m_J6_bitCount_0f7a4 : LkM yJ6_bitCount_0f7a4 F_J6_bitCount_0f7a4 (.code yJ6_bitCount_0f7a4 F_J6_bitCount_0f7a4.2.1 F_J6_bitCount_0f7a4.2.2.1 (some .int)) 1 := ⟨w_448, w_25, ⟨by decide, by decide⟩, by decide +kernel, by decide⟩
theorem m_J6_numberOfTrailingZeros_0f7a4 : LkM yJ6_numberOfTrailingZeros_0f7a4 F_J6_numberOfTrailingZeros_0f7a4 (.code yJ6_numberOfTrailingZeros_0f7a4 F_J6_numberOfTrailingZeros_0f7a4.2.1 F_J6_numberOfTrailingZeros_0f7a4.2.2.1 (some .int)) 1 := ⟨w_432, w_25, ⟨by decide, by decide⟩, by decide +kernel, by decide⟩
theorem m_J9_floorMod_7cf53 : LkM yJ9_floorMod_7cf53 F_J9_floorMod_7cf53 (.code yJ9_floorMod_7cf53 F_J9_floorMod_7cf53.2.1 F_J9_floorMod_7cf53.2.2.1 (some .int)) 2 := ⟨w_1407, w_27, ⟨by decide, by decide⟩, by decide +kernel, by decide⟩
theorem m_J9_max_7cf53 : LkM yJ9_max_7cf53 F_J9_max_7cf53 (.code yJ9_max_7cf53 F_J9_max_7cf53.2.1 F_J9_max_7cf53.2.2.1 (some .int)) 2 := ⟨w_520, w_27, ⟨by decide, by decide⟩, by decide +kernel, by decide⟩
theorem m_J9_min_7cf53 : LkM yJ9_min_7cf53 F_J9_min_7cf53 (.code yJ9_min_7cf53 F_J9_min_7cf53.2.1 F_J9_min_7cf53.2.2.1 (some .int)) 2 := ⟨w_1019, w_27, ⟨by decide, by decide⟩, by decide +kernel, by decide⟩
theorem m_X10_areTold : LkM yX10_areTold F_X10_areTold (.code yX10_areTold F_X10_areTold.2.1 F_X10_areTold.2.2.1 (some .boolean)) 2 := ⟨w_1319, w_12, ⟨by decide, by decide⟩, by decide +kernel, by decide⟩
theorem m_X10_fits : LkM yX10_fits F_X10_fits (.code yX10_fits F_X10_fits.2.1 F_X10_fits.2.2.1 (some .boolean)) 2 := ⟨w_1328, w_12, ⟨by decide, by decide⟩, by decide +kernel, by decide⟩
theorem m_X10_seek : LkM yX10_seek F_X10_seek (.code yX10_seek F_X10_seek.2.1 F_X10_seek.2.2.1 none) 2 := ⟨w_1324, w_12, ⟨by decide, by decide⟩, by decide +kernel, by decide⟩
theorem m_X10_take : LkM yX10_take F_X10_take (.code yX10_take F_X10_take.2.1 F_X10_take.2.2.1 none) 1 := ⟨w_1333, w_12, ⟨by decide, by decide⟩, by decide +kernel, by decide⟩
theorem m_X11_hasBit : LkM yX11_hasBit F_X11_hasBit (.code yX11_hasBit F_X11_hasBit.2.1 F_X11_hasBit.2.2.1 (some .boolean)) 2 := ⟨w_413, w_1, ⟨by decide, by decide⟩, by decide +kernel, by decide⟩
theorem m_X11_isOutside : LkM yX11_isOutside F_X11_isOutside (.code yX11_isOutside F_X11_isOutside.2.1 F_X11_isOutside.2.2.1 (some .boolean)) 3 := ⟨w_688, w_1, ⟨by decide, by decide⟩, by decide +kernel, by decide⟩
theorem m_X11_lacesOf : LkM yX11_lacesOf F_X11_lacesOf (.code yX11_lacesOf F_X11_lacesOf.2.1 F_X11_lacesOf.2.2.1 (some .int)) 1 := ⟨w_406, w_1, ⟨by decide, by decide⟩, by decide +kernel, by decide⟩
theorem m_X11_ownerOf : LkM yX11_ownerOf F_X11_ownerOf (.code yX11_ownerOf F_X11_ownerOf.2.1 F_X11_ownerOf.2.2.1 (some .int)) 1 := ⟨w_437, w_1, ⟨by decide, by decide⟩, by decide +kernel, by decide⟩
theorem m_X12_amountOf : LkM yX12_amountOf F_X12_amountOf (.code yX12_amountOf F_X12_amountOf.2.1 F_X12_amountOf.2.2.1 (some .int)) 1 := ⟨w_1967, w_13, ⟨by decide, by decide⟩, by decide +kernel, by decide⟩
theorem m_X12_at : LkM yX12_at F_X12_at (.code yX12_at F_X12_at.2.1 F_X12_at.2.2.1 (some .int)) 2 := ⟨w_1599, w_13, ⟨by decide, by decide⟩, by decide +kernel, by decide⟩
theorem m_X12_blanks : LkM yX12_blanks F_X12_blanks (.code yX12_blanks F_X12_blanks.2.1 F_X12_blanks.2.2.1 none) 0 := ⟨w_1555, w_13, ⟨by decide, by decide⟩, by decide +kernel, by decide⟩
theorem m_X12_canBePaid : LkM yX12_canBePaid F_X12_canBePaid (.code yX12_canBePaid F_X12_canBePaid.2.1 F_X12_canBePaid.2.2.1 (some .boolean)) 1 := ⟨w_1971, w_13, ⟨by decide, by decide⟩, by decide +kernel, by decide⟩
theorem m_X12_comesBack : LkM yX12_comesBack F_X12_comesBack (.code yX12_comesBack F_X12_comesBack.2.1 F_X12_comesBack.2.2.1 none) 1 := ⟨w_1447, w_13, ⟨by decide, by decide⟩, by decide +kernel, by decide⟩
theorem m_X12_everybody : LkM yX12_everybody F_X12_everybody (.code yX12_everybody F_X12_everybody.2.1 F_X12_everybody.2.2.1 (some .int)) 0 := ⟨w_2003, w_13, ⟨by decide, by decide⟩, by decide +kernel, by decide⟩
theorem m_X12_fits : LkM yX12_fits F_X12_fits (.code yX12_fits F_X12_fits.2.1 F_X12_fits.2.2.1 (some .boolean)) 1 := ⟨w_2019, w_13, ⟨by decide, by decide⟩, by decide +kernel, by decide⟩
theorem m_X12_gets : LkM yX12_gets F_X12_gets (.code yX12_gets F_X12_gets.2.1 F_X12_gets.2.2.1 none) 2 := ⟨w_1819, w_13, ⟨by decide, by decide⟩, by decide +kernel, by decide⟩
theorem m_X12_hangsOn : LkM yX12_hangsOn F_X12_hangsOn (.code yX12_hangsOn F_X12_hangsOn.2.1 F_X12_hangsOn.2.2.1 (some .int)) 1 := ⟨w_1991, w_13, ⟨by decide, by decide⟩, by decide +kernel, by decide⟩
theorem m_X12_has : LkM yX12_has F_X12_has (.code yX12_has F_X12_has.2.1 F_X12_has.2.2.1 (some .boolean)) 2 := ⟨w_1915, w_13, ⟨by decide, by decide⟩, by decide +kernel, by decide⟩
theorem m_X12_heldBy : LkM yX12_heldBy F_X12_heldBy (.code yX12_heldBy F_X12_heldBy.2.1 F_X12_heldBy.2.2.1 (some .int)) 1 := ⟨w_1717, w_13, ⟨by decide, by decide⟩, by decide +kernel, by decide⟩
theorem m_X12_holdersOf : LkM yX12_holdersOf F_X12_holdersOf (.code yX12_holdersOf F_X12_holdersOf.2.1 F_X12_holdersOf.2.2.1 (some .int)) 1 := ⟨w_1955, w_13, ⟨by decide, by decide⟩, by decide +kernel, by decide⟩
theorem m_X12_in : LkM yX12_in F_X12_in (.code yX12_in F_X12_in.2.1 F_X12_in.2.2.1 (some .boolean)) 3 := ⟨w_1713, w_13, ⟨by decide, by decide⟩, by decide +kernel, by decide⟩
theorem m_X12_isAt : LkM yX12_isAt F_X12_isAt (.code yX12_isAt F_X12_isAt.2.1 F_X12_isAt.2.2.1 (some .boolean)) 2 := ⟨w_1559, w_13, ⟨by decide, by decide⟩, by decide +kernel, by decide⟩
theorem m_X12_isIn : LkM yX12_isIn F_X12_isIn (.code yX12_isIn F_X12_isIn.2.1 F_X12_isIn.2.2.1 (some .boolean)) 1 := ⟨w_1612, w_13, ⟨by decide, by decide⟩, by decide +kernel, by decide⟩
theorem m_X12_isLost : LkM yX12_isLost F_X12_isLost (.code yX12_isLost F_X12_isLost.2.1 F_X12_isLost.2.2.1 (some .boolean)) 1 := ⟨w_1745, w_13, ⟨by decide, by decide⟩, by decide +kernel, by decide⟩
theorem m_X12_isLostNow : LkM yX12_isLostNow F_X12_isLostNow (.code yX12_isLostNow F_X12_isLostNow.2.1 F_X12_isLostNow.2.2.1 none) 1 := ⟨w_1879, w_13, ⟨by decide, by decide⟩, by decide +kernel, by decide⟩
theorem m_X12_isNeeded : LkM yX12_isNeeded F_X12_isNeeded (.code yX12_isNeeded F_X12_isNeeded.2.1 F_X12_isNeeded.2.2.1 (some .boolean)) 1 := ⟨w_2007, w_13, ⟨by decide, by decide⟩, by decide +kernel, by decide⟩
theorem m_X12_isPaid : LkM yX12_isPaid F_X12_isPaid (.code yX12_isPaid F_X12_isPaid.2.1 F_X12_isPaid.2.2.1 none) 2 := ⟨w_1831, w_13, ⟨by decide, by decide⟩, by decide +kernel, by decide⟩
theorem m_X12_isPledged : LkM yX12_isPledged F_X12_isPledged (.code yX12_isPledged F_X12_isPledged.2.1 F_X12_isPledged.2.2.1 (some .boolean)) 1 := ⟨w_1725, w_13, ⟨by decide, by decide⟩, by decide +kernel, by decide⟩
theorem m_X12_isRing : LkM yX12_isRing F_X12_isRing (.code yX12_isRing F_X12_isRing.2.1 F_X12_isRing.2.2.1 (some .boolean)) 1 := ⟨w_1939, w_13, ⟨by decide, by decide⟩, by decide +kernel, by decide⟩
theorem m_X12_isTold : LkM yX12_isTold F_X12_isTold (.code yX12_isTold F_X12_isTold.2.1 F_X12_isTold.2.2.1 (some .boolean)) 0 := ⟨w_2015, w_13, ⟨by decide, by decide⟩, by decide +kernel, by decide⟩
theorem m_X12_laceAt : LkM yX12_laceAt F_X12_laceAt (.code yX12_laceAt F_X12_laceAt.2.1 F_X12_laceAt.2.2.1 (some .int)) 2 := ⟨w_1454, w_13, ⟨by decide, by decide⟩, by decide +kernel, by decide⟩
theorem m_X12_laces : LkM yX12_laces F_X12_laces (.code yX12_laces F_X12_laces.2.1 F_X12_laces.2.2.1 (some .int)) 0 := ⟨w_1608, w_13, ⟨by decide, by decide⟩, by decide +kernel, by decide⟩
theorem m_X12_leadsFrom : LkM yX12_leadsFrom F_X12_leadsFrom (.code yX12_leadsFrom F_X12_leadsFrom.2.1 F_X12_leadsFrom.2.2.1 (some .int)) 1 := ⟨w_1951, w_13, ⟨by decide, by decide⟩, by decide +kernel, by decide⟩
theorem m_X12_leastOf : LkM yX12_leastOf F_X12_leastOf (.code yX12_leastOf F_X12_leastOf.2.1 F_X12_leastOf.2.2.1 (some .int)) 2 := ⟨w_1923, w_13, ⟨by decide, by decide⟩, by decide +kernel, by decide⟩
theorem m_X12_lostOnes : LkM yX12_lostOnes F_X12_lostOnes (.code yX12_lostOnes F_X12_lostOnes.2.1 F_X12_lostOnes.2.2.1 (some .int)) 0 := ⟨w_1741, w_13, ⟨by decide, by decide⟩, by decide +kernel, by decide⟩
theorem m_X12_noLace : LkM yX12_noLace F_X12_noLace (.code yX12_noLace F_X12_noLace.2.1 F_X12_noLace.2.2.1 (some .boolean)) 1 := ⟨w_1754, w_13, ⟨by decide, by decide⟩, by decide +kernel, by decide⟩
theorem m_X12_noPerson : LkM yX12_noPerson F_X12_noPerson (.code yX12_noPerson F_X12_noPerson.2.1 F_X12_noPerson.2.2.1 (some .boolean)) 1 := ⟨w_1710, w_13, ⟨by decide, by decide⟩, by decide +kernel, by decide⟩
theorem m_X12_noPlace : LkM yX12_noPlace F_X12_noPlace (.code yX12_noPlace F_X12_noPlace.2.1 F_X12_noPlace.2.2.1 (some .boolean)) 1 := ⟨w_1761, w_13, ⟨by decide, by decide⟩, by decide +kernel, by decide⟩
theorem m_X12_number : LkM yX12_number F_X12_number (.code yX12_number F_X12_number.2.1 F_X12_number.2.2.1 (some .int)) 2 := ⟨w_1590, w_13, ⟨by decide, by decide⟩, by decide +kernel, by decide⟩
theorem m_X12_of : LkM yX12_of F_X12_of (.code yX12_of F_X12_of.2.1 F_X12_of.2.2.1 (some .int)) 2 := ⟨w_1733, w_13, ⟨by decide, by decide⟩, by decide +kernel, by decide⟩
theorem m_X12_ofLace : LkM yX12_ofLace F_X12_ofLace (.code yX12_ofLace F_X12_ofLace.2.1 F_X12_ofLace.2.2.1 (some .int)) 2 := ⟨w_1616, w_13, ⟨by decide, by decide⟩, by decide +kernel, by decide⟩
theorem m_X12_ofLog : LkM yX12_ofLog F_X12_ofLog (.code yX12_ofLog F_X12_ofLog.2.1 F_X12_ofLog.2.2.1 (some .int)) 2 := ⟨w_2063, w_13, ⟨by decide, by decide⟩, by decide +kernel, by decide⟩
theorem m_X12_owesOf : LkM yX12_owesOf F_X12_owesOf (.code yX12_owesOf F_X12_owesOf.2.1 F_X12_owesOf.2.2.1 (some .int)) 1 := ⟨w_1721, w_13, ⟨by decide, by decide⟩, by decide +kernel, by decide⟩
theorem m_X12_ownerOf : LkM yX12_ownerOf F_X12_ownerOf (.code yX12_ownerOf F_X12_ownerOf.2.1 F_X12_ownerOf.2.2.1 (some .int)) 1 := ⟨w_1620, w_13, ⟨by decide, by decide⟩, by decide +kernel, by decide⟩
theorem m_X12_people : LkM yX12_people F_X12_people (.code yX12_people F_X12_people.2.1 F_X12_people.2.2.1 (some .int)) 0 := ⟨w_1586, w_13, ⟨by decide, by decide⟩, by decide +kernel, by decide⟩
theorem m_X12_pledgedOnes : LkM yX12_pledgedOnes F_X12_pledgedOnes (.code yX12_pledgedOnes F_X12_pledgedOnes.2.1 F_X12_pledgedOnes.2.2.1 (some .int)) 0 := ⟨w_1935, w_13, ⟨by decide, by decide⟩, by decide +kernel, by decide⟩
theorem m_X12_remembers : LkM yX12_remembers F_X12_remembers (.code yX12_remembers F_X12_remembers.2.1 F_X12_remembers.2.2.1 none) 0 := ⟨w_1815, w_13, ⟨by decide, by decide⟩, by decide +kernel, by decide⟩
theorem m_X12_tells : LkM yX12_tells F_X12_tells (.code yX12_tells F_X12_tells.2.1 F_X12_tells.2.2.1 none) 3 := ⟨w_1823, w_13, ⟨by decide, by decide⟩, by decide +kernel, by decide⟩
theorem m_X12_tellsLace : LkM yX12_tellsLace F_X12_tellsLace (.code yX12_tellsLace F_X12_tellsLace.2.1 F_X12_tellsLace.2.2.1 none) 6 := ⟨w_1451, w_13, ⟨by decide, by decide⟩, by decide +kernel, by decide⟩
theorem m_X12_throwsIf : LkM yX12_throwsIf F_X12_throwsIf (.code yX12_throwsIf F_X12_throwsIf.2.1 F_X12_throwsIf.2.2.1 (some .boolean)) 2 := ⟨w_1698, w_13, ⟨by decide, by decide⟩, by decide +kernel, by decide⟩
theorem m_X12_uses : LkM yX12_uses F_X12_uses (.code yX12_uses F_X12_uses.2.1 F_X12_uses.2.2.1 none) 0 := ⟨w_1551, w_13, ⟨by decide, by decide⟩, by decide +kernel, by decide⟩
theorem m_X1_add : LkM yX1_add F_X1_add (.code yX1_add F_X1_add.2.1 F_X1_add.2.2.1 none) 4 := ⟨w_1072, w_4, ⟨by decide, by decide⟩, by decide +kernel, by decide⟩
theorem m_X1_dayAt : LkM yX1_dayAt F_X1_dayAt (.code yX1_dayAt F_X1_dayAt.2.1 F_X1_dayAt.2.2.1 (some .int)) 1 := ⟨w_1411, w_4, ⟨by decide, by decide⟩, by decide +kernel, by decide⟩
theorem m_X1_laceAt : LkM yX1_laceAt F_X1_laceAt (.code yX1_laceAt F_X1_laceAt.2.1 F_X1_laceAt.2.2.1 (some .int)) 1 := ⟨w_1400, w_4, ⟨by decide, by decide⟩, by decide +kernel, by decide⟩
theorem m_X1_rowAt : LkM yX1_rowAt F_X1_rowAt (.code yX1_rowAt F_X1_rowAt.2.1 F_X1_rowAt.2.2.1 (some .int)) 1 := ⟨w_1404, w_4, ⟨by decide, by decide⟩, by decide +kernel, by decide⟩
theorem m_X2_amountOf : LkM yX2_amountOf F_X2_amountOf (.code yX2_amountOf F_X2_amountOf.2.1 F_X2_amountOf.2.2.1 (some .int)) 1 := ⟨w_410, w_3, ⟨by decide, by decide⟩, by decide +kernel, by decide⟩
theorem m_X2_betterCall : LkM yX2_betterCall F_X2_betterCall (.code yX2_betterCall F_X2_betterCall.2.1 F_X2_betterCall.2.2.1 (some .int)) 3 := ⟨w_1278, w_3, ⟨by decide, by decide⟩, by decide +kernel, by decide⟩
theorem m_X2_creditorOf : LkM yX2_creditorOf F_X2_creditorOf (.code yX2_creditorOf F_X2_creditorOf.2.1 F_X2_creditorOf.2.2.1 (some .int)) 1 := ⟨w_1251, w_3, ⟨by decide, by decide⟩, by decide +kernel, by decide⟩
theorem m_X2_directCreditorsOf : LkM yX2_directCreditorsOf F_X2_directCreditorsOf (.code yX2_directCreditorsOf F_X2_directCreditorsOf.2.1 F_X2_directCreditorsOf.2.2.1 (some .int)) 1 := ⟨w_1247, w_3, ⟨by decide, by decide⟩, by decide +kernel, by decide⟩
theorem m_X2_earn : LkM yX2_earn F_X2_earn (.code yX2_earn F_X2_earn.2.1 F_X2_earn.2.2.1 none) 2 := ⟨w_1067, w_3, ⟨by decide, by decide⟩, by decide +kernel, by decide⟩
theorem m_X2_gaitOf : LkM yX2_gaitOf F_X2_gaitOf (.code yX2_gaitOf F_X2_gaitOf.2.1 F_X2_gaitOf.2.2.1 (some .int)) 1 := ⟨w_499, w_3, ⟨by decide, by decide⟩, by decide +kernel, by decide⟩
theorem m_X2_hangingOn : LkM yX2_hangingOn F_X2_hangingOn (.code yX2_hangingOn F_X2_hangingOn.2.1 F_X2_hangingOn.2.2.1 (some .int)) 1 := ⟨w_464, w_3, ⟨by decide, by decide⟩, by decide +kernel, by decide⟩
theorem m_X2_heldBy : LkM yX2_heldBy F_X2_heldBy (.code yX2_heldBy F_X2_heldBy.2.1 F_X2_heldBy.2.2.1 (some .int)) 1 := ⟨w_504, w_3, ⟨by decide, by decide⟩, by decide +kernel, by decide⟩
theorem m_X2_isInEachPledge : LkM yX2_isInEachPledge F_X2_isInEachPledge (.code yX2_isInEachPledge F_X2_isInEachPledge.2.1 F_X2_isInEachPledge.2.2.1 (some .boolean)) 1 := ⟨w_473, w_3, ⟨by decide, by decide⟩, by decide +kernel, by decide⟩
theorem m_X2_isPledged : LkM yX2_isPledged F_X2_isPledged (.code yX2_isPledged F_X2_isPledged.2.1 F_X2_isPledged.2.2.1 (some .boolean)) 1 := ⟨w_429, w_3, ⟨by decide, by decide⟩, by decide +kernel, by decide⟩
theorem m_X2_laceFor : LkM yX2_laceFor F_X2_laceFor (.code yX2_laceFor F_X2_laceFor.2.1 F_X2_laceFor.2.2.1 (some .int)) 2 := ⟨w_1274, w_3, ⟨by decide, by decide⟩, by decide +kernel, by decide⟩
theorem m_X2_lacesThatAre : LkM yX2_lacesThatAre F_X2_lacesThatAre (.code yX2_lacesThatAre F_X2_lacesThatAre.2.1 F_X2_lacesThatAre.2.2.1 (some .int)) 1 := ⟨w_528, w_3, ⟨by decide, by decide⟩, by decide +kernel, by decide⟩
theorem m_X2_letGo : LkM yX2_letGo F_X2_letGo (.code yX2_letGo F_X2_letGo.2.1 F_X2_letGo.2.2.1 none) 3 := ⟨w_707, w_3, ⟨by decide, by decide⟩, by decide +kernel, by decide⟩
theorem m_X2_owedBy : LkM yX2_owedBy F_X2_owedBy (.code yX2_owedBy F_X2_owedBy.2.1 F_X2_owedBy.2.2.1 (some .int)) 1 := ⟨w_403, w_3, ⟨by decide, by decide⟩, by decide +kernel, by decide⟩
theorem m_X2_partiesOf : LkM yX2_partiesOf F_X2_partiesOf (.code yX2_partiesOf F_X2_partiesOf.2.1 F_X2_partiesOf.2.2.1 (some .int)) 1 := ⟨w_478, w_3, ⟨by decide, by decide⟩, by decide +kernel, by decide⟩
theorem m_X2_payOff : LkM yX2_payOff F_X2_payOff (.code yX2_payOff F_X2_payOff.2.1 F_X2_payOff.2.2.1 none) 2 := ⟨w_1085, w_3, ⟨by decide, by decide⟩, by decide +kernel, by decide⟩
theorem m_X7_gather : LkM yX7_gather F_X7_gather (.code yX7_gather F_X7_gather.2.1 F_X7_gather.2.2.1 (some .int)) 1 := ⟨w_425, w_10, ⟨by decide, by decide⟩, by decide +kernel, by decide⟩
theorem m_X7_isBalanced : LkM yX7_isBalanced F_X7_isBalanced (.code yX7_isBalanced F_X7_isBalanced.2.1 F_X7_isBalanced.2.2.1 (some .boolean)) 0 := ⟨w_441, w_10, ⟨by decide, by decide⟩, by decide +kernel, by decide⟩
theorem m_X7_seek : LkM yX7_seek F_X7_seek (.code yX7_seek F_X7_seek.2.1 F_X7_seek.2.2.1 none) 1 := ⟨w_421, w_10, ⟨by decide, by decide⟩, by decide +kernel, by decide⟩
theorem m_X7_take : LkM yX7_take F_X7_take (.code yX7_take F_X7_take.2.1 F_X7_take.2.2.1 none) 1 := ⟨w_445, w_10, ⟨by decide, by decide⟩, by decide +kernel, by decide⟩
theorem m_X8_add : LkM yX8_add F_X8_add (.code yX8_add F_X8_add.2.1 F_X8_add.2.2.1 none) 1 := ⟨w_387, w_2, ⟨by decide, by decide⟩, by decide +kernel, by decide⟩
theorem m_X8_isRight : LkM yX8_isRight F_X8_isRight (.code yX8_isRight F_X8_isRight.2.1 F_X8_isRight.2.2.1 (some .boolean)) 0 := ⟨w_699, w_2, ⟨by decide, by decide⟩, by decide +kernel, by decide⟩
theorem m_X8_moveTo : LkM yX8_moveTo F_X8_moveTo (.code yX8_moveTo F_X8_moveTo.2.1 F_X8_moveTo.2.2.1 none) 1 := ⟨w_605, w_2, ⟨by decide, by decide⟩, by decide +kernel, by decide⟩
theorem m_X8_refuse : LkM yX8_refuse F_X8_refuse (.code yX8_refuse F_X8_refuse.2.1 F_X8_refuse.2.2.1 none) 1 := ⟨w_680, w_2, ⟨by decide, by decide⟩, by decide +kernel, by decide⟩
theorem m_X8_runOf : LkM yX8_runOf F_X8_runOf (.code yX8_runOf F_X8_runOf.2.1 F_X8_runOf.2.2.1 (some .int)) 2 := ⟨w_624, w_2, ⟨by decide, by decide⟩, by decide +kernel, by decide⟩
theorem m_X8_takeNumber : LkM yX8_takeNumber F_X8_takeNumber (.code yX8_takeNumber F_X8_takeNumber.2.1 F_X8_takeNumber.2.2.1 (some .int)) 2 := ⟨w_684, w_2, ⟨by decide, by decide⟩, by decide +kernel, by decide⟩
theorem m_X8_takesSign : LkM yX8_takesSign F_X8_takesSign (.code yX8_takesSign F_X8_takesSign.2.1 F_X8_takesSign.2.2.1 (some .boolean)) 1 := ⟨w_782, w_2, ⟨by decide, by decide⟩, by decide +kernel, by decide⟩
theorem m_X8_useUp : LkM yX8_useUp F_X8_useUp (.code yX8_useUp F_X8_useUp.2.1 F_X8_useUp.2.2.1 (some .int)) 0 := ⟨w_601, w_2, ⟨by decide, by decide⟩, by decide +kernel, by decide⟩
theorem m_X9_firstBest : LkM yX9_firstBest F_X9_firstBest (.code yX9_firstBest F_X9_firstBest.2.1 F_X9_firstBest.2.2.1 (some .int)) 1 := ⟨w_1219, w_11, ⟨by decide, by decide⟩, by decide +kernel, by decide⟩
theorem m_X9_with : LkM yX9_with F_X9_with (.code yX9_with F_X9_with.2.1 F_X9_with.2.2.1 (some .int)) 2 := ⟨w_1205, w_11, ⟨by decide, by decide⟩, by decide +kernel, by decide⟩
