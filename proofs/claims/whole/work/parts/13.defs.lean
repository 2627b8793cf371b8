/-! THE METHODS AS PURE FUNCTIONS (printed by wip/whole/build3.py) -/
def f_X1_copyFrom (μ : Mem) (a0 : Nat) (a1 : Nat) : Option Mem :=
Option.bind (cpM (mset (mset μ a0 1 (μ a1 1)) a0 2 ((mset μ a0 1 (μ a1 1)) a1 2)) (a1 + 1) 60 0 (a0 + 1) 60 0 60) fun μ1 =>
some μ1
def f_X2_copyFrom (μ : Mem) (a0 : Nat) (a1 : Nat) : Option Mem :=
Option.bind (cpM (mset (mset (mset (mset (mset (mset μ a0 0 (μ a1 0)) a0 1 ((mset μ a0 0 (μ a1 0)) a1 1)) a0 2 ((mset (mset μ a0 0 (μ a1 0)) a0 1 ((mset μ a0 0 (μ a1 0)) a1 1)) a1 2)) a0 3 ((mset (mset (mset μ a0 0 (μ a1 0)) a0 1 ((mset μ a0 0 (μ a1 0)) a1 1)) a0 2 ((mset (mset μ a0 0 (μ a1 0)) a0 1 ((mset μ a0 0 (μ a1 0)) a1 1)) a1 2)) a1 3)) a0 4 ((mset (mset (mset (mset μ a0 0 (μ a1 0)) a0 1 ((mset μ a0 0 (μ a1 0)) a1 1)) a0 2 ((mset (mset μ a0 0 (μ a1 0)) a0 1 ((mset μ a0 0 (μ a1 0)) a1 1)) a1 2)) a0 3 ((mset (mset (mset μ a0 0 (μ a1 0)) a0 1 ((mset μ a0 0 (μ a1 0)) a1 1)) a0 2 ((mset (mset μ a0 0 (μ a1 0)) a0 1 ((mset μ a0 0 (μ a1 0)) a1 1)) a1 2)) a1 3)) a1 4)) a0 5 ((mset (mset (mset (mset (mset μ a0 0 (μ a1 0)) a0 1 ((mset μ a0 0 (μ a1 0)) a1 1)) a0 2 ((mset (mset μ a0 0 (μ a1 0)) a0 1 ((mset μ a0 0 (μ a1 0)) a1 1)) a1 2)) a0 3 ((mset (mset (mset μ a0 0 (μ a1 0)) a0 1 ((mset μ a0 0 (μ a1 0)) a1 1)) a0 2 ((mset (mset μ a0 0 (μ a1 0)) a0 1 ((mset μ a0 0 (μ a1 0)) a1 1)) a1 2)) a1 3)) a0 4 ((mset (mset (mset (mset μ a0 0 (μ a1 0)) a0 1 ((mset μ a0 0 (μ a1 0)) a1 1)) a0 2 ((mset (mset μ a0 0 (μ a1 0)) a0 1 ((mset μ a0 0 (μ a1 0)) a1 1)) a1 2)) a0 3 ((mset (mset (mset μ a0 0 (μ a1 0)) a0 1 ((mset μ a0 0 (μ a1 0)) a1 1)) a0 2 ((mset (mset μ a0 0 (μ a1 0)) a0 1 ((mset μ a0 0 (μ a1 0)) a1 1)) a1 2)) a1 3)) a1 4)) a1 5)) (a1 + 1) 6 0 (a0 + 1) 6 0 6) fun μ1 =>
Option.bind (cpM μ1 (a1 + 2) 6 0 (a0 + 2) 6 0 6) fun μ2 =>
Option.bind (cpM μ2 (a1 + 3) 6 0 (a0 + 3) 6 0 6) fun μ3 =>
Option.bind (cpM μ3 (a1 + 4) 6 0 (a0 + 4) 6 0 6) fun μ4 =>
Option.bind (cpM μ4 (a1 + 5) 6 0 (a0 + 5) 6 0 6) fun μ5 =>
Option.bind (cpM μ5 (a1 + 6) 12 0 (a0 + 6) 12 0 12) fun μ6 =>
Option.bind (cpM μ6 (a1 + 7) 12 0 (a0 + 7) 12 0 12) fun μ7 =>
Option.bind (cpM μ7 (a1 + 8) 12 0 (a0 + 8) 12 0 12) fun μ8 =>
Option.bind (cpM μ8 (a1 + 9) 12 0 (a0 + 9) 12 0 12) fun μ9 =>
Option.bind (cpM μ9 (a1 + 10) 12 0 (a0 + 10) 12 0 12) fun μ10 =>
Option.bind (cpM μ10 (a1 + 11) 12 0 (a0 + 11) 12 0 12) fun μ11 =>
Option.bind (cpM μ11 (a1 + 12) 20 0 (a0 + 12) 20 0 20) fun μ12 =>
Option.bind (f_X1_copyFrom μ12 (a0 + 13) (a1 + 13)) fun q13 =>
some q13
def f_J9_min_7cf53 (μ : Mem) (p0 : Int32) (p1 : Int32) : Option Int32 :=
some (if p1 < p0 then (p1 : Int32) else p0)
def f_X0_remember (μ : Mem) (a1 : Nat) : Option Mem :=
Option.bind (ldA (μ 74 1)) fun t1 =>
Option.bind (f_X2_copyFrom μ t1 a1) fun q2 =>
Option.bind (rm9 ((q2 74 1) + 1) 12) fun t3 =>
Option.bind (f_J9_min_7cf53 (mset q2 74 1 t3) (((mset q2 74 1 t3) 74 2) + 1) 12) fun t4 =>
some (mset (mset q2 74 1 t3) 74 2 t4)
def f_X0_takeBack (μ : Mem) (a1 : Nat) : Option (Bool × Mem) :=
if (μ 74 2) = 0 then
some (false, μ)
else
Option.bind (rm9 ((((mset μ 74 2 ((μ 74 2) - 1)) 74 1) + 12) - 1) 12) fun t1 =>
Option.bind (ldA ((mset (mset μ 74 2 ((μ 74 2) - 1)) 74 1 t1) 74 1)) fun t2 =>
Option.bind (f_X2_copyFrom (mset (mset μ 74 2 ((μ 74 2) - 1)) 74 1 t1) a1 t2) fun q3 =>
some (true, q3)
def f_X0_forget (μ : Mem) : Option Mem :=
some (mset μ 74 2 0)
def f_X1_add (μ : Mem) (a0 : Nat) (p1 : Int32) (p2 : Int32) (p3 : Int32) (p4 : Int32) : Option Mem :=
Option.bind (wr μ (a0 + 1) 60 (μ a0 1) ((((p1 <<< (16 &&& 31)) ||| (p2 <<< (12 &&& 31))) ||| (p3 <<< (10 &&& 31))) ||| p4)) fun μ1 =>
Option.bind (rm9 ((μ1 a0 1) + 1) 60) fun t2 =>
Option.bind (f_J9_min_7cf53 (mset μ1 a0 1 t2) (((mset μ1 a0 1 t2) a0 2) + 1) 60) fun t3 =>
some (mset (mset μ1 a0 1 t2) a0 2 t3)
def f_J9_floorMod_7cf53_j18 (μ : Mem) (l2 : Int32) : Option Int32 :=
some l2
def f_J9_floorMod_7cf53 (μ : Mem) (p0 : Int32) (p1 : Int32) : Option Int32 :=
Option.bind (rm9 p0 p1) fun t1 =>
if 0 ≤ (p0 ^^^ p1) then
f_J9_floorMod_7cf53_j18 μ t1
else
if t1 = 0 then
f_J9_floorMod_7cf53_j18 μ t1
else
some (t1 + p1)
def f_X1_rowAt (μ : Mem) (a0 : Nat) (p1 : Int32) : Option Int32 :=
Option.bind (f_J9_floorMod_7cf53 μ (((μ a0 1) - 1) - p1) 60) fun t1 =>
Option.bind (rd μ (a0 + 1) 60 t1) fun t2 =>
some t2
def f_X1_dayAt (μ : Mem) (a0 : Nat) (p1 : Int32) : Option Int32 :=
Option.bind (f_X1_rowAt μ a0 p1) fun t1 =>
some (t1 >>> (16 &&& 31))
def f_X1_laceAt (μ : Mem) (a0 : Nat) (p1 : Int32) : Option Int32 :=
Option.bind (f_X1_rowAt μ a0 p1) fun t1 =>
some ((t1 >>> (12 &&& 31)) &&& 15)
def f_X1_whatAt (μ : Mem) (a0 : Nat) (p1 : Int32) : Option Int32 :=
Option.bind (f_X1_rowAt μ a0 p1) fun t1 =>
some ((t1 >>> (10 &&& 31)) &&& 3)
def f_X1_amountAt (μ : Mem) (a0 : Nat) (p1 : Int32) : Option Int32 :=
Option.bind (f_X1_rowAt μ a0 p1) fun t1 =>
some (t1 &&& 1023)
def f_X1_rowsOf_b4 (μ : Mem) (a0 : Nat) (l1 : Int32) (l2 : Int32) (l3 : Int32) : Option ((Int32 × Int32) ⊕ Int32) :=
if (μ a0 2) ≤ l3 then
some (.inr l2)
else
Option.bind (f_X1_laceAt μ a0 l3) fun t1 =>
some (.inl ((if t1 = l1 then ((l2 + 1) : Int32) else l2), (l3 + 1)))
def f_X1_rowsOf_j30 (μ : Mem) (a0 : Nat) (l2 : Int32) : Option Int32 :=
some l2
def f_X1_rowsOf_l4 (μ : Mem) (a0 : Nat) (l1 : Int32) (l2 : Int32) (l3 : Int32) : Option Int32 := Option.bind (loopN 10000 (fun z : (Int32 × Int32) => f_X1_rowsOf_b4 μ a0 l1 z.1 z.2) (l2, l3)) fun t : Int32 => f_X1_rowsOf_j30 μ a0 t
def f_X1_rowsOf (μ : Mem) (a0 : Nat) (p1 : Int32) : Option Int32 :=
f_X1_rowsOf_l4 μ a0 p1 0 0
def f_X1_latestDayOf_b2 (μ : Mem) (a0 : Nat) (l1 : Int32) (l2 : Int32) : Option (Int32 ⊕ (Unit ⊕ Int32)) :=
if (μ a0 2) ≤ l2 then
some (.inr (.inl ()))
else
Option.bind (f_X1_laceAt μ a0 l2) fun t1 =>
if t1 = l1 then
Option.bind (f_X1_dayAt μ a0 l2) fun t2 =>
some (.inr (.inr t2))
else
some (.inl (l2 + 1))
def f_X1_latestDayOf_j31 (μ : Mem) (a0 : Nat) : Option Int32 :=
some (-1)
def f_X1_latestDayOf_l2 (μ : Mem) (a0 : Nat) (l1 : Int32) (l2 : Int32) : Option Int32 := Option.bind (loopN 10000 (fun z : Int32 => f_X1_latestDayOf_b2 μ a0 l1 z) l2) fun t : (Unit ⊕ Int32) => Sum.elim (fun e => f_X1_latestDayOf_j31 μ a0) (fun x => some x) t
def f_X1_latestDayOf (μ : Mem) (a0 : Nat) (p1 : Int32) : Option Int32 :=
f_X1_latestDayOf_l2 μ a0 p1 0
def f_X2_letGo (μ : Mem) (a0 : Nat) (p1 : Int32) (p2 : Int32) (p3 : Int32) : Option Mem :=
Option.bind (wr μ (a0 + 6) 12 p1 p2) fun μ1 =>
Option.bind (wr μ1 (a0 + 7) 12 p1 p3) fun μ2 =>
Option.bind (wr μ2 (a0 + 8) 12 p1 0) fun μ3 =>
Option.bind (wr μ3 (a0 + 9) 12 p1 0) fun μ4 =>
Option.bind (wr μ4 (a0 + 10) 12 p1 0) fun μ5 =>
Option.bind (wr μ5 (a0 + 11) 12 p1 (-1)) fun μ6 =>
some μ6
def f_X2_addPerson (μ : Mem) (a0 : Nat) (p1 : Int32) (p2 : Int32) (p3 : Int32) : Option Mem :=
Option.bind (wr μ (a0 + 1) 6 (μ a0 0) p1) fun μ1 =>
Option.bind (wr μ1 (a0 + 2) 6 (μ1 a0 0) p2) fun μ2 =>
Option.bind (wr μ2 (a0 + 3) 6 (μ2 a0 0) p3) fun μ3 =>
Option.bind (wr μ3 (a0 + 4) 6 (μ3 a0 0) p3) fun μ4 =>
Option.bind (wr μ4 (a0 + 5) 6 (μ4 a0 0) 0) fun μ5 =>
Option.bind (f_X2_letGo μ5 a0 (2 * (μ5 a0 0)) 0 (-1)) fun q6 =>
Option.bind (f_X2_letGo q6 a0 ((2 * (q6 a0 0)) + 1) 0 (-1)) fun q7 =>
some (mset q7 a0 0 ((q7 a0 0) + 1))
def f_X2_pledge (μ : Mem) (a0 : Nat) (p1 : Int32) (p2 : Int32) (p3 : Int32) (p4 : Int32) (p5 : Int32) (p6 : Int32) : Option Mem :=
Option.bind (wr μ (a0 + 6) 12 p1 1) fun μ1 =>
Option.bind (wr μ1 (a0 + 7) 12 p1 p2) fun μ2 =>
Option.bind (wr μ2 (a0 + 8) 12 p1 p3) fun μ3 =>
Option.bind (wr μ3 (a0 + 9) 12 p1 p4) fun μ4 =>
Option.bind (wr μ4 (a0 + 10) 12 p1 p5) fun μ5 =>
Option.bind (wr μ5 (a0 + 11) 12 p1 p6) fun μ6 =>
some μ6
def f_X2_earn (μ : Mem) (a0 : Nat) (p1 : Int32) (p2 : Int32) : Option Mem :=
Option.bind (rd μ (a0 + 1) 6 p1) fun t1 =>
Option.bind (f_J9_min_7cf53 μ 999 (t1 + p2)) fun t2 =>
Option.bind (wr μ (a0 + 1) 6 p1 t2) fun μ3 =>
some μ3
def f_X2_payOff (μ : Mem) (a0 : Nat) (p1 : Int32) (p2 : Int32) : Option Mem :=
Option.bind (rd μ (a0 + 1) 6 p2) fun t1 =>
Option.bind (rd μ (a0 + 8) 12 p1) fun t2 =>
Option.bind (wr μ (a0 + 1) 6 p2 (t1 - t2)) fun μ3 =>
Option.bind (rd μ3 (a0 + 7) 12 p1) fun t4 =>
Option.bind (rd μ3 (a0 + 8) 12 p1) fun t5 =>
Option.bind (f_X2_earn μ3 a0 t4 t5) fun q6 =>
Option.bind (rd q6 (a0 + 8) 12 p1) fun t7 =>
Option.bind (f_X1_add q6 (a0 + 13) (q6 a0 2) p1 1 t7) fun q8 =>
Option.bind (f_X2_letGo q8 a0 p1 0 (-1)) fun q9 =>
some q9
def f_X2_draw (μ : Mem) (a0 : Nat) : Option (Int32 × Mem) :=
some ((((Int32.toUInt32 ((mset μ a0 4 ((1103515245 * (μ a0 4)) + 12345)) a0 4) >>> (Int32.toUInt32 16 &&& Int32.toUInt32 31)).toInt32) &&& 32767), (mset μ a0 4 ((1103515245 * (μ a0 4)) + 12345)))
def f_X2_gaitOf (μ : Mem) (a0 : Nat) (p1 : Int32) : Option Int32 :=
Option.bind (rd μ (a0 + 6) 12 (2 * p1)) fun t1 =>
Option.bind (rd μ (a0 + 6) 12 ((2 * p1) + 1)) fun t3 =>
some ((b2i (if t1 = 0 then (false : Bool) else true)) + (if t3 = 0 then (0 : Int32) else 2))
def f_J6_bitCount_0f7a4 (μ : Mem) (p0 : Int32) : Option Int32 :=
some ((((((((p0 - (((Int32.toUInt32 p0 >>> (Int32.toUInt32 1 &&& Int32.toUInt32 31)).toInt32) &&& 1431655765)) &&& 858993459) + (((Int32.toUInt32 (p0 - (((Int32.toUInt32 p0 >>> (Int32.toUInt32 1 &&& Int32.toUInt32 31)).toInt32) &&& 1431655765)) >>> (Int32.toUInt32 2 &&& Int32.toUInt32 31)).toInt32) &&& 858993459)) + ((Int32.toUInt32 (((p0 - (((Int32.toUInt32 p0 >>> (Int32.toUInt32 1 &&& Int32.toUInt32 31)).toInt32) &&& 1431655765)) &&& 858993459) + (((Int32.toUInt32 (p0 - (((Int32.toUInt32 p0 >>> (Int32.toUInt32 1 &&& Int32.toUInt32 31)).toInt32) &&& 1431655765)) >>> (Int32.toUInt32 2 &&& Int32.toUInt32 31)).toInt32) &&& 858993459)) >>> (Int32.toUInt32 4 &&& Int32.toUInt32 31)).toInt32)) &&& 252645135) + ((Int32.toUInt32 (((((p0 - (((Int32.toUInt32 p0 >>> (Int32.toUInt32 1 &&& Int32.toUInt32 31)).toInt32) &&& 1431655765)) &&& 858993459) + (((Int32.toUInt32 (p0 - (((Int32.toUInt32 p0 >>> (Int32.toUInt32 1 &&& Int32.toUInt32 31)).toInt32) &&& 1431655765)) >>> (Int32.toUInt32 2 &&& Int32.toUInt32 31)).toInt32) &&& 858993459)) + ((Int32.toUInt32 (((p0 - (((Int32.toUInt32 p0 >>> (Int32.toUInt32 1 &&& Int32.toUInt32 31)).toInt32) &&& 1431655765)) &&& 858993459) + (((Int32.toUInt32 (p0 - (((Int32.toUInt32 p0 >>> (Int32.toUInt32 1 &&& Int32.toUInt32 31)).toInt32) &&& 1431655765)) >>> (Int32.toUInt32 2 &&& Int32.toUInt32 31)).toInt32) &&& 858993459)) >>> (Int32.toUInt32 4 &&& Int32.toUInt32 31)).toInt32)) &&& 252645135) >>> (Int32.toUInt32 8 &&& Int32.toUInt32 31)).toInt32)) + ((Int32.toUInt32 ((((((p0 - (((Int32.toUInt32 p0 >>> (Int32.toUInt32 1 &&& Int32.toUInt32 31)).toInt32) &&& 1431655765)) &&& 858993459) + (((Int32.toUInt32 (p0 - (((Int32.toUInt32 p0 >>> (Int32.toUInt32 1 &&& Int32.toUInt32 31)).toInt32) &&& 1431655765)) >>> (Int32.toUInt32 2 &&& Int32.toUInt32 31)).toInt32) &&& 858993459)) + ((Int32.toUInt32 (((p0 - (((Int32.toUInt32 p0 >>> (Int32.toUInt32 1 &&& Int32.toUInt32 31)).toInt32) &&& 1431655765)) &&& 858993459) + (((Int32.toUInt32 (p0 - (((Int32.toUInt32 p0 >>> (Int32.toUInt32 1 &&& Int32.toUInt32 31)).toInt32) &&& 1431655765)) >>> (Int32.toUInt32 2 &&& Int32.toUInt32 31)).toInt32) &&& 858993459)) >>> (Int32.toUInt32 4 &&& Int32.toUInt32 31)).toInt32)) &&& 252645135) + ((Int32.toUInt32 (((((p0 - (((Int32.toUInt32 p0 >>> (Int32.toUInt32 1 &&& Int32.toUInt32 31)).toInt32) &&& 1431655765)) &&& 858993459) + (((Int32.toUInt32 (p0 - (((Int32.toUInt32 p0 >>> (Int32.toUInt32 1 &&& Int32.toUInt32 31)).toInt32) &&& 1431655765)) >>> (Int32.toUInt32 2 &&& Int32.toUInt32 31)).toInt32) &&& 858993459)) + ((Int32.toUInt32 (((p0 - (((Int32.toUInt32 p0 >>> (Int32.toUInt32 1 &&& Int32.toUInt32 31)).toInt32) &&& 1431655765)) &&& 858993459) + (((Int32.toUInt32 (p0 - (((Int32.toUInt32 p0 >>> (Int32.toUInt32 1 &&& Int32.toUInt32 31)).toInt32) &&& 1431655765)) >>> (Int32.toUInt32 2 &&& Int32.toUInt32 31)).toInt32) &&& 858993459)) >>> (Int32.toUInt32 4 &&& Int32.toUInt32 31)).toInt32)) &&& 252645135) >>> (Int32.toUInt32 8 &&& Int32.toUInt32 31)).toInt32)) >>> (Int32.toUInt32 16 &&& Int32.toUInt32 31)).toInt32)) &&& 63)
def f_X2_heldBy_b4 (μ : Mem) (a0 : Nat) (l1 : Int32) (l2 : Int32) (l3 : Int32) : Option ((Int32 × Int32) ⊕ Int32) :=
if (2 * (μ a0 0)) ≤ l3 then
some (.inr l2)
else
Option.bind (rd μ (a0 + 7) 12 l3) fun t1 =>
some (.inl ((if t1 = l1 then ((l2 ||| (1 <<< (l3 &&& 31))) : Int32) else l2), (l3 + 1)))
def f_X2_heldBy_j36 (μ : Mem) (a0 : Nat) (l2 : Int32) : Option Int32 :=
some l2
def f_X2_heldBy_l4 (μ : Mem) (a0 : Nat) (l1 : Int32) (l2 : Int32) (l3 : Int32) : Option Int32 := Option.bind (loopN 10000 (fun z : (Int32 × Int32) => f_X2_heldBy_b4 μ a0 l1 z.1 z.2) (l2, l3)) fun t : Int32 => f_X2_heldBy_j36 μ a0 t
def f_X2_heldBy (μ : Mem) (a0 : Nat) (p1 : Int32) : Option Int32 :=
f_X2_heldBy_l4 μ a0 p1 0 0
def f_X4_ask (μ : Mem) (a0 : Nat) (a1 : Nat) (p2 : Int32) : Option Mem :=
Option.bind (f_X2_gaitOf μ a1 p2) fun t1 =>
Option.bind (f_J6_bitCount_0f7a4 μ t1) fun t2 =>
Option.bind (wr μ (a0 + 6) 9 0 p2) fun μ3 =>
Option.bind (wr μ3 (a0 + 6) 9 1 t2) fun μ4 =>
Option.bind (f_X2_heldBy μ4 a1 p2) fun t5 =>
Option.bind (f_J6_bitCount_0f7a4 μ4 t5) fun t6 =>
Option.bind (wr μ4 (a0 + 6) 9 2 t6) fun μ7 =>
Option.bind (rd μ7 (a1 + 3) 6 p2) fun t8 =>
Option.bind (wr μ7 (a0 + 6) 9 3 t8) fun μ9 =>
Option.bind (rd μ9 (a1 + 3) 6 p2) fun t10 =>
Option.bind (rd μ9 (a1 + 12) 20 t10) fun t11 =>
Option.bind (wr μ9 (a0 + 6) 9 4 t11) fun μ12 =>
Option.bind (rd μ12 (a1 + 5) 6 p2) fun t13 =>
Option.bind (wr μ12 (a0 + 6) 9 5 t13) fun μ14 =>
Option.bind (wr μ14 (a0 + 6) 9 6 (μ14 a1 2)) fun μ15 =>
Option.bind (wr μ15 (a0 + 6) 9 7 (b2i (if t2 = 1 then (false : Bool) else true))) fun μ17 =>
Option.bind (rd μ17 (a1 + 3) 6 p2) fun t18 =>
Option.bind (rd μ17 (a1 + 4) 6 p2) fun t19 =>
Option.bind (wr μ17 (a0 + 6) 9 8 (b2i (if t18 = t19 then (true : Bool) else false))) fun μ21 =>
some μ21
def f_X4_joined (μ : Mem) (p0 : Int32) (p1 : Int32) (p2 : Int32) : Option Int32 :=
if p0 = 1010 then
some (p1 + p2)
else
if p0 = 1011 then
some (b2i (if p2 ≤ p1 then (false : Bool) else true))
else
if p0 = 1012 then
some (b2i (if p1 ≤ p2 then (false : Bool) else true))
else
if p0 = 1013 then
some (p1 &&& p2)
else
some (p1 ||| p2)
def f_X4_holds_j148_9 (μ : Mem) (a0 : Nat) (l1 : Int32) (l2 : Int32) (l3 : Int32) : Option ((Int32 × Int32 × Mem) ⊕ (Int32 × Mem)) :=
some (.inl (l2, (l3 + 1), μ))
def f_X4_holds_j73_9 (μ : Mem) (a0 : Nat) (l1 : Int32) (l2 : Int32) (l3 : Int32) (k1 : Int32) (k2 : Int32) : Option ((Int32 × Int32 × Mem) ⊕ (Int32 × Mem)) :=
Option.bind (wr μ (a0 + 7) 24 k1 k2) fun μ1 =>
f_X4_holds_j148_9 μ1 a0 l1 (l2 + 1) l3
def f_X4_holds_b9 (μ : Mem) (a0 : Nat) (l1 : Int32) (l2 : Int32) (l3 : Int32) : Option ((Int32 × Int32 × Mem) ⊕ (Int32 × Mem)) :=
Option.bind (rd μ (a0 + 4) 12 l1) fun t1 =>
if t1 ≤ l3 then
some (.inr (l2, μ))
else
Option.bind (rd μ (a0 + 5) 400 l3) fun t2 =>
if 1009 ≤ t2 then
if t2 = 1009 then
if l2 ≤ 0 then
f_X4_holds_j148_9 μ a0 l1 l2 l3
else
Option.bind (rd μ (a0 + 7) 24 (l2 - 1)) fun t7 =>
Option.bind (wr μ (a0 + 7) 24 (l2 - 1) (1 - t7)) fun μ8 =>
f_X4_holds_j148_9 μ8 a0 l1 l2 l3
else
if l2 ≤ 1 then
f_X4_holds_j148_9 μ a0 l1 l2 l3
else
Option.bind (rd μ (a0 + 7) 24 ((l2 + (-1)) - 1)) fun t3 =>
Option.bind (rd μ (a0 + 7) 24 (l2 + (-1))) fun t4 =>
Option.bind (f_X4_joined μ t2 t3 t4) fun t5 =>
Option.bind (wr μ (a0 + 7) 24 ((l2 + (-1)) - 1) t5) fun μ6 =>
f_X4_holds_j148_9 μ6 a0 l1 (l2 + (-1)) l3
else
if 24 ≤ l2 then
f_X4_holds_j148_9 μ a0 l1 l2 l3
else
if 1000 ≤ t2 then
Option.bind (rd μ (a0 + 6) 9 (t2 - 1000)) fun t9 =>
f_X4_holds_j73_9 μ a0 l1 l2 l3 l2 t9
else
f_X4_holds_j73_9 μ a0 l1 l2 l3 l2 t2
def f_X4_holds_j172 (μ : Mem) (a0 : Nat) (k0 : Bool) : Option (Bool × Mem) :=
some (k0, μ)
def f_X4_holds_j167 (μ : Mem) (a0 : Nat) : Option (Bool × Mem) :=
f_X4_holds_j172 μ a0 true
def f_X4_holds_j154 (μ : Mem) (a0 : Nat) (l2 : Int32) : Option (Bool × Mem) :=
if l2 = 0 then
f_X4_holds_j167 μ a0
else
Option.bind (rd μ (a0 + 7) 24 0) fun t1 =>
some ((if t1 = 0 then (false : Bool) else true), μ)
def f_X4_holds_l9 (μ : Mem) (a0 : Nat) (l1 : Int32) (l2 : Int32) (l3 : Int32) : Option (Bool × Mem) := Option.bind (loopN 10000 (fun z : (Int32 × Int32 × Mem) => f_X4_holds_b9 z.2.2 a0 l1 z.1 z.2.1) (l2, l3, μ)) fun t : (Int32 × Mem) => f_X4_holds_j154 t.2 a0 t.1
def f_X4_holds (μ : Mem) (a0 : Nat) (p1 : Int32) : Option (Bool × Mem) :=
Option.bind (rd μ (a0 + 3) 12 p1) fun t1 =>
f_X4_holds_l9 μ a0 p1 0 t1
def f_X4_sumOf_j64_9 (μ : Mem) (a0 : Nat) (a2 : Nat) (l1 : Int32) (l3 : Int32) (l4 : Int32) (l5 : Bool) (l6 : Int32) : Option ((Int32 × Bool × Int32 × Mem) ⊕ (Int32 × Mem)) :=
some (.inl (l4, l5, (l6 + 1), μ))
def f_X4_sumOf_j43_9 (μ : Mem) (a0 : Nat) (a2 : Nat) (l1 : Int32) (l3 : Int32) (l4 : Int32) (l5 : Bool) (l6 : Int32) : Option ((Int32 × Bool × Int32 × Mem) ⊕ (Int32 × Mem)) :=
Option.bind (f_X4_holds μ a0 l6) fun q1 =>
if q1.1 = true then
Option.bind (rd q1.2 (a0 + 2) 12 l6) fun t2 =>
f_X4_sumOf_j64_9 q1.2 a0 a2 l1 l3 (l4 + t2) l5 l6
else
f_X4_sumOf_j64_9 q1.2 a0 a2 l1 l3 l4 l5 l6
def f_X4_sumOf_b9 (μ : Mem) (a0 : Nat) (a2 : Nat) (l1 : Int32) (l3 : Int32) (l4 : Int32) (l5 : Bool) (l6 : Int32) : Option ((Int32 × Bool × Int32 × Mem) ⊕ (Int32 × Mem)) :=
if (μ a0 1) ≤ l6 then
some (.inr (l4, μ))
else
Option.bind (rd μ (a0 + 1) 12 l6) fun t1 =>
if t1 = l1 then
if l5 = true then
f_X4_sumOf_j43_9 μ a0 a2 l1 l3 l4 l5 l6
else
Option.bind (f_X4_ask μ a0 a2 l3) fun q2 =>
f_X4_sumOf_j43_9 q2 a0 a2 l1 l3 l4 true l6
else
f_X4_sumOf_j64_9 μ a0 a2 l1 l3 l4 l5 l6
def f_X4_sumOf_j70 (μ : Mem) (a0 : Nat) (a2 : Nat) (l4 : Int32) : Option (Int32 × Mem) :=
some (l4, μ)
def f_X4_sumOf_l9 (μ : Mem) (a0 : Nat) (a2 : Nat) (l1 : Int32) (l3 : Int32) (l4 : Int32) (l5 : Bool) (l6 : Int32) : Option (Int32 × Mem) := Option.bind (loopN 10000 (fun z : (Int32 × Bool × Int32 × Mem) => f_X4_sumOf_b9 z.2.2.2 a0 a2 l1 l3 z.1 z.2.1 z.2.2.1) (l4, l5, l6, μ)) fun t : (Int32 × Mem) => f_X4_sumOf_j70 t.2 a0 a2 t.1
def f_X4_sumOf (μ : Mem) (a0 : Nat) (p1 : Int32) (a2 : Nat) (p3 : Int32) : Option (Int32 × Mem) :=
f_X4_sumOf_l9 μ a0 a2 p1 p3 0 false 0
def f_X2_slackOf (μ : Mem) (a0 : Nat) (p1 : Int32) : Option Int32 :=
Option.bind (f_X2_gaitOf μ a0 p1) fun t1 =>
Option.bind (f_J6_bitCount_0f7a4 μ t1) fun t2 =>
some t2
def f_X2_fallOf_j30 (μ : Mem) (a0 : Nat) (a2 : Nat) (k0 : Int32) : Option (Int32 × Mem) :=
some (k0, μ)
def f_X2_fallOf (μ : Mem) (a0 : Nat) (p1 : Int32) (a2 : Nat) : Option (Int32 × Mem) :=
if (i2b (μ a2 0)) = true then
Option.bind (f_X4_sumOf μ a2 2 a0 p1) fun q2 =>
Option.bind (f_J9_min_7cf53 q2.2 100 q2.1) fun t3 =>
f_X2_fallOf_j30 q2.2 a0 a2 t3
else
Option.bind (f_X2_slackOf μ a0 p1) fun t1 =>
f_X2_fallOf_j30 μ a0 a2 (10 * t1)
def f_J9_max_7cf53 (μ : Mem) (p0 : Int32) (p1 : Int32) : Option Int32 :=
some (if p0 < p1 then (p1 : Int32) else p0)
def f_X2_fall (μ : Mem) (a0 : Nat) (p1 : Int32) : Option Mem :=
Option.bind (rd μ (a0 + 1) 6 p1) fun t1 =>
Option.bind (f_J9_max_7cf53 μ 0 (t1 - (μ a0 3))) fun t2 =>
Option.bind (wr μ (a0 + 1) 6 p1 t2) fun μ3 =>
Option.bind (rd μ3 (a0 + 5) 6 p1) fun t4 =>
Option.bind (f_J9_min_7cf53 μ3 9 (t4 + 1)) fun t5 =>
Option.bind (wr μ3 (a0 + 5) 6 p1 t5) fun μ6 =>
some μ6
def f_X2_walkOf_j24 (μ : Mem) (a0 : Nat) (a2 : Nat) (l1 : Int32) (k0 : Int32) : Option (Int32 × Mem) :=
Option.bind (rd μ (a0 + 2) 6 l1) fun t1 =>
Option.bind (f_J9_max_7cf53 μ 0 (t1 - k0)) fun t2 =>
some (t2, μ)
def f_X2_walkOf (μ : Mem) (a0 : Nat) (p1 : Int32) (a2 : Nat) : Option (Int32 × Mem) :=
if (i2b (μ a2 0)) = true then
Option.bind (f_X4_sumOf μ a2 0 a0 p1) fun q2 =>
f_X2_walkOf_j24 q2.2 a0 a2 p1 q2.1
else
Option.bind (f_X2_slackOf μ a0 p1) fun t1 =>
f_X2_walkOf_j24 μ a0 a2 p1 (2 * t1)
def f_X2_walk_j64 (μ : Mem) (a0 : Nat) : Option Mem :=
some μ
def f_X2_walk (μ : Mem) (a0 : Nat) (p1 : Int32) (p2 : Int32) : Option Mem :=
Option.bind (rd μ (a0 + 3) 6 p1) fun t1 =>
Option.bind (rd μ (a0 + 4) 6 p1) fun t2 =>
if t2 ≤ t1 then
Option.bind (rd μ (a0 + 4) 6 p1) fun t3 =>
Option.bind (rd μ (a0 + 3) 6 p1) fun t4 =>
Option.bind (f_J9_max_7cf53 μ t3 (t4 - p2)) fun t5 =>
Option.bind (wr μ (a0 + 3) 6 p1 t5) fun μ6 =>
f_X2_walk_j64 μ6 a0
else
Option.bind (rd μ (a0 + 4) 6 p1) fun t7 =>
Option.bind (rd μ (a0 + 3) 6 p1) fun t8 =>
Option.bind (f_J9_min_7cf53 μ t7 (t8 + p2)) fun t9 =>
Option.bind (wr μ (a0 + 3) 6 p1 t9) fun μ10 =>
f_X2_walk_j64 μ10 a0
def f_X2_walkAll_j77_5 (μ : Mem) (a0 : Nat) (a1 : Nat) (l2 : Bool) (l3 : Int32) (l4 : Int32) : Option ((Int32 × Int32 × Mem) ⊕ (Int32 × Mem)) :=
some (.inl (l3, (l4 + 1), μ))
def f_X2_walkAll_j64_5 (μ : Mem) (a0 : Nat) (a1 : Nat) (l2 : Bool) (l3 : Int32) (l4 : Int32) : Option ((Int32 × Int32 × Mem) ⊕ (Int32 × Mem)) :=
Option.bind (f_X2_walkOf μ a0 l4 a1) fun q1 =>
Option.bind (f_X2_walk q1.2 a0 l4 q1.1) fun q2 =>
f_X2_walkAll_j77_5 q2 a0 a1 l2 l3 l4
def f_X2_walkAll_b5 (μ : Mem) (a0 : Nat) (a1 : Nat) (l2 : Bool) (l3 : Int32) (l4 : Int32) : Option ((Int32 × Int32 × Mem) ⊕ (Int32 × Mem)) :=
if (μ a0 0) ≤ l4 then
some (.inr (l3, μ))
else
Option.bind (rd μ (a0 + 3) 6 l4) fun t1 =>
Option.bind (rd μ (a0 + 4) 6 l4) fun t2 =>
if t1 = t2 then
f_X2_walkAll_j77_5 μ a0 a1 l2 l3 l4
else
if l2 = true then
Option.bind (f_X2_draw μ a0) fun q3 =>
Option.bind (rm9 q3.1 100) fun t4 =>
Option.bind (f_X2_fallOf q3.2 a0 l4 a1) fun q5 =>
if q5.1 ≤ t4 then
f_X2_walkAll_j64_5 q5.2 a0 a1 l2 l3 l4
else
Option.bind (f_X2_fall q5.2 a0 l4) fun q6 =>
f_X2_walkAll_j77_5 q6 a0 a1 l2 (l3 + 1) l4
else
f_X2_walkAll_j64_5 μ a0 a1 l2 l3 l4
def f_X2_walkAll_j83 (μ : Mem) (a0 : Nat) (a1 : Nat) (l3 : Int32) : Option (Int32 × Mem) :=
some (l3, μ)
def f_X2_walkAll_l5 (μ : Mem) (a0 : Nat) (a1 : Nat) (l2 : Bool) (l3 : Int32) (l4 : Int32) : Option (Int32 × Mem) := Option.bind (loopN 10000 (fun z : (Int32 × Int32 × Mem) => f_X2_walkAll_b5 z.2.2 a0 a1 l2 z.1 z.2.1) (l3, l4, μ)) fun t : (Int32 × Mem) => f_X2_walkAll_j83 t.2 a0 a1 t.1
def f_X2_walkAll (μ : Mem) (a0 : Nat) (a1 : Nat) (p2 : Bool) : Option (Int32 × Mem) :=
f_X2_walkAll_l5 μ a0 a1 p2 0 0
def f_X2_isPledged (μ : Mem) (a0 : Nat) (p1 : Int32) : Option Bool :=
Option.bind (rd μ (a0 + 6) 12 p1) fun t1 =>
some (if t1 = 1 then (true : Bool) else false)
def f_X11_ownerOf (μ : Mem) (p0 : Int32) : Option Int32 :=
some (p0 >>> (1 &&& 31))
def f_X2_growthOf (μ : Mem) (a0 : Nat) (p1 : Int32) (a2 : Nat) : Option (Int32 × Mem) :=
Option.bind (rd μ (a0 + 9) 12 p1) fun t1 =>
Option.bind (f_X11_ownerOf μ p1) fun t2 =>
Option.bind (f_X4_sumOf μ a2 1 a0 t2) fun q3 =>
some ((t1 + q3.1), q3.2)
def f_X2_settle_j96 (μ : Mem) (a0 : Nat) : Option Mem :=
some μ
def f_X2_settle_j65 (μ : Mem) (a0 : Nat) (l1 : Int32) : Option Mem :=
Option.bind (rd μ (a0 + 8) 12 l1) fun t1 =>
Option.bind (f_X1_add μ (a0 + 13) (μ a0 2) l1 2 t1) fun q2 =>
Option.bind (rd q2 (a0 + 7) 12 l1) fun t3 =>
Option.bind (f_X2_letGo q2 a0 l1 2 t3) fun q4 =>
f_X2_settle_j96 q4 a0
def f_X2_settle (μ : Mem) (a0 : Nat) (p1 : Int32) : Option Mem :=
Option.bind (f_X11_ownerOf μ p1) fun t1 =>
Option.bind (rd μ (a0 + 11) 12 p1) fun t2 =>
Option.bind (rd μ (a0 + 1) 6 t1) fun t3 =>
Option.bind (rd μ (a0 + 8) 12 p1) fun t4 =>
if t3 < t4 then
if t2 = (-1) then
f_X2_settle_j65 μ a0 p1
else
Option.bind (rd μ (a0 + 1) 6 t2) fun t5 =>
Option.bind (rd μ (a0 + 8) 12 p1) fun t6 =>
if t5 < t6 then
f_X2_settle_j65 μ a0 p1
else
Option.bind (f_X2_payOff μ a0 p1 t2) fun q7 =>
f_X2_settle_j96 q7 a0
else
Option.bind (f_X2_payOff μ a0 p1 t1) fun q8 =>
f_X2_settle_j96 q8 a0
def f_X2_liveOn_j74_26 (μ : Mem) (a0 : Nat) (a2 : Nat) (l1 : Int32) (l3 : Bool) (l4 : Int32) (l5 : Int32) (l6 : Int32) : Option ((Int32 × Mem) ⊕ Mem) :=
some (.inl ((l6 + 1), μ))
def f_X2_liveOn_b26 (μ : Mem) (a0 : Nat) (a2 : Nat) (l1 : Int32) (l3 : Bool) (l4 : Int32) (l5 : Int32) (l6 : Int32) : Option ((Int32 × Mem) ⊕ Mem) :=
if (2 * (μ a0 0)) ≤ l6 then
some (.inr μ)
else
Option.bind (f_X2_isPledged μ a0 l6) fun t1 =>
if t1 = true then
Option.bind (rd μ (a0 + 8) 12 l6) fun t2 =>
Option.bind (f_X2_growthOf μ a0 l6 a2) fun q3 =>
Option.bind (f_J9_min_7cf53 q3.2 999 (t2 + q3.1)) fun t4 =>
Option.bind (wr q3.2 (a0 + 8) 12 l6 t4) fun μ5 =>
f_X2_liveOn_j74_26 μ5 a0 a2 l1 l3 l4 l5 l6
else
f_X2_liveOn_j74_26 μ a0 a2 l1 l3 l4 l5 l6
def f_X2_liveOn_j123_83 (μ : Mem) (a0 : Nat) (a2 : Nat) (l1 : Int32) (l3 : Bool) (l4 : Int32) (l5 : Int32) (l6 : Int32) : Option ((Int32 × Mem) ⊕ Mem) :=
some (.inl ((l6 + 1), μ))
def f_X2_liveOn_b83 (μ : Mem) (a0 : Nat) (a2 : Nat) (l1 : Int32) (l3 : Bool) (l4 : Int32) (l5 : Int32) (l6 : Int32) : Option ((Int32 × Mem) ⊕ Mem) :=
if (2 * (μ a0 0)) ≤ l6 then
some (.inr μ)
else
Option.bind (f_X2_isPledged μ a0 l6) fun t1 =>
if t1 = true then
Option.bind (rd μ (a0 + 10) 12 l6) fun t2 =>
if (μ a0 2) < t2 then
f_X2_liveOn_j123_83 μ a0 a2 l1 l3 l4 l5 l6
else
Option.bind (f_X2_settle μ a0 l6) fun q3 =>
f_X2_liveOn_j123_83 q3 a0 a2 l1 l3 l4 l5 l6
else
f_X2_liveOn_j123_83 μ a0 a2 l1 l3 l4 l5 l6
def f_X2_liveOn_j129_6 (μ : Mem) (a0 : Nat) (a2 : Nat) (l1 : Int32) (l3 : Bool) (l4 : Int32) (l5 : Int32) : Option ((Int32 × Int32 × Mem) ⊕ (Int32 × Mem)) :=
Option.bind (f_J9_min_7cf53 μ 9999 ((μ a0 2) + 1)) fun t1 =>
some (.inl (l4, (l5 + 1), (mset μ a0 2 t1)))
def f_X2_liveOn_l83 (μ : Mem) (a0 : Nat) (a2 : Nat) (l1 : Int32) (l3 : Bool) (l4 : Int32) (l5 : Int32) (l6 : Int32) : Option ((Int32 × Int32 × Mem) ⊕ (Int32 × Mem)) := Option.bind (loopN 10000 (fun z : (Int32 × Mem) => f_X2_liveOn_b83 z.2 a0 a2 l1 l3 l4 l5 z.1) (l6, μ)) fun t : Mem => f_X2_liveOn_j129_6 t a0 a2 l1 l3 l4 l5
def f_X2_liveOn_j80_6 (μ : Mem) (a0 : Nat) (a2 : Nat) (l1 : Int32) (l3 : Bool) (l4 : Int32) (l5 : Int32) : Option ((Int32 × Int32 × Mem) ⊕ (Int32 × Mem)) :=
f_X2_liveOn_l83 μ a0 a2 l1 l3 l4 l5 0
def f_X2_liveOn_l26 (μ : Mem) (a0 : Nat) (a2 : Nat) (l1 : Int32) (l3 : Bool) (l4 : Int32) (l5 : Int32) (l6 : Int32) : Option ((Int32 × Int32 × Mem) ⊕ (Int32 × Mem)) := Option.bind (loopN 10000 (fun z : (Int32 × Mem) => f_X2_liveOn_b26 z.2 a0 a2 l1 l3 l4 l5 z.1) (l6, μ)) fun t : Mem => f_X2_liveOn_j80_6 t a0 a2 l1 l3 l4 l5
def f_X2_liveOn_b6 (μ : Mem) (a0 : Nat) (a2 : Nat) (l1 : Int32) (l3 : Bool) (l4 : Int32) (l5 : Int32) : Option ((Int32 × Int32 × Mem) ⊕ (Int32 × Mem)) :=
if l1 ≤ l5 then
some (.inr (l4, μ))
else
Option.bind (f_X2_walkAll μ a0 a2 l3) fun q1 =>
f_X2_liveOn_l26 q1.2 a0 a2 l1 l3 (l4 + q1.1) l5 0
def f_X2_liveOn_j151 (μ : Mem) (a0 : Nat) (a2 : Nat) (l4 : Int32) : Option (Int32 × Mem) :=
some (l4, (mset μ a0 5 ((μ a0 5) + l4)))
def f_X2_liveOn_l6 (μ : Mem) (a0 : Nat) (a2 : Nat) (l1 : Int32) (l3 : Bool) (l4 : Int32) (l5 : Int32) : Option (Int32 × Mem) := Option.bind (loopN 10000 (fun z : (Int32 × Int32 × Mem) => f_X2_liveOn_b6 z.2.2 a0 a2 l1 l3 z.1 z.2.1) (l4, l5, μ)) fun t : (Int32 × Mem) => f_X2_liveOn_j151 t.2 a0 a2 t.1
def f_X2_liveOn (μ : Mem) (a0 : Nat) (p1 : Int32) (a2 : Nat) (p3 : Bool) : Option (Int32 × Mem) :=
f_X2_liveOn_l6 μ a0 a2 p1 p3 0 0
def f_X2_lacesThatAre_b4 (μ : Mem) (a0 : Nat) (l1 : Int32) (l2 : Int32) (l3 : Int32) : Option ((Int32 × Int32) ⊕ Int32) :=
if (2 * (μ a0 0)) ≤ l3 then
some (.inr l2)
else
Option.bind (rd μ (a0 + 6) 12 l3) fun t1 =>
some (.inl ((if t1 = l1 then ((l2 ||| (1 <<< (l3 &&& 31))) : Int32) else l2), (l3 + 1)))
def f_X2_lacesThatAre_j36 (μ : Mem) (a0 : Nat) (l2 : Int32) : Option Int32 :=
some l2
def f_X2_lacesThatAre_l4 (μ : Mem) (a0 : Nat) (l1 : Int32) (l2 : Int32) (l3 : Int32) : Option Int32 := Option.bind (loopN 10000 (fun z : (Int32 × Int32) => f_X2_lacesThatAre_b4 μ a0 l1 z.1 z.2) (l2, l3)) fun t : Int32 => f_X2_lacesThatAre_j36 μ a0 t
def f_X2_lacesThatAre (μ : Mem) (a0 : Nat) (p1 : Int32) : Option Int32 :=
f_X2_lacesThatAre_l4 μ a0 p1 0 0
def f_X11_lacesOf (μ : Mem) (p0 : Int32) : Option Int32 :=
some (3 <<< ((2 * p0) &&& 31))
def f_X11_hasBit (μ : Mem) (p0 : Int32) (p1 : Int32) : Option Bool :=
some (if ((p0 >>> (p1 &&& 31)) &&& 1) = 0 then (false : Bool) else true)
def f_X2_amountOf_j31_4 (μ : Mem) (a0 : Nat) (l1 : Int32) (l2 : Int32) (l3 : Int32) : Option ((Int32 × Int32) ⊕ Int32) :=
some (.inl (l2, (l3 + 1)))
def f_X2_amountOf_b4 (μ : Mem) (a0 : Nat) (l1 : Int32) (l2 : Int32) (l3 : Int32) : Option ((Int32 × Int32) ⊕ Int32) :=
if (2 * (μ a0 0)) ≤ l3 then
some (.inr l2)
else
Option.bind (f_X11_hasBit μ l1 l3) fun t1 =>
if t1 = true then
Option.bind (rd μ (a0 + 8) 12 l3) fun t2 =>
f_X2_amountOf_j31_4 μ a0 l1 (l2 + t2) l3
else
f_X2_amountOf_j31_4 μ a0 l1 l2 l3
def f_X2_amountOf_j37 (μ : Mem) (a0 : Nat) (l2 : Int32) : Option Int32 :=
some l2
def f_X2_amountOf_l4 (μ : Mem) (a0 : Nat) (l1 : Int32) (l2 : Int32) (l3 : Int32) : Option Int32 := Option.bind (loopN 10000 (fun z : (Int32 × Int32) => f_X2_amountOf_b4 μ a0 l1 z.1 z.2) (l2, l3)) fun t : Int32 => f_X2_amountOf_j37 μ a0 t
def f_X2_amountOf (μ : Mem) (a0 : Nat) (p1 : Int32) : Option Int32 :=
f_X2_amountOf_l4 μ a0 p1 0 0
def f_X2_owedBy (μ : Mem) (a0 : Nat) (p1 : Int32) : Option Int32 :=
Option.bind (f_X11_lacesOf μ p1) fun t1 =>
Option.bind (f_X2_amountOf μ a0 t1) fun t2 =>
some t2
def f_X2_dueTo (μ : Mem) (a0 : Nat) (p1 : Int32) : Option Int32 :=
Option.bind (f_X2_heldBy μ a0 p1) fun t1 =>
Option.bind (f_X2_amountOf μ a0 t1) fun t2 =>
some t2
def f_X2_allPurses_b4 (μ : Mem) (a0 : Nat) (l1 : Int32) (l2 : Int32) : Option ((Int32 × Int32) ⊕ Int32) :=
if (μ a0 0) ≤ l2 then
some (.inr l1)
else
Option.bind (rd μ (a0 + 1) 6 l2) fun t1 =>
some (.inl ((l1 + t1), (l2 + 1)))
def f_X2_allPurses_j27 (μ : Mem) (a0 : Nat) (l1 : Int32) : Option Int32 :=
some l1
def f_X2_allPurses_l4 (μ : Mem) (a0 : Nat) (l1 : Int32) (l2 : Int32) : Option Int32 := Option.bind (loopN 10000 (fun z : (Int32 × Int32) => f_X2_allPurses_b4 μ a0 z.1 z.2) (l1, l2)) fun t : Int32 => f_X2_allPurses_j27 μ a0 t
def f_X2_allPurses (μ : Mem) (a0 : Nat) : Option Int32 :=
f_X2_allPurses_l4 μ a0 0 0
def f_X2_shareOf_j34 (μ : Mem) (a0 : Nat) (k0 : Int32) : Option Int32 :=
some k0
def f_X2_shareOf (μ : Mem) (a0 : Nat) (p1 : Int32) : Option Int32 :=
Option.bind (f_X2_lacesThatAre μ a0 2) fun t1 =>
Option.bind (f_J6_bitCount_0f7a4 μ t1) fun t2 =>
if t2 = 0 then
f_X2_shareOf_j34 μ a0 0
else
Option.bind (f_X2_heldBy μ a0 p1) fun t3 =>
Option.bind (f_J6_bitCount_0f7a4 μ (t1 &&& t3)) fun t4 =>
Option.bind (dv (100 * t4) t2) fun t5 =>
f_X2_shareOf_j34 μ a0 t5
def f_X2_hangingOn_b4 (μ : Mem) (a0 : Nat) (l1 : Int32) (l2 : Int32) (l3 : Int32) : Option ((Int32 × Int32) ⊕ Int32) :=
if (2 * (μ a0 0)) ≤ l3 then
some (.inr l2)
else
Option.bind (rd μ (a0 + 11) 12 l3) fun t1 =>
some (.inl ((if t1 = l1 then ((l2 ||| (1 <<< (l3 &&& 31))) : Int32) else l2), (l3 + 1)))
def f_X2_hangingOn_j36 (μ : Mem) (a0 : Nat) (l2 : Int32) : Option Int32 :=
some l2
def f_X2_hangingOn_l4 (μ : Mem) (a0 : Nat) (l1 : Int32) (l2 : Int32) (l3 : Int32) : Option Int32 := Option.bind (loopN 10000 (fun z : (Int32 × Int32) => f_X2_hangingOn_b4 μ a0 l1 z.1 z.2) (l2, l3)) fun t : Int32 => f_X2_hangingOn_j36 μ a0 t
def f_X2_hangingOn (μ : Mem) (a0 : Nat) (p1 : Int32) : Option Int32 :=
f_X2_hangingOn_l4 μ a0 p1 0 0
def f_X2_creditorOf_j20 (μ : Mem) (a0 : Nat) (k0 : Int32) : Option Int32 :=
some k0
def f_X2_creditorOf (μ : Mem) (a0 : Nat) (p1 : Int32) : Option Int32 :=
Option.bind (f_X2_isPledged μ a0 p1) fun t1 =>
if t1 = true then
Option.bind (rd μ (a0 + 7) 12 p1) fun t2 =>
f_X2_creditorOf_j20 μ a0 (1 <<< (t2 &&& 31))
else
f_X2_creditorOf_j20 μ a0 0
def f_X2_directCreditorsOf (μ : Mem) (a0 : Nat) (p1 : Int32) : Option Int32 :=
Option.bind (f_X2_creditorOf μ a0 (2 * p1)) fun t1 =>
Option.bind (f_X2_creditorOf μ a0 ((2 * p1) + 1)) fun t2 =>
some (t1 ||| t2)
def f_X2_creditorsOf_j46_19 (μ : Mem) (a0 : Nat) (l2 : Int32) (l3 : Int32) (l4 : Int32) : Option ((Int32 × Int32) ⊕ Int32) :=
some (.inl (l2, (l4 + 1)))
def f_X2_creditorsOf_b19 (μ : Mem) (a0 : Nat) (l2 : Int32) (l3 : Int32) (l4 : Int32) : Option ((Int32 × Int32) ⊕ Int32) :=
if (μ a0 0) ≤ l4 then
some (.inr l2)
else
Option.bind (f_X11_hasBit μ l2 l4) fun t1 =>
if t1 = true then
Option.bind (f_X2_directCreditorsOf μ a0 l4) fun t2 =>
f_X2_creditorsOf_j46_19 μ a0 (l2 ||| t2) l3 l4
else
f_X2_creditorsOf_j46_19 μ a0 l2 l3 l4
def f_X2_creditorsOf_j52_8 (μ : Mem) (a0 : Nat) (l2 : Int32) (l3 : Int32) : Option ((Int32 × Int32) ⊕ Int32) :=
some (.inl (l2, (l3 + 1)))
def f_X2_creditorsOf_l19 (μ : Mem) (a0 : Nat) (l2 : Int32) (l3 : Int32) (l4 : Int32) : Option ((Int32 × Int32) ⊕ Int32) := Option.bind (loopN 10000 (fun z : (Int32 × Int32) => f_X2_creditorsOf_b19 μ a0 z.1 l3 z.2) (l2, l4)) fun t : Int32 => f_X2_creditorsOf_j52_8 μ a0 t l3
def f_X2_creditorsOf_b8 (μ : Mem) (a0 : Nat) (l2 : Int32) (l3 : Int32) : Option ((Int32 × Int32) ⊕ Int32) :=
if (μ a0 0) ≤ l3 then
some (.inr l2)
else
f_X2_creditorsOf_l19 μ a0 l2 l3 0
def f_X2_creditorsOf_j58 (μ : Mem) (a0 : Nat) (l2 : Int32) : Option Int32 :=
some l2
def f_X2_creditorsOf_l8 (μ : Mem) (a0 : Nat) (l2 : Int32) (l3 : Int32) : Option Int32 := Option.bind (loopN 10000 (fun z : (Int32 × Int32) => f_X2_creditorsOf_b8 μ a0 z.1 z.2) (l2, l3)) fun t : Int32 => f_X2_creditorsOf_j58 μ a0 t
def f_X2_creditorsOf (μ : Mem) (a0 : Nat) (p1 : Int32) : Option Int32 :=
Option.bind (f_X2_directCreditorsOf μ a0 p1) fun t1 =>
f_X2_creditorsOf_l8 μ a0 t1 0
def f_X2_laceFor_j25 (μ : Mem) (a0 : Nat) (k0 : Int32) : Option Int32 :=
some k0
def f_X2_laceFor_j24 (μ : Mem) (a0 : Nat) : Option Int32 :=
f_X2_laceFor_j25 μ a0 0
def f_X2_laceFor (μ : Mem) (a0 : Nat) (p1 : Int32) (p2 : Int32) : Option Int32 :=
Option.bind (f_X2_isPledged μ a0 p1) fun t1 =>
if t1 = true then
Option.bind (rd μ (a0 + 7) 12 p1) fun t2 =>
some (if t2 = p2 then ((1 <<< (p1 &&& 31)) : Int32) else 0)
else
f_X2_laceFor_j24 μ a0
def f_X2_betterCall_j28 (μ : Mem) (a0 : Nat) (k0 : Int32) : Option Int32 :=
some k0
def f_X2_betterCall_j27 (μ : Mem) (a0 : Nat) (l1 : Int32) : Option Int32 :=
f_X2_betterCall_j28 μ a0 l1
def f_X2_betterCall (μ : Mem) (a0 : Nat) (p1 : Int32) (p2 : Int32) (p3 : Int32) : Option Int32 :=
Option.bind (f_X2_amountOf μ a0 p2) fun t1 =>
if p3 < t1 then
f_X2_betterCall_j27 μ a0 p1
else
Option.bind (f_X2_amountOf μ a0 p1) fun t2 =>
some (if t1 ≤ t2 then (p1 : Int32) else p2)
def f_X2_callable (μ : Mem) (a0 : Nat) (p1 : Int32) (p2 : Int32) : Option Int32 :=
Option.bind (f_X2_laceFor μ a0 (2 * p2) p1) fun t1 =>
Option.bind (f_X2_laceFor μ a0 ((2 * p2) + 1) p1) fun t2 =>
Option.bind (rd μ (a0 + 1) 6 p2) fun t3 =>
Option.bind (f_X2_betterCall μ a0 0 t1 t3) fun t4 =>
Option.bind (rd μ (a0 + 1) 6 p2) fun t5 =>
Option.bind (f_X2_betterCall μ a0 t4 t2 t5) fun t6 =>
Option.bind (rd μ (a0 + 1) 6 p2) fun t7 =>
Option.bind (f_X2_betterCall μ a0 t6 (t1 ||| t2) t7) fun t8 =>
some t8
def f_X2_partiesOf_j40 (μ : Mem) (a0 : Nat) (k0 : Int32) : Option Int32 :=
some k0
def f_X2_partiesOf (μ : Mem) (a0 : Nat) (p1 : Int32) : Option Int32 :=
Option.bind (f_X11_ownerOf μ p1) fun t1 =>
Option.bind (rd μ (a0 + 7) 12 p1) fun t2 =>
Option.bind (rd μ (a0 + 11) 12 p1) fun t3 =>
if t3 = (-1) then
f_X2_partiesOf_j40 μ a0 ((1 <<< (t1 &&& 31)) ||| (1 <<< (t2 &&& 31)))
else
Option.bind (rd μ (a0 + 11) 12 p1) fun t4 =>
f_X2_partiesOf_j40 μ a0 (((1 <<< (t1 &&& 31)) ||| (1 <<< (t2 &&& 31))) ||| (1 <<< (t4 &&& 31)))
def f_X2_isInEachPledge_j32_2 (μ : Mem) (a0 : Nat) (l1 : Int32) (l2 : Int32) : Option (Int32 ⊕ (Unit ⊕ Bool)) :=
some (.inl (l2 + 1))
def f_X2_isInEachPledge_b2 (μ : Mem) (a0 : Nat) (l1 : Int32) (l2 : Int32) : Option (Int32 ⊕ (Unit ⊕ Bool)) :=
if (2 * (μ a0 0)) ≤ l2 then
some (.inr (.inl ()))
else
Option.bind (f_X2_isPledged μ a0 l2) fun t1 =>
if t1 = true then
Option.bind (f_X2_partiesOf μ a0 l2) fun t2 =>
if (l1 &&& t2) = 0 then
some (.inr (.inr false))
else
f_X2_isInEachPledge_j32_2 μ a0 l1 l2
else
f_X2_isInEachPledge_j32_2 μ a0 l1 l2
def f_X2_isInEachPledge_j38 (μ : Mem) (a0 : Nat) : Option Bool :=
some true
def f_X2_isInEachPledge_l2 (μ : Mem) (a0 : Nat) (l1 : Int32) (l2 : Int32) : Option Bool := Option.bind (loopN 10000 (fun z : Int32 => f_X2_isInEachPledge_b2 μ a0 l1 z) l2) fun t : (Unit ⊕ Bool) => Sum.elim (fun e => f_X2_isInEachPledge_j38 μ a0) (fun x => some x) t
def f_X2_isInEachPledge (μ : Mem) (a0 : Nat) (p1 : Int32) : Option Bool :=
f_X2_isInEachPledge_l2 μ a0 p1 0
def f_X8_runOf_b5 (μ : Mem) (l1 : Int32) (l2 : Int32) (l3 : Int32) : Option (Int32 ⊕ Int32) :=
if (μ 1 2) ≤ l3 then
some (.inr l3)
else
Option.bind (rd μ 2 400 l3) fun t1 =>
if t1 < l1 then
some (.inr l3)
else
Option.bind (rd μ 2 400 l3) fun t2 =>
if l2 < t2 then
some (.inr l3)
else
some (.inl (l3 + 1))
def f_X8_runOf_j39 (μ : Mem) (l3 : Int32) : Option Int32 :=
some (l3 - (μ 1 3))
def f_X8_runOf_l5 (μ : Mem) (l1 : Int32) (l2 : Int32) (l3 : Int32) : Option Int32 := Option.bind (loopN 10000 (fun z : Int32 => f_X8_runOf_b5 μ l1 l2 z) l3) fun t : Int32 => f_X8_runOf_j39 μ t
def f_X8_runOf (μ : Mem) (p1 : Int32) (p2 : Int32) : Option Int32 :=
f_X8_runOf_l5 μ p1 p2 (μ 1 3)
def f_X8_moveTo_b5 (μ : Mem) : Option (Mem ⊕ Mem) :=
if (μ 1 2) ≤ (μ 1 3) then
some (.inr μ)
else
Option.bind (rd μ 2 400 (μ 1 3)) fun t1 =>
if t1 = 32 then
some (.inl (mset μ 1 3 ((μ 1 3) + 1)))
else
some (.inr μ)
def f_X8_moveTo_j43 (μ : Mem) : Option Mem :=
some μ
def f_X8_moveTo_l5 (μ : Mem) : Option Mem := Option.bind (loopN 10000 (fun z : Mem => f_X8_moveTo_b5 z) μ) fun t : Mem => f_X8_moveTo_j43 t
def f_X8_moveTo (μ : Mem) (p1 : Int32) : Option Mem :=
f_X8_moveTo_l5 (mset μ 1 3 p1)
def f_X8_takesWord_b29 (μ : Mem) (s1 : Nat) (l2 : Int32) (l3 : Int32) : Option (Int32 ⊕ (Unit ⊕ (Bool × Mem))) :=
if l2 ≤ l3 then
some (.inr (.inl ()))
else
Option.bind (rd μ 2 400 ((μ 1 3) + l3)) fun t1 =>
Option.bind (schar s1 l3) fun t2 =>
if t1 = t2 then
some (.inl (l3 + 1))
else
some (.inr (.inr (false, μ)))
def f_X8_takesWord_j61 (μ : Mem) (s1 : Nat) (l2 : Int32) : Option (Bool × Mem) :=
Option.bind (f_X8_moveTo μ ((μ 1 3) + l2)) fun q1 =>
some (true, q1)
def f_X8_takesWord_l29 (μ : Mem) (s1 : Nat) (l2 : Int32) (l3 : Int32) : Option (Bool × Mem) := Option.bind (loopN 10000 (fun z : Int32 => f_X8_takesWord_b29 μ s1 l2 z) l3) fun t : (Unit ⊕ (Bool × Mem)) => Sum.elim (fun e => f_X8_takesWord_j61 μ s1 l2) (fun x => some x) t
def f_X8_takesWord_j25 (μ : Mem) (s1 : Nat) : Option (Bool × Mem) :=
some (false, μ)
def f_X8_takesWord (μ : Mem) (s1 : Nat) : Option (Bool × Mem) :=
Option.bind (f_X8_runOf μ 97 122) fun t1 =>
if (μ 1 4) = (-1) then
if t1 = (slen s1) then
f_X8_takesWord_l29 μ s1 t1 0
else
f_X8_takesWord_j25 μ s1
else
f_X8_takesWord_j25 μ s1
def f_X8_refuse_j13 (μ : Mem) : Option Mem :=
some μ
def f_X8_refuse (μ : Mem) (p1 : Int32) : Option Mem :=
if (μ 1 4) = (-1) then
f_X8_refuse_j13 (mset μ 1 4 p1)
else
f_X8_refuse_j13 μ
def f_X11_isOutside (μ : Mem) (p0 : Int32) (p1 : Int32) (p2 : Int32) : Option Bool :=
some (if p0 < p1 then (true : Bool) else (if p0 ≤ p2 then (false : Bool) else true))
def f_X8_takeNumber_j19 (μ : Mem) (l1 : Int32) : Option (Int32 × Mem) :=
Option.bind (f_X8_refuse μ (μ 1 3)) fun q1 =>
some (l1, q1)
def f_X8_takeNumber_b35 (μ : Mem) (l1 : Int32) (l2 : Int32) (l3 : Int32) (l4 : Int32) (l5 : Int32) : Option ((Int32 × Int32) ⊕ Int32) :=
if l3 ≤ l5 then
some (.inr l4)
else
Option.bind (rd μ 2 400 ((μ 1 3) + l5)) fun t1 =>
some (.inl ((((10 * l4) + t1) - 48), (l5 + 1)))
def f_X8_takeNumber_j70 (μ : Mem) (l1 : Int32) (l2 : Int32) (l3 : Int32) (l4 : Int32) : Option (Int32 × Mem) :=
Option.bind (f_X11_isOutside μ l4 l1 l2) fun t1 =>
if t1 = true then
Option.bind (f_X8_refuse μ (μ 1 3)) fun q3 =>
some (l1, q3)
else
Option.bind (f_X8_moveTo μ ((μ 1 3) + l3)) fun q2 =>
some (l4, q2)
def f_X8_takeNumber_l35 (μ : Mem) (l1 : Int32) (l2 : Int32) (l3 : Int32) (l4 : Int32) (l5 : Int32) : Option (Int32 × Mem) := Option.bind (loopN 10000 (fun z : (Int32 × Int32) => f_X8_takeNumber_b35 μ l1 l2 l3 z.1 z.2) (l4, l5)) fun t : Int32 => f_X8_takeNumber_j70 μ l1 l2 l3 t
def f_X8_takeNumber (μ : Mem) (p1 : Int32) (p2 : Int32) : Option (Int32 × Mem) :=
Option.bind (f_X8_runOf μ 48 57) fun t1 =>
if t1 < 1 then
f_X8_takeNumber_j19 μ p1
else
if t1 ≤ 3 then
f_X8_takeNumber_l35 μ p1 p2 t1 0 0
else
f_X8_takeNumber_j19 μ p1
def f_X8_needWord_j16 (μ : Mem) (s1 : Nat) : Option Mem :=
some μ
def f_X8_needWord (μ : Mem) (s1 : Nat) : Option Mem :=
Option.bind (f_X8_takesWord μ s1) fun q1 =>
if q1.1 = true then
f_X8_needWord_j16 q1.2 s1
else
Option.bind (f_X8_refuse q1.2 (q1.2 1 3)) fun q2 =>
f_X8_needWord_j16 q2 s1
def f_X8_isRight (μ : Mem) : Option Bool :=
some (if (μ 1 4) = (-1) then (true : Bool) else false)
def f_X3_readPerson_j94 (μ : Mem) : Option Mem :=
some μ
def f_X3_readPerson_j20 (μ : Mem) : Option Mem :=
Option.bind (f_X8_takeNumber μ 0 999) fun q1 =>
Option.bind (f_X8_needWord q1.2 0) fun q2 =>
Option.bind (f_X8_takeNumber q2 1 9) fun q3 =>
Option.bind (f_X8_needWord q3.2 1) fun q4 =>
Option.bind (f_X8_takeNumber q4 0 19) fun q5 =>
Option.bind (f_X8_isRight q5.2) fun t6 =>
if t6 = true then
Option.bind (f_X2_addPerson q5.2 18 q1.1 q3.1 q5.1) fun q7 =>
f_X3_readPerson_j94 q7
else
f_X3_readPerson_j94 q5.2
def f_X3_readPerson (μ : Mem) (p1 : Int32) : Option Mem :=
if (μ 18 0) < 6 then
f_X3_readPerson_j20 μ
else
Option.bind (f_X8_refuse μ p1) fun q1 =>
f_X3_readPerson_j20 q1
def f_X3_takeLaceInShoe_j58 (μ : Mem) (l2 : Int32) : Option (Int32 × Mem) :=
some (l2, μ)
def f_X3_takeLaceInShoe (μ : Mem) : Option (Int32 × Mem) :=
Option.bind (f_X8_takeNumber μ 0 ((2 * (μ 18 0)) - 1)) fun q1 =>
Option.bind (f_X8_isRight q1.2) fun t2 =>
if t2 = true then
Option.bind (rd q1.2 24 12 q1.1) fun t3 =>
if t3 = 0 then
f_X3_takeLaceInShoe_j58 q1.2 q1.1
else
Option.bind (f_X8_refuse q1.2 (μ 1 3)) fun q4 =>
f_X3_takeLaceInShoe_j58 q4 q1.1
else
f_X3_takeLaceInShoe_j58 q1.2 q1.1
def f_X3_takeOther_j47 (μ : Mem) (l4 : Int32) : Option (Int32 × Mem) :=
some (l4, μ)
def f_X3_takeOther_j39 (μ : Mem) (l3 : Int32) (l4 : Int32) : Option (Int32 × Mem) :=
Option.bind (f_X8_refuse μ l3) fun q1 =>
f_X3_takeOther_j47 q1 l4
def f_X3_takeOther (μ : Mem) (p1 : Int32) (p2 : Int32) : Option (Int32 × Mem) :=
Option.bind (f_X8_takeNumber μ 0 ((μ 18 0) - 1)) fun q1 =>
if q1.1 = p1 then
f_X3_takeOther_j39 q1.2 (μ 1 3) q1.1
else
if q1.1 = p2 then
f_X3_takeOther_j39 q1.2 (μ 1 3) q1.1
else
f_X3_takeOther_j47 q1.2 q1.1
def f_X3_readPledge_j142 (μ : Mem) : Option Mem :=
some μ
def f_X3_readPledge_j113 (μ : Mem) (l1 : Int32) (l3 : Int32) (l4 : Int32) (l5 : Int32) (l6 : Int32) (k0 : Int32) : Option Mem :=
Option.bind (f_X8_isRight μ) fun t1 =>
if t1 = true then
Option.bind (f_X2_pledge μ 18 l1 l3 l4 l5 l6 k0) fun q2 =>
f_X3_readPledge_j142 q2
else
f_X3_readPledge_j142 μ
def f_X3_readPledge (μ : Mem) : Option Mem :=
Option.bind (f_X3_takeLaceInShoe μ) fun q1 =>
Option.bind (f_X11_ownerOf q1.2 q1.1) fun t2 =>
Option.bind (f_X8_needWord q1.2 2) fun q3 =>
Option.bind (f_X3_takeOther q3 t2 t2) fun q4 =>
Option.bind (f_X8_needWord q4.2 3) fun q5 =>
Option.bind (f_X8_takeNumber q5 1 999) fun q6 =>
Option.bind (f_X8_needWord q6.2 4) fun q7 =>
Option.bind (f_X8_takeNumber q7 0 9) fun q8 =>
Option.bind (f_X8_needWord q8.2 5) fun q9 =>
Option.bind (f_X8_takeNumber q9 1 999) fun q10 =>
Option.bind (f_X8_takesWord q10.2 6) fun q11 =>
if q11.1 = true then
Option.bind (f_X3_takeOther q11.2 t2 q4.1) fun q12 =>
f_X3_readPledge_j113 q12.2 q1.1 q4.1 q6.1 q8.1 q10.1 q12.1
else
f_X3_readPledge_j113 q11.2 q1.1 q4.1 q6.1 q8.1 q10.1 (-1)
def f_X3_readMud_j42 (μ : Mem) : Option Mem :=
some μ
def f_X3_readMud (μ : Mem) : Option Mem :=
Option.bind (f_X8_takeNumber μ 0 19) fun q1 =>
Option.bind (f_X8_takeNumber q1.2 0 9) fun q2 =>
Option.bind (f_X8_isRight q2.2) fun t3 =>
if t3 = true then
Option.bind (wr q2.2 30 20 q1.1 q2.1) fun μ4 =>
f_X3_readMud_j42 μ4
else
f_X3_readMud_j42 q2.2
def f_X3_readGoal_j49 (μ : Mem) : Option Mem :=
some μ
def f_X3_readGoal (μ : Mem) : Option Mem :=
Option.bind (f_X8_takeNumber μ 0 ((μ 18 0) - 1)) fun q1 =>
Option.bind (f_X8_takeNumber q1.2 0 19) fun q2 =>
Option.bind (f_X8_isRight q2.2) fun t3 =>
if t3 = true then
Option.bind (wr q2.2 22 6 q1.1 q2.1) fun μ4 =>
f_X3_readGoal_j49 μ4
else
f_X3_readGoal_j49 q2.2
def f_X3_readLine_j158 (μ : Mem) : Option Mem :=
some μ
def f_X3_readLine (μ : Mem) : Option Mem :=
Option.bind (f_X8_takesWord μ 7) fun q1 =>
if q1.1 = true then
Option.bind (f_X3_readPerson q1.2 (μ 1 3)) fun q13 =>
f_X3_readLine_j158 q13
else
Option.bind (f_X8_takesWord q1.2 8) fun q2 =>
if q2.1 = true then
Option.bind (f_X3_readPledge q2.2) fun q12 =>
f_X3_readLine_j158 q12
else
Option.bind (f_X8_takesWord q2.2 9) fun q3 =>
if q3.1 = true then
Option.bind (f_X3_readMud q3.2) fun q11 =>
f_X3_readLine_j158 q11
else
Option.bind (f_X8_takesWord q3.2 10) fun q4 =>
if q4.1 = true then
Option.bind (f_X3_readGoal q4.2) fun q10 =>
f_X3_readLine_j158 q10
else
Option.bind (f_X8_takesWord q4.2 11) fun q5 =>
if q5.1 = true then
Option.bind (f_X8_takeNumber q5.2 0 99) fun q9 =>
f_X3_readLine_j158 (mset q9.2 18 3 q9.1)
else
Option.bind (f_X8_takesWord q5.2 12) fun q6 =>
if q6.1 = true then
Option.bind (f_X8_takeNumber q6.2 0 999) fun q8 =>
f_X3_readLine_j158 (mset q8.2 18 2 q8.1)
else
Option.bind (f_X8_refuse q6.2 (μ 1 3)) fun q7 =>
f_X3_readLine_j158 q7
def f_X4_clear (μ : Mem) (a0 : Nat) : Option Mem :=
some (mset (mset (mset μ a0 0 (b2i false)) a0 1 0) a0 2 0)
def f_X4_copyFrom (μ : Mem) (a0 : Nat) (a1 : Nat) : Option Mem :=
Option.bind (cpM (mset (mset (mset μ a0 0 (b2i (i2b (μ a1 0)))) a0 1 ((mset μ a0 0 (b2i (i2b (μ a1 0)))) a1 1)) a0 2 ((mset (mset μ a0 0 (b2i (i2b (μ a1 0)))) a0 1 ((mset μ a0 0 (b2i (i2b (μ a1 0)))) a1 1)) a1 2)) (a1 + 1) 12 0 (a0 + 1) 12 0 12) fun μ1 =>
Option.bind (cpM μ1 (a1 + 2) 12 0 (a0 + 2) 12 0 12) fun μ2 =>
Option.bind (cpM μ2 (a1 + 3) 12 0 (a0 + 3) 12 0 12) fun μ3 =>
Option.bind (cpM μ3 (a1 + 4) 12 0 (a0 + 4) 12 0 12) fun μ4 =>
Option.bind (cpM μ4 (a1 + 5) 400 0 (a0 + 5) 400 0 400) fun μ5 =>
some μ5
def f_X4_openLine_j42 (μ : Mem) (a0 : Nat) : Option Mem :=
some μ
def f_X4_openLine (μ : Mem) (a0 : Nat) (p1 : Int32) (p2 : Int32) : Option Mem :=
if 12 ≤ (μ a0 1) then
f_X4_openLine_j42 μ a0
else
Option.bind (wr μ (a0 + 1) 12 (μ a0 1) p1) fun μ1 =>
Option.bind (wr μ1 (a0 + 2) 12 (μ1 a0 1) p2) fun μ2 =>
Option.bind (wr μ2 (a0 + 3) 12 (μ2 a0 1) (μ2 a0 2)) fun μ3 =>
f_X4_openLine_j42 μ3 a0
def f_X4_addStep_j30 (μ : Mem) (a0 : Nat) : Option Mem :=
some μ
def f_X4_addStep (μ : Mem) (a0 : Nat) (p1 : Int32) : Option Mem :=
if 400 ≤ (μ a0 2) then
f_X4_addStep_j30 μ a0
else
Option.bind (wr μ (a0 + 5) 400 (μ a0 2) p1) fun μ1 =>
f_X4_addStep_j30 (mset μ1 a0 2 ((μ1 a0 2) + 1)) a0
def f_X4_closeLine_j32 (μ : Mem) (a0 : Nat) : Option Mem :=
some μ
def f_X4_closeLine (μ : Mem) (a0 : Nat) : Option Mem :=
if 12 ≤ (μ a0 1) then
f_X4_closeLine_j32 μ a0
else
Option.bind (wr μ (a0 + 4) 12 (μ a0 1) (μ a0 2)) fun μ1 =>
f_X4_closeLine_j32 (mset μ1 a0 1 ((μ1 a0 1) + 1)) a0
def f_X5_takeKind (μ : Mem) : Option (Int32 × Mem) :=
Option.bind (f_X8_takesWord μ 13) fun q1 =>
if q1.1 = true then
some (0, q1.2)
else
Option.bind (f_X8_takesWord q1.2 14) fun q2 =>
if q2.1 = true then
some (1, q2.2)
else
Option.bind (f_X8_needWord q2.2 15) fun q3 =>
some (2, q3)
def f_X5_readEach_b7 (rA : Mem → Int32 → Option Mem) (μ : Mem) (l1 : Int32) (l2 : Int32) : Option ((Int32 × Mem) ⊕ Mem) :=
if 400 ≤ l2 then
some (.inr μ)
else
Option.bind (f_X8_takesWord μ 16) fun q1 =>
if q1.1 = true then
Option.bind (rA q1.2 l1) fun q2 =>
Option.bind (f_X4_addStep q2 56 1013) fun q3 =>
some (.inl ((l2 + 1), q3))
else
some (.inr q1.2)
def f_X5_readEach_j47 (rA : Mem → Int32 → Option Mem) (μ : Mem) : Option Mem :=
some μ
def f_X5_readEach_l7 (rA : Mem → Int32 → Option Mem) (μ : Mem) (l1 : Int32) (l2 : Int32) : Option Mem := Option.bind (loopN 10000 (fun z : (Int32 × Mem) => f_X5_readEach_b7 rA z.2 l1 z.1) (l2, μ)) fun t : Mem => f_X5_readEach_j47 rA t
def f_X5_readEach (rA : Mem → Int32 → Option Mem) (μ : Mem) (p1 : Int32) : Option Mem :=
Option.bind (rA μ p1) fun q1 =>
f_X5_readEach_l7 rA q1 p1 0
def f_X5_readAny_b7 (rA : Mem → Int32 → Option Mem) (μ : Mem) (l1 : Int32) (l2 : Int32) : Option ((Int32 × Mem) ⊕ Mem) :=
if 400 ≤ l2 then
some (.inr μ)
else
Option.bind (f_X8_takesWord μ 17) fun q1 =>
if q1.1 = true then
Option.bind (f_X5_readEach rA q1.2 l1) fun q2 =>
Option.bind (f_X4_addStep q2 56 1014) fun q3 =>
some (.inl ((l2 + 1), q3))
else
some (.inr q1.2)
def f_X5_readAny_j47 (rA : Mem → Int32 → Option Mem) (μ : Mem) : Option Mem :=
some μ
def f_X5_readAny_l7 (rA : Mem → Int32 → Option Mem) (μ : Mem) (l1 : Int32) (l2 : Int32) : Option Mem := Option.bind (loopN 10000 (fun z : (Int32 × Mem) => f_X5_readAny_b7 rA z.2 l1 z.1) (l2, μ)) fun t : Mem => f_X5_readAny_j47 rA t
def f_X5_readAny (rA : Mem → Int32 → Option Mem) (μ : Mem) (p1 : Int32) : Option Mem :=
Option.bind (f_X5_readEach rA μ p1) fun q1 =>
f_X5_readAny_l7 rA q1 p1 0
def f_X8_takesSign_j32 (μ : Mem) : Option (Bool × Mem) :=
some (false, μ)
def f_X8_takesSign (μ : Mem) (p1 : Int32) : Option (Bool × Mem) :=
if (μ 1 4) = (-1) then
if (μ 1 2) ≤ (μ 1 3) then
f_X8_takesSign_j32 μ
else
Option.bind (rd μ 2 400 (μ 1 3)) fun t1 =>
if t1 = p1 then
Option.bind (f_X8_moveTo μ ((μ 1 3) + 1)) fun q2 =>
some (true, q2)
else
f_X8_takesSign_j32 μ
else
f_X8_takesSign_j32 μ
def f_X8_needSign_j16 (μ : Mem) : Option Mem :=
some μ
def f_X8_needSign (μ : Mem) (p1 : Int32) : Option Mem :=
Option.bind (f_X8_takesSign μ p1) fun q1 =>
if q1.1 = true then
f_X8_needSign_j16 q1.2
else
Option.bind (f_X8_refuse q1.2 (q1.2 1 3)) fun q2 =>
f_X8_needSign_j16 q2
def f_X8_isAtNumber (μ : Mem) : Option Bool :=
Option.bind (f_X8_runOf μ 48 57) fun t1 =>
some (if t1 ≤ 0 then (false : Bool) else true)
def f_X5_readPart_j220 (μ : Mem) : Option Mem :=
some μ
def f_X5_readPart (μ : Mem) : Option Mem :=
Option.bind (f_X8_isAtNumber μ) fun t1 =>
if t1 = true then
Option.bind (f_X8_takeNumber μ 0 999) fun q17 =>
Option.bind (f_X4_addStep q17.2 56 q17.1) fun q18 =>
f_X5_readPart_j220 q18
else
Option.bind (f_X8_takesWord μ 18) fun q2 =>
if q2.1 = true then
Option.bind (f_X4_addStep q2.2 56 1000) fun q16 =>
f_X5_readPart_j220 q16
else
Option.bind (f_X8_takesWord q2.2 19) fun q3 =>
if q3.1 = true then
Option.bind (f_X4_addStep q3.2 56 1001) fun q15 =>
f_X5_readPart_j220 q15
else
Option.bind (f_X8_takesWord q3.2 20) fun q4 =>
if q4.1 = true then
Option.bind (f_X4_addStep q4.2 56 1002) fun q14 =>
f_X5_readPart_j220 q14
else
Option.bind (f_X8_takesWord q4.2 21) fun q5 =>
if q5.1 = true then
Option.bind (f_X4_addStep q5.2 56 1003) fun q13 =>
f_X5_readPart_j220 q13
else
Option.bind (f_X8_takesWord q5.2 22) fun q6 =>
if q6.1 = true then
Option.bind (f_X4_addStep q6.2 56 1004) fun q12 =>
f_X5_readPart_j220 q12
else
Option.bind (f_X8_takesWord q6.2 23) fun q7 =>
if q7.1 = true then
Option.bind (f_X4_addStep q7.2 56 1005) fun q11 =>
f_X5_readPart_j220 q11
else
Option.bind (f_X8_takesWord q7.2 24) fun q8 =>
if q8.1 = true then
Option.bind (f_X4_addStep q8.2 56 1006) fun q10 =>
f_X5_readPart_j220 q10
else
Option.bind (f_X8_refuse q8.2 (q8.2 1 3)) fun q9 =>
f_X5_readPart_j220 q9
def f_X5_readSum_b6 (μ : Mem) (l1 : Int32) : Option ((Int32 × Mem) ⊕ Mem) :=
if 400 ≤ l1 then
some (.inr μ)
else
Option.bind (f_X8_takesSign μ 43) fun q1 =>
if q1.1 = true then
Option.bind (f_X5_readPart q1.2) fun q2 =>
Option.bind (f_X4_addStep q2 56 1010) fun q3 =>
some (.inl ((l1 + 1), q3))
else
some (.inr q1.2)
def f_X5_readSum_j45 (μ : Mem) : Option Mem :=
some μ
def f_X5_readSum_l6 (μ : Mem) (l1 : Int32) : Option Mem := Option.bind (loopN 10000 (fun z : (Int32 × Mem) => f_X5_readSum_b6 z.2 z.1) (l1, μ)) fun t : Mem => f_X5_readSum_j45 t
def f_X5_readSum (μ : Mem) : Option Mem :=
Option.bind (f_X5_readPart μ) fun q1 =>
f_X5_readSum_l6 q1 0
def f_X5_readComparison_j56 (μ : Mem) : Option Mem :=
some μ
def f_X5_readComparison (μ : Mem) : Option Mem :=
Option.bind (f_X5_readSum μ) fun q1 =>
Option.bind (f_X8_takesSign q1 60) fun q2 =>
if q2.1 = true then
Option.bind (f_X5_readSum q2.2) fun q6 =>
Option.bind (f_X4_addStep q6 56 1011) fun q7 =>
f_X5_readComparison_j56 q7
else
Option.bind (f_X8_needSign q2.2 62) fun q3 =>
Option.bind (f_X5_readSum q3) fun q4 =>
Option.bind (f_X4_addStep q4 56 1012) fun q5 =>
f_X5_readComparison_j56 q5
def f_X5_readAtom_body_j155 (rA : Mem → Int32 → Option Mem) (μ : Mem) : Option Mem :=
some μ
def f_X5_readAtom_body (rA : Mem → Int32 → Option Mem) (μ : Mem) (p1 : Int32) : Option Mem :=
Option.bind (f_X8_takesWord μ 25) fun q1 =>
if q1.1 = true then
if p1 < 6 then
Option.bind (rA q1.2 (p1 + 1)) fun q11 =>
Option.bind (f_X4_addStep q11 56 1009) fun q12 =>
f_X5_readAtom_body_j155 rA q12
else
Option.bind (f_X8_refuse q1.2 (μ 1 3)) fun q13 =>
some q13
else
Option.bind (f_X8_takesSign q1.2 40) fun q2 =>
if q2.1 = true then
if p1 < 6 then
Option.bind (f_X5_readAny rA q2.2 (p1 + 1)) fun q8 =>
Option.bind (f_X8_needSign q8 41) fun q9 =>
f_X5_readAtom_body_j155 rA q9
else
Option.bind (f_X8_refuse q2.2 (μ 1 3)) fun q10 =>
some q10
else
Option.bind (f_X8_takesWord q2.2 26) fun q3 =>
if q3.1 = true then
Option.bind (f_X4_addStep q3.2 56 1007) fun q7 =>
f_X5_readAtom_body_j155 rA q7
else
Option.bind (f_X8_takesWord q3.2 27) fun q4 =>
if q4.1 = true then
Option.bind (f_X4_addStep q4.2 56 1008) fun q6 =>
f_X5_readAtom_body_j155 rA q6
else
Option.bind (f_X5_readComparison q4.2) fun q5 =>
f_X5_readAtom_body_j155 rA q5
def f_X5_readAtom : Nat → Mem → Int32 → Option Mem
  | 0 => fun _ _ => none
  | k + 1 => f_X5_readAtom_body (f_X5_readAtom k)
def f_X5_readLine_j42 (μ : Mem) : Option Mem :=
Option.bind (f_X4_closeLine μ 56) fun q1 =>
some q1
def f_X5_readLine (μ : Mem) : Option Mem :=
Option.bind (f_X5_takeKind μ) fun q1 =>
Option.bind (f_X8_takeNumber q1.2 0 99) fun q2 =>
Option.bind (f_X4_openLine q2.2 56 q1.1 q2.1) fun q3 =>
Option.bind (f_X8_takesWord q3 28) fun q4 =>
if q4.1 = true then
Option.bind (f_X5_readAny (f_X5_readAtom 8) q4.2 0) fun q5 =>
f_X5_readLine_j42 q5
else
f_X5_readLine_j42 q4.2
def f_X7_gather_b2 (μ : Mem) (a1 : Nat) (l2 : Int32) : Option ((Int32 × Mem) ⊕ Mem) :=
if 6 ≤ l2 then
some (.inr μ)
else
Option.bind (wr μ 258 6 l2 0) fun μ1 =>
some (.inl ((l2 + 1), μ1))
def f_X7_gather_j53_25 (μ : Mem) (a1 : Nat) (l2 : Int32) (l3 : Int32) : Option ((Int32 × Int32 × Mem) ⊕ (Int32 × Mem)) :=
some (.inl (l2, (l3 + 1), μ))
def f_X7_gather_b25 (μ : Mem) (a1 : Nat) (l2 : Int32) (l3 : Int32) : Option ((Int32 × Int32 × Mem) ⊕ (Int32 × Mem)) :=
if (2 * (μ a1 0)) ≤ l3 then
some (.inr (l2, μ))
else
Option.bind (f_X2_isPledged μ a1 l3) fun t1 =>
if t1 = true then
Option.bind (wr μ 257 12 l2 l3) fun μ2 =>
f_X7_gather_j53_25 μ2 a1 (l2 + 1) l3
else
f_X7_gather_j53_25 μ a1 l2 l3
def f_X7_gather_j59 (μ : Mem) (a1 : Nat) (l2 : Int32) : Option (Int32 × Mem) :=
some (l2, μ)
def f_X7_gather_l25 (μ : Mem) (a1 : Nat) (l2 : Int32) (l3 : Int32) : Option (Int32 × Mem) := Option.bind (loopN 10000 (fun z : (Int32 × Int32 × Mem) => f_X7_gather_b25 z.2.2 a1 z.1 z.2.1) (l2, l3, μ)) fun t : (Int32 × Mem) => f_X7_gather_j59 t.2 a1 t.1
def f_X7_gather_j21 (μ : Mem) (a1 : Nat) : Option (Int32 × Mem) :=
f_X7_gather_l25 μ a1 0 0
def f_X7_gather_l2 (μ : Mem) (a1 : Nat) (l2 : Int32) : Option (Int32 × Mem) := Option.bind (loopN 10000 (fun z : (Int32 × Mem) => f_X7_gather_b2 z.2 a1 z.1) (l2, μ)) fun t : Mem => f_X7_gather_j21 t a1
def f_X7_gather (μ : Mem) (a1 : Nat) : Option (Int32 × Mem) :=
f_X7_gather_l2 μ a1 0
def f_J6_numberOfTrailingZeros_0f7a4_j74 (μ : Mem) (l0 : Int32) (l1 : Int32) : Option Int32 :=
some (l1 + ((Int32.toUInt32 l0 >>> (Int32.toUInt32 1 &&& Int32.toUInt32 31)).toInt32))
def f_J6_numberOfTrailingZeros_0f7a4_j62 (μ : Mem) (l0 : Int32) (l1 : Int32) : Option Int32 :=
if l0 ≤ 4 then
f_J6_numberOfTrailingZeros_0f7a4_j74 μ l0 l1
else
f_J6_numberOfTrailingZeros_0f7a4_j74 μ ((Int32.toUInt32 l0 >>> (Int32.toUInt32 2 &&& Int32.toUInt32 31)).toInt32) (l1 + 2)
def f_J6_numberOfTrailingZeros_0f7a4_j49 (μ : Mem) (l0 : Int32) (l1 : Int32) : Option Int32 :=
if l0 ≤ 16 then
f_J6_numberOfTrailingZeros_0f7a4_j62 μ l0 l1
else
f_J6_numberOfTrailingZeros_0f7a4_j62 μ ((Int32.toUInt32 l0 >>> (Int32.toUInt32 4 &&& Int32.toUInt32 31)).toInt32) (l1 + 4)
def f_J6_numberOfTrailingZeros_0f7a4_j34 (μ : Mem) (l0 : Int32) (l1 : Int32) : Option Int32 :=
if l0 ≤ 256 then
f_J6_numberOfTrailingZeros_0f7a4_j49 μ l0 l1
else
f_J6_numberOfTrailingZeros_0f7a4_j49 μ ((Int32.toUInt32 l0 >>> (Int32.toUInt32 8 &&& Int32.toUInt32 31)).toInt32) (l1 + 8)
def f_J6_numberOfTrailingZeros_0f7a4 (μ : Mem) (p0 : Int32) : Option Int32 :=
if 0 < ((p0 ^^^ (-1)) &&& (p0 - 1)) then
if ((p0 ^^^ (-1)) &&& (p0 - 1)) ≤ 65536 then
f_J6_numberOfTrailingZeros_0f7a4_j34 μ ((p0 ^^^ (-1)) &&& (p0 - 1)) 1
else
f_J6_numberOfTrailingZeros_0f7a4_j34 μ ((Int32.toUInt32 ((p0 ^^^ (-1)) &&& (p0 - 1)) >>> (Int32.toUInt32 16 &&& Int32.toUInt32 31)).toInt32) (1 + 16)
else
some (((p0 ^^^ (-1)) &&& (p0 - 1)) &&& 32)
def f_X7_isBalanced_b2 (μ : Mem) (l1 : Int32) : Option (Int32 ⊕ (Unit ⊕ Bool)) :=
if 6 ≤ l1 then
some (.inr (.inl ()))
else
Option.bind (rd μ 258 6 l1) fun t1 =>
if t1 = 0 then
some (.inl (l1 + 1))
else
some (.inr (.inr false))
def f_X7_isBalanced_j25 (μ : Mem) : Option Bool :=
some true
def f_X7_isBalanced_l2 (μ : Mem) (l1 : Int32) : Option Bool := Option.bind (loopN 10000 (fun z : Int32 => f_X7_isBalanced_b2 μ z) l1) fun t : (Unit ⊕ Bool) => Sum.elim (fun e => f_X7_isBalanced_j25 μ) (fun x => some x) t
def f_X7_isBalanced (μ : Mem) : Option Bool :=
f_X7_isBalanced_l2 μ 0
def f_X7_take_j44 (μ : Mem) : Option Mem :=
some μ
def f_X7_take_j39 (μ : Mem) (l1 : Int32) : Option Mem :=
f_X7_take_j44 (mset μ 256 3 l1)
def f_X7_take (μ : Mem) (p1 : Int32) : Option Mem :=
Option.bind (f_J6_bitCount_0f7a4 (mset μ 256 2 ((μ 256 2) + 1)) p1) fun t1 =>
Option.bind (f_J6_bitCount_0f7a4 (mset μ 256 2 ((μ 256 2) + 1)) ((mset μ 256 2 ((μ 256 2) + 1)) 256 3)) fun t2 =>
if 0 < (t1 - t2) then
f_X7_take_j39 (mset μ 256 2 ((μ 256 2) + 1)) p1
else
if (t1 - t2) = 0 then
if ((mset μ 256 2 ((μ 256 2) + 1)) 256 3) ≤ p1 then
f_X7_take_j44 (mset μ 256 2 ((μ 256 2) + 1))
else
f_X7_take_j39 (mset μ 256 2 ((μ 256 2) + 1)) p1
else
f_X7_take_j44 (mset μ 256 2 ((μ 256 2) + 1))
def f_X7_seek_j121_21 (μ : Mem) (a1 : Nat) (l2 : Int32) (l3 : Int32) (l4 : Int32) : Option ((Int32 × Int32 × Mem) ⊕ Mem) :=
some (.inl (l3, (l4 + 1), μ))
def f_X7_seek_j75_21 (μ : Mem) (a1 : Nat) (l2 : Int32) (l3 : Int32) (l4 : Int32) (l5 : Int32) (k0 : Int32) : Option ((Int32 × Int32 × Mem) ⊕ Mem) :=
Option.bind (f_X11_ownerOf μ l5) fun t1 =>
Option.bind (rd μ 258 6 t1) fun t2 =>
Option.bind (wr μ 258 6 t1 (t2 + k0)) fun μ3 =>
Option.bind (rd μ3 (a1 + 7) 12 l5) fun t4 =>
Option.bind (rd μ3 258 6 t4) fun t5 =>
Option.bind (wr μ3 258 6 t4 (t5 - k0)) fun μ6 =>
Option.bind (f_X7_isBalanced μ6) fun t7 =>
if t7 = true then
Option.bind (f_X7_take μ6 l3) fun q8 =>
f_X7_seek_j121_21 q8 a1 l2 l3 l4
else
f_X7_seek_j121_21 μ6 a1 l2 l3 l4
def f_X7_seek_b21 (μ : Mem) (a1 : Nat) (l2 : Int32) (l3 : Int32) (l4 : Int32) : Option ((Int32 × Int32 × Mem) ⊕ Mem) :=
if (1 <<< (l2 &&& 31)) ≤ l4 then
some (.inr μ)
else
Option.bind (f_J6_numberOfTrailingZeros_0f7a4 μ l4) fun t1 =>
Option.bind (rd μ 257 12 t1) fun t2 =>
Option.bind (f_X11_hasBit μ (l3 ^^^ (1 <<< (t2 &&& 31))) t2) fun t3 =>
if t3 = true then
Option.bind (rd μ (a1 + 8) 12 t2) fun t5 =>
f_X7_seek_j75_21 μ a1 l2 (l3 ^^^ (1 <<< (t2 &&& 31))) l4 t2 t5
else
Option.bind (rd μ (a1 + 8) 12 t2) fun t4 =>
f_X7_seek_j75_21 μ a1 l2 (l3 ^^^ (1 <<< (t2 &&& 31))) l4 t2 (-t4)
def f_X7_seek_j127 (μ : Mem) (a1 : Nat) : Option Mem :=
some μ
def f_X7_seek_l21 (μ : Mem) (a1 : Nat) (l2 : Int32) (l3 : Int32) (l4 : Int32) : Option Mem := Option.bind (loopN 10000 (fun z : (Int32 × Int32 × Mem) => f_X7_seek_b21 z.2.2 a1 l2 z.1 z.2.1) (l3, l4, μ)) fun t : Mem => f_X7_seek_j127 t a1
def f_X7_seek (μ : Mem) (a1 : Nat) : Option Mem :=
Option.bind (f_X7_gather μ a1) fun q1 =>
f_X7_seek_l21 (mset (mset q1.2 256 2 0) 256 3 0) a1 q1.1 0 1
def f_X8_add_b3 (μ : Mem) (l1 : Int32) (l2 : Int32) : Option ((Int32 × Mem) ⊕ Mem) :=
if l2 < 0 then
some (.inr μ)
else
if 400 ≤ (μ 1 1) then
some (.inr μ)
else
Option.bind (wr μ 2 400 (μ 1 1) (((Int32.toUInt32 l1 >>> (Int32.toUInt32 l2 &&& Int32.toUInt32 31)).toInt32) &&& 255)) fun μ1 =>
some (.inl ((l2 + (-8)), (mset μ1 1 1 ((μ1 1 1) + 1))))
def f_X8_add_j49 (μ : Mem) : Option Mem :=
some μ
def f_X8_add_l3 (μ : Mem) (l1 : Int32) (l2 : Int32) : Option Mem := Option.bind (loopN 10000 (fun z : (Int32 × Mem) => f_X8_add_b3 z.2 l1 z.1) (l2, μ)) fun t : Mem => f_X8_add_j49 t
def f_X8_add (μ : Mem) (p1 : Int32) : Option Mem :=
f_X8_add_l3 μ p1 24
def f_X8_useUp (μ : Mem) : Option (Int32 × Mem) :=
some ((μ 1 1), (mset μ 1 1 0))
def f_X8_openText (μ : Mem) : Option Mem :=
Option.bind (f_X8_useUp μ) fun q1 =>
Option.bind (f_X8_moveTo (mset (mset q1.2 1 2 q1.1) 1 4 (-1)) 0) fun q2 =>
some q2
def f_X8_isOver (μ : Mem) : Option Bool :=
some (if (μ 1 3) < (μ 1 2) then (false : Bool) else true)
def f_X9_tell (μ : Mem) (p1 : Int32) (p2 : Int32) (p3 : Int32) : Option Mem :=
Option.bind (wr μ 260 36 ((p1 * 6) + p2) (if p3 = (-1) then (1000000 : Int32) else p3)) fun μ2 =>
some μ2
def f_X9_with (μ : Mem) (p1 : Int32) (p2 : Int32) : Option Int32 :=
Option.bind (f_J6_bitCount_0f7a4 μ p1) fun t1 =>
Option.bind (rd μ 260 36 ((t1 * 6) + p2)) fun t2 =>
Option.bind (rd μ 261 64 (p1 ||| (1 <<< (p2 &&& 31)))) fun t3 =>
some (t2 + t3)
def f_X9_weigh_j80_40 (μ : Mem) (l3 : Int32) (l4 : Int32) : Option ((Int32 × Mem) ⊕ Mem) :=
some (.inl ((l4 + 1), μ))
def f_X9_weigh_b40 (μ : Mem) (l3 : Int32) (l4 : Int32) : Option ((Int32 × Mem) ⊕ Mem) :=
if (μ 259 2) ≤ l4 then
some (.inr μ)
else
Option.bind (f_X11_hasBit μ l3 l4) fun t1 =>
if t1 = true then
f_X9_weigh_j80_40 μ l3 l4
else
Option.bind (rd μ 261 64 l3) fun t2 =>
Option.bind (f_X9_with μ l3 l4) fun t3 =>
Option.bind (f_J9_min_7cf53 μ t2 t3) fun t4 =>
Option.bind (wr μ 261 64 l3 t4) fun μ5 =>
f_X9_weigh_j80_40 μ5 l3 l4
def f_X9_weigh_j86_25 (μ : Mem) (l3 : Int32) : Option ((Int32 × Mem) ⊕ Mem) :=
some (.inl ((l3 + (-1)), μ))
def f_X9_weigh_l40 (μ : Mem) (l3 : Int32) (l4 : Int32) : Option ((Int32 × Mem) ⊕ Mem) := Option.bind (loopN 10000 (fun z : (Int32 × Mem) => f_X9_weigh_b40 z.2 l3 z.1) (l4, μ)) fun t : Mem => f_X9_weigh_j86_25 t l3
def f_X9_weigh_b25 (μ : Mem) (l3 : Int32) : Option ((Int32 × Mem) ⊕ Mem) :=
if l3 < 0 then
some (.inr μ)
else
Option.bind (wr μ 261 64 l3 1000000) fun μ1 =>
f_X9_weigh_l40 μ1 l3 0
def f_X9_weigh_j92 (μ : Mem) : Option Mem :=
some μ
def f_X9_weigh_l25 (μ : Mem) (l3 : Int32) : Option Mem := Option.bind (loopN 10000 (fun z : (Int32 × Mem) => f_X9_weigh_b25 z.2 z.1) (l3, μ)) fun t : Mem => f_X9_weigh_j92 t
def f_X9_weigh (μ : Mem) (p1 : Int32) : Option Mem :=
Option.bind (wr (mset μ 259 2 p1) 261 64 ((1 <<< (((mset μ 259 2 p1) 259 2) &&& 31)) - 1) 0) fun μ1 =>
f_X9_weigh_l25 μ1 (((1 <<< (((mset μ 259 2 p1) 259 2) &&& 31)) - 1) - 1)
def f_X9_leastOfAll_j21 (μ : Mem) (k0 : Int32) : Option Int32 :=
some k0
def f_X9_leastOfAll (μ : Mem) : Option Int32 :=
Option.bind (rd μ 261 64 0) fun t1 =>
if t1 < 1000000 then
Option.bind (rd μ 261 64 0) fun t2 =>
f_X9_leastOfAll_j21 μ t2
else
f_X9_leastOfAll_j21 μ (-1)
def f_X9_firstBest_j35_2 (μ : Mem) (l1 : Int32) (l2 : Int32) : Option (Int32 ⊕ (Unit ⊕ Int32)) :=
some (.inl (l2 + 1))
def f_X9_firstBest_b2 (μ : Mem) (l1 : Int32) (l2 : Int32) : Option (Int32 ⊕ (Unit ⊕ Int32)) :=
if (μ 259 2) ≤ l2 then
some (.inr (.inl ()))
else
Option.bind (f_X11_hasBit μ l1 l2) fun t1 =>
if t1 = true then
f_X9_firstBest_j35_2 μ l1 l2
else
Option.bind (f_X9_with μ l1 l2) fun t2 =>
Option.bind (rd μ 261 64 l1) fun t3 =>
if t2 = t3 then
some (.inr (.inr l2))
else
f_X9_firstBest_j35_2 μ l1 l2
def f_X9_firstBest_j41 (μ : Mem) : Option Int32 :=
some 0
def f_X9_firstBest_l2 (μ : Mem) (l1 : Int32) (l2 : Int32) : Option Int32 := Option.bind (loopN 10000 (fun z : Int32 => f_X9_firstBest_b2 μ l1 z) l2) fun t : (Unit ⊕ Int32) => Sum.elim (fun e => f_X9_firstBest_j41 μ) (fun x => some x) t
def f_X9_firstBest (μ : Mem) (p1 : Int32) : Option Int32 :=
f_X9_firstBest_l2 μ p1 0
def f_X9_partOf_b20 (μ : Mem) (l1 : Int32) (l2 : Int32) (l3 : Int32) (l4 : Int32) : Option ((Int32 × Int32 × Int32) ⊕ Int32) :=
if l1 < l4 then
some (.inr l3)
else
Option.bind (f_X9_firstBest μ l2) fun t1 =>
some (.inl ((l2 ||| (1 <<< (t1 &&& 31))), t1, (l4 + 1)))
def f_X9_partOf_j44 (μ : Mem) (l3 : Int32) : Option Int32 :=
some l3
def f_X9_partOf_l20 (μ : Mem) (l1 : Int32) (l2 : Int32) (l3 : Int32) (l4 : Int32) : Option Int32 := Option.bind (loopN 10000 (fun z : (Int32 × Int32 × Int32) => f_X9_partOf_b20 μ l1 z.1 z.2.1 z.2.2) (l2, l3, l4)) fun t : Int32 => f_X9_partOf_j44 μ t
def f_X9_partOf (μ : Mem) (p1 : Int32) : Option Int32 :=
Option.bind (rd μ 261 64 0) fun t1 =>
if t1 < 1000000 then
f_X9_partOf_l20 μ p1 0 (-1) 0
else
some (-1)
def f_X10_areTold_j12 (μ : Mem) : Option Bool :=
some false
def f_X10_areTold_j59_16 (μ : Mem) : Option (Int32 ⊕ (Unit ⊕ Bool)) :=
some (.inr (.inr false))
def f_X10_areTold_b16 (μ : Mem) (l1 : Int32) (l2 : Int32) (l3 : Int32) : Option (Int32 ⊕ (Unit ⊕ Bool)) :=
if l1 ≤ l3 then
some (.inr (.inl ()))
else
Option.bind (rd μ 2 400 l3) fun t1 =>
Option.bind (rd μ 2 400 (l3 + 1)) fun t2 =>
if t2 < t1 then
f_X10_areTold_j59_16 μ
else
Option.bind (rd μ 2 400 (l3 + 1)) fun t3 =>
if t3 < l2 then
some (.inl (l3 + 3))
else
f_X10_areTold_j59_16 μ
def f_X10_areTold_j67 (μ : Mem) : Option Bool :=
some true
def f_X10_areTold_l16 (μ : Mem) (l1 : Int32) (l2 : Int32) (l3 : Int32) : Option Bool := Option.bind (loopN 10000 (fun z : Int32 => f_X10_areTold_b16 μ l1 l2 z) l3) fun t : (Unit ⊕ Bool) => Sum.elim (fun e => f_X10_areTold_j67 μ) (fun x => some x) t
def f_X10_areTold (μ : Mem) (p1 : Int32) (p2 : Int32) : Option Bool :=
if 36 < p1 then
f_X10_areTold_j12 μ
else
Option.bind (rm9 p1 3) fun t1 =>
if t1 = 0 then
f_X10_areTold_l16 μ p1 p2 0
else
f_X10_areTold_j12 μ
def f_X10_fits_b2 (μ : Mem) (l1 : Int32) (l2 : Int32) (l3 : Int32) : Option (Int32 ⊕ (Unit ⊕ Bool)) :=
if l2 ≤ l3 then
some (.inr (.inl ()))
else
Option.bind (rd μ 2 400 (l3 + 1)) fun t1 =>
Option.bind (rd μ 2 400 l3) fun t2 =>
Option.bind (rd μ 2 400 l3) fun t3 =>
Option.bind (f_J6_bitCount_0f7a4 μ ((l1 >>> (t3 &&& 31)) &&& ((1 <<< (((t1 - t2) + 1) &&& 31)) - 1))) fun t4 =>
Option.bind (rd μ 2 400 (l3 + 2)) fun t5 =>
if t4 = t5 then
some (.inl (l3 + 3))
else
some (.inr (.inr false))
def f_X10_fits_j79 (μ : Mem) : Option Bool :=
some true
def f_X10_fits_l2 (μ : Mem) (l1 : Int32) (l2 : Int32) (l3 : Int32) : Option Bool := Option.bind (loopN 10000 (fun z : Int32 => f_X10_fits_b2 μ l1 l2 z) l3) fun t : (Unit ⊕ Bool) => Sum.elim (fun e => f_X10_fits_j79 μ) (fun x => some x) t
def f_X10_fits (μ : Mem) (p1 : Int32) (p2 : Int32) : Option Bool :=
f_X10_fits_l2 μ p1 p2 0
def f_X10_take_j59_33 (μ : Mem) (l1 : Int32) (l2 : Int32) : Option ((Int32 × Mem) ⊕ Mem) :=
some (.inl ((l2 + 1), μ))
def f_X10_take_b33 (μ : Mem) (l1 : Int32) (l2 : Int32) : Option ((Int32 × Mem) ⊕ Mem) :=
if (μ 262 2) ≤ l2 then
some (.inr μ)
else
Option.bind (f_X11_hasBit μ l1 l2) fun t1 =>
if t1 = true then
Option.bind (rd μ 263 6 l2) fun t2 =>
Option.bind (wr μ 263 6 l2 (t2 + 1)) fun μ3 =>
f_X10_take_j59_33 μ3 l1 l2
else
f_X10_take_j59_33 μ l1 l2
def f_X10_take_j65 (μ : Mem) : Option Mem :=
some μ
def f_X10_take_l33 (μ : Mem) (l1 : Int32) (l2 : Int32) : Option Mem := Option.bind (loopN 10000 (fun z : (Int32 × Mem) => f_X10_take_b33 z.2 l1 z.1) (l2, μ)) fun t : Mem => f_X10_take_j65 t
def f_X10_take (μ : Mem) (p1 : Int32) : Option Mem :=
f_X10_take_l33 (mset (mset μ 262 4 (if (μ 262 3) = 0 then (p1 : Int32) else ((μ 262 4) &&& p1))) 262 3 (((mset μ 262 4 (if (μ 262 3) = 0 then (p1 : Int32) else ((μ 262 4) &&& p1))) 262 3) + 1)) p1 0
def f_X10_seek_b17 (μ : Mem) (l1 : Int32) (l3 : Int32) : Option ((Int32 × Mem) ⊕ Mem) :=
if (μ 262 2) ≤ l3 then
some (.inr μ)
else
Option.bind (wr μ 263 6 l3 0) fun μ1 =>
some (.inl ((l3 + 1), μ1))
def f_X10_seek_j64_40 (μ : Mem) (l1 : Int32) (l3 : Int32) : Option ((Int32 × Mem) ⊕ Mem) :=
some (.inl ((l3 + 1), μ))
def f_X10_seek_b40 (μ : Mem) (l1 : Int32) (l3 : Int32) : Option ((Int32 × Mem) ⊕ Mem) :=
if (1 <<< ((μ 262 2) &&& 31)) ≤ l3 then
some (.inr μ)
else
Option.bind (f_X10_fits μ l3 l1) fun t1 =>
if t1 = true then
Option.bind (f_X10_take μ l3) fun q2 =>
f_X10_seek_j64_40 q2 l1 l3
else
f_X10_seek_j64_40 μ l1 l3
def f_X10_seek_j70 (μ : Mem) : Option Mem :=
some μ
def f_X10_seek_l40 (μ : Mem) (l1 : Int32) (l3 : Int32) : Option Mem := Option.bind (loopN 10000 (fun z : (Int32 × Mem) => f_X10_seek_b40 z.2 l1 z.1) (l3, μ)) fun t : Mem => f_X10_seek_j70 t
def f_X10_seek_j38 (μ : Mem) (l1 : Int32) : Option Mem :=
f_X10_seek_l40 μ l1 0
def f_X10_seek_l17 (μ : Mem) (l1 : Int32) (l3 : Int32) : Option Mem := Option.bind (loopN 10000 (fun z : (Int32 × Mem) => f_X10_seek_b17 z.2 l1 z.1) (l3, μ)) fun t : Mem => f_X10_seek_j38 t l1
def f_X10_seek (μ : Mem) (p1 : Int32) (p2 : Int32) : Option Mem :=
f_X10_seek_l17 (mset (mset (mset μ 262 2 p2) 262 3 0) 262 4 0) p1 0
def f_X10_parting_j58_9 (μ : Mem) (l1 : Int32) (l2 : Int32) (l3 : Int32) : Option ((Int32 × Int32 × Int32) ⊕ Int32) :=
some (.inl (l1, l2, (l3 + 1)))
def f_X10_parting_b9 (μ : Mem) (l1 : Int32) (l2 : Int32) (l3 : Int32) : Option ((Int32 × Int32 × Int32) ⊕ Int32) :=
if (μ 262 2) ≤ l3 then
some (.inr l1)
else
if (μ 262 3) ≤ 1 then
some (.inr l1)
else
Option.bind (rd μ 263 6 l3) fun t1 =>
Option.bind (rd μ 263 6 l3) fun t2 =>
Option.bind (f_J9_max_7cf53 μ t1 ((μ 262 3) - t2)) fun t3 =>
if l2 ≤ t3 then
f_X10_parting_j58_9 μ l1 l2 l3
else
f_X10_parting_j58_9 μ l3 t3 l3
def f_X10_parting_j64 (μ : Mem) (l1 : Int32) : Option Int32 :=
some l1
def f_X10_parting_l9 (μ : Mem) (l1 : Int32) (l2 : Int32) (l3 : Int32) : Option Int32 := Option.bind (loopN 10000 (fun z : (Int32 × Int32 × Int32) => f_X10_parting_b9 μ z.1 z.2.1 z.2.2) (l1, l2, l3)) fun t : Int32 => f_X10_parting_j64 μ t
def f_X10_parting (μ : Mem) : Option Int32 :=
f_X10_parting_l9 μ (-1) (μ 262 3) 0
def f_X11_feed (μ : Mem) (p1 : Int32) (p2 : Int32) (p3 : Int32) (p4 : Int32) (p5 : Int32) : Option (Int32 × Mem) :=
if ((μ 1 1) + 20) ≤ 400 then
Option.bind (f_X8_add μ p1) fun q1 =>
Option.bind (f_X8_add q1 p2) fun q2 =>
Option.bind (f_X8_add q2 p3) fun q3 =>
Option.bind (f_X8_add q3 p4) fun q4 =>
Option.bind (f_X8_add q4 p5) fun q5 =>
some ((q5 1 1), q5)
else
some ((-1), μ)
def f_X11_end_j15 (μ : Mem) : Option (Bool × Mem) :=
some (false, μ)
def f_X11_end (μ : Mem) (p1 : Int32) : Option (Bool × Mem) :=
if p1 < 0 then
f_X11_end_j15 μ
else
if p1 ≤ (μ 1 1) then
some (true, (mset μ 1 1 p1))
else
f_X11_end_j15 μ
def f_X6_readAll_72_j66_25 (μ : Mem) (l2 : Int32) : Option ((Bool × Int32 × Mem) ⊕ Mem) :=
Option.bind (f_X8_takesSign μ 59) fun q1 =>
some (.inl (q1.1, (l2 + 1), q1.2))
def f_X6_readAll_72_b25 (μ : Mem) (l1 : Bool) (l2 : Int32) : Option ((Bool × Int32 × Mem) ⊕ Mem) :=
if (μ 72 1) < l2 then
some (.inr μ)
else
if l1 = true then
if (μ 72 1) ≤ l2 then
Option.bind (f_X8_refuse μ (μ 1 3)) fun q1 =>
f_X6_readAll_72_j66_25 q1 l2
else
Option.bind (f_X3_readLine μ) fun q2 =>
f_X6_readAll_72_j66_25 q2 l2
else
some (.inr μ)
def f_X6_readAll_72_j106 (μ : Mem) : Option Mem :=
some μ
def f_X6_readAll_72_j82 (μ : Mem) : Option Mem :=
Option.bind (f_X8_isOver μ) fun t1 =>
if t1 = true then
f_X6_readAll_72_j106 μ
else
Option.bind (f_X8_refuse μ (μ 1 3)) fun q2 =>
f_X6_readAll_72_j106 q2
def f_X6_readAll_72_l25 (μ : Mem) (l1 : Bool) (l2 : Int32) : Option Mem := Option.bind (loopN 10000 (fun z : (Bool × Int32 × Mem) => f_X6_readAll_72_b25 z.2.2 z.1 z.2.1) (l1, l2, μ)) fun t : Mem => f_X6_readAll_72_j82 t
def f_X6_readAll_72 (μ : Mem) : Option Mem :=
Option.bind (f_X8_openText μ) fun q1 =>
Option.bind (f_X8_isOver q1) fun t2 =>
f_X6_readAll_72_l25 q1 (if t2 = true then (false : Bool) else true) 0
def f_X11_land (μ : Mem) : Option ((Nat × Mem) ⊕ (Int32 × Mem)) :=
Option.bind (f_X2_copyFrom μ 18 3) fun q1 =>
Option.bind (f_X6_readAll_72 q1) fun q2 =>
Option.bind (f_X8_isRight q2) fun t3 =>
if t3 = true then
if (q2 3 1) < 12 then
Option.bind (f_X2_copyFrom q2 3 18) fun q4 =>
Option.bind (f_X0_forget (mset q4 3 1 ((q4 3 1) + 1))) fun q5 =>
some (.inr ((q5 3 1), q5))
else
some (.inl (5, q2))
else
some (.inl (1, q2))
def f_X6_readAll_73_j66_25 (μ : Mem) (l2 : Int32) : Option ((Bool × Int32 × Mem) ⊕ Mem) :=
Option.bind (f_X8_takesSign μ 59) fun q1 =>
some (.inl (q1.1, (l2 + 1), q1.2))
def f_X6_readAll_73_b25 (μ : Mem) (l1 : Bool) (l2 : Int32) : Option ((Bool × Int32 × Mem) ⊕ Mem) :=
if (μ 73 1) < l2 then
some (.inr μ)
else
if l1 = true then
if (μ 73 1) ≤ l2 then
Option.bind (f_X8_refuse μ (μ 1 3)) fun q1 =>
f_X6_readAll_73_j66_25 q1 l2
else
Option.bind (f_X5_readLine μ) fun q2 =>
f_X6_readAll_73_j66_25 q2 l2
else
some (.inr μ)
def f_X6_readAll_73_j106 (μ : Mem) : Option Mem :=
some μ
def f_X6_readAll_73_j82 (μ : Mem) : Option Mem :=
Option.bind (f_X8_isOver μ) fun t1 =>
if t1 = true then
f_X6_readAll_73_j106 μ
else
Option.bind (f_X8_refuse μ (μ 1 3)) fun q2 =>
f_X6_readAll_73_j106 q2
def f_X6_readAll_73_l25 (μ : Mem) (l1 : Bool) (l2 : Int32) : Option Mem := Option.bind (loopN 10000 (fun z : (Bool × Int32 × Mem) => f_X6_readAll_73_b25 z.2.2 z.1 z.2.1) (l1, l2, μ)) fun t : Mem => f_X6_readAll_73_j82 t
def f_X6_readAll_73 (μ : Mem) : Option Mem :=
Option.bind (f_X8_openText μ) fun q1 =>
Option.bind (f_X8_isOver q1) fun t2 =>
f_X6_readAll_73_l25 q1 (if t2 = true then (false : Bool) else true) 0
def f_X11_law (μ : Mem) : Option ((Nat × Mem) ⊕ (Int32 × Mem)) :=
Option.bind (f_X4_clear μ 56) fun q1 =>
Option.bind (f_X6_readAll_73 q1) fun q2 =>
Option.bind (f_X8_isRight q2) fun t3 =>
if t3 = true then
Option.bind (f_X4_copyFrom (mset q2 56 0 (b2i true)) 48 56) fun q4 =>
Option.bind (f_X0_forget q4) fun q5 =>
some (.inr ((q5 48 1), q5))
else
some (.inl (1, q2))
def f_X11_fault (μ : Mem) : Option Int32 :=
some (μ 1 4)
def f_X11_needPerson (μ : Mem) (p1 : Int32) : Option ((Nat × Mem) ⊕ Mem) :=
Option.bind (f_X11_isOutside μ p1 0 ((μ 3 0) - 1)) fun t1 =>
if t1 = true then
some (.inl (2, μ))
else
some (.inr μ)
def f_X11_person (μ : Mem) (p1 : Int32) (p2 : Int32) : Option ((Nat × Mem) ⊕ (Int32 × Mem)) :=
Option.bind (f_X11_needPerson μ p1) fun q1 =>
Sum.elim (fun e9 => some (.inl e9)) (fun v2 => if p2 = 0 then
Option.bind (rd v2 4 6 p1) fun t3 =>
some (.inr (t3, v2))
else
if p2 = 1 then
Option.bind (rd v2 5 6 p1) fun t4 =>
some (.inr (t4, v2))
else
if p2 = 2 then
Option.bind (rd v2 6 6 p1) fun t5 =>
some (.inr (t5, v2))
else
if p2 = 3 then
Option.bind (rd v2 7 6 p1) fun t6 =>
some (.inr (t6, v2))
else
if p2 = 4 then
Option.bind (rd v2 8 6 p1) fun t7 =>
some (.inr (t7, v2))
else
if p2 = 5 then
Option.bind (f_X2_gaitOf v2 3 p1) fun t8 =>
some (.inr (t8, v2))
else
if p2 = 6 then
Option.bind (f_X2_heldBy v2 3 p1) fun t9 =>
some (.inr (t9, v2))
else
if p2 = 7 then
Option.bind (f_X2_owedBy v2 3 p1) fun t10 =>
some (.inr (t10, v2))
else
if p2 = 8 then
Option.bind (f_X2_dueTo v2 3 p1) fun t11 =>
some (.inr (t11, v2))
else
if p2 = 9 then
Option.bind (rd v2 4 6 p1) fun t12 =>
Option.bind (f_X2_dueTo v2 3 p1) fun t13 =>
Option.bind (f_X2_owedBy v2 3 p1) fun t14 =>
some (.inr (((t12 + t13) - t14), v2))
else
if p2 = 10 then
Option.bind (f_X2_shareOf v2 3 p1) fun t15 =>
some (.inr (t15, v2))
else
some (.inl (4, v2))) q1
def f_X11_needLace (μ : Mem) (p1 : Int32) : Option ((Nat × Mem) ⊕ Mem) :=
Option.bind (f_X11_isOutside μ p1 0 ((2 * (μ 3 0)) - 1)) fun t1 =>
if t1 = true then
some (.inl (2, μ))
else
some (.inr μ)
def f_X11_lace (μ : Mem) (p1 : Int32) (p2 : Int32) : Option ((Nat × Mem) ⊕ (Int32 × Mem)) :=
Option.bind (f_X11_needLace μ p1) fun q1 =>
Sum.elim (fun e9 => some (.inl e9)) (fun v2 => if p2 = 0 then
Option.bind (rd v2 9 12 p1) fun t3 =>
some (.inr (t3, v2))
else
if p2 = 1 then
Option.bind (rd v2 10 12 p1) fun t4 =>
some (.inr (t4, v2))
else
if p2 = 2 then
Option.bind (rd v2 11 12 p1) fun t5 =>
some (.inr (t5, v2))
else
if p2 = 3 then
Option.bind (rd v2 12 12 p1) fun t6 =>
some (.inr (t6, v2))
else
if p2 = 4 then
Option.bind (rd v2 13 12 p1) fun t7 =>
some (.inr (t7, v2))
else
if p2 = 5 then
Option.bind (rd v2 14 12 p1) fun t8 =>
some (.inr (t8, v2))
else
some (.inl (4, v2))) q1
def f_X11_needPlace (μ : Mem) (p1 : Int32) : Option ((Nat × Mem) ⊕ Mem) :=
Option.bind (f_X11_isOutside μ p1 0 19) fun t1 =>
if t1 = true then
some (.inl (2, μ))
else
some (.inr μ)
def f_X11_mud (μ : Mem) (p1 : Int32) : Option ((Nat × Mem) ⊕ (Int32 × Mem)) :=
Option.bind (f_X11_needPlace μ p1) fun q1 =>
Sum.elim (fun e9 => some (.inl e9)) (fun v2 => Option.bind (rd v2 15 20 p1) fun t3 =>
some (.inr (t3, v2))) q1
def f_X11_walks (μ : Mem) (p1 : Int32) (p2 : Int32) : Option ((Nat × Mem) ⊕ (Int32 × Mem)) :=
Option.bind (f_X11_needPerson μ p1) fun q1 =>
Sum.elim (fun e9 => some (.inl e9)) (fun v2 => if p2 = 0 then
Option.bind (f_X2_walkOf v2 3 p1 48) fun q3 =>
some (.inr (q3.1, q3.2))
else
if p2 = 1 then
Option.bind (f_X2_fallOf v2 3 p1 48) fun q4 =>
some (.inr (q4.1, q4.2))
else
some (.inl (4, v2))) q1
def f_X11_grows_j32 (μ : Mem) (k0 : Int32) : Option ((Nat × Mem) ⊕ (Int32 × Mem)) :=
some (.inr (k0, μ))
def f_X11_grows (μ : Mem) (p1 : Int32) : Option ((Nat × Mem) ⊕ (Int32 × Mem)) :=
Option.bind (f_X11_needLace μ p1) fun q1 =>
Sum.elim (fun e9 => some (.inl e9)) (fun v2 => Option.bind (f_X2_isPledged v2 3 p1) fun t3 =>
if t3 = true then
Option.bind (f_X2_growthOf v2 3 p1 48) fun q4 =>
f_X11_grows_j32 q4.2 q4.1
else
f_X11_grows_j32 v2 0) q1
def f_X11_lend_j52 (μ : Mem) : Option ((Nat × Mem) ⊕ (Int32 × Mem)) :=
some (.inl (1, μ))
def f_X11_lend_j87 (μ : Mem) : Option ((Nat × Mem) ⊕ (Int32 × Mem)) :=
some (.inl (3, μ))
def f_X11_lend (μ : Mem) (p1 : Int32) (p2 : Int32) (p3 : Int32) (p4 : Int32) (p5 : Int32) : Option ((Nat × Mem) ⊕ (Int32 × Mem)) :=
Option.bind (f_X11_needPerson μ p1) fun q1 =>
Sum.elim (fun e9 => some (.inl e9)) (fun v2 => Option.bind (f_X11_needLace v2 p2) fun q3 =>
Sum.elim (fun e9 => some (.inl e9)) (fun v4 => Option.bind (f_X11_ownerOf v4 p2) fun t5 =>
if p1 = t5 then
f_X11_lend_j52 v4
else
Option.bind (f_X11_isOutside v4 p3 1 999) fun t6 =>
if t6 = true then
f_X11_lend_j52 v4
else
Option.bind (f_X11_isOutside v4 p4 0 9) fun t7 =>
if t7 = true then
f_X11_lend_j52 v4
else
Option.bind (f_X11_isOutside v4 p5 1 9999) fun t8 =>
if t8 = true then
f_X11_lend_j52 v4
else
Option.bind (rd v4 9 12 p2) fun t9 =>
if t9 = 0 then
Option.bind (rd v4 4 6 p1) fun t10 =>
if p3 ≤ t10 then
Option.bind (f_X0_remember v4 3) fun q11 =>
Option.bind (rd q11 4 6 p1) fun t12 =>
Option.bind (wr q11 4 6 p1 (t12 - p3)) fun μ13 =>
Option.bind (f_X11_ownerOf μ13 p2) fun t14 =>
Option.bind (f_X2_earn μ13 3 t14 p3) fun q15 =>
Option.bind (f_X2_pledge q15 3 p2 p1 p3 p4 p5 (-1)) fun q16 =>
Option.bind (f_X1_add q16 16 (q16 3 2) p2 0 p3) fun q17 =>
Option.bind (rd q17 4 6 p1) fun t18 =>
some (.inr (t18, q17))
else
f_X11_lend_j87 v4
else
f_X11_lend_j87 v4) q3) q1
def f_X11_pay_j42 (μ : Mem) : Option ((Nat × Mem) ⊕ (Int32 × Mem)) :=
some (.inl (3, μ))
def f_X11_pay (μ : Mem) (p1 : Int32) : Option ((Nat × Mem) ⊕ (Int32 × Mem)) :=
Option.bind (f_X11_needLace μ p1) fun q1 =>
Sum.elim (fun e9 => some (.inl e9)) (fun v2 => Option.bind (f_X11_ownerOf v2 p1) fun t3 =>
Option.bind (f_X2_isPledged v2 3 p1) fun t4 =>
if t4 = true then
Option.bind (rd v2 4 6 t3) fun t5 =>
Option.bind (rd v2 11 12 p1) fun t6 =>
if t6 ≤ t5 then
Option.bind (f_X0_remember v2 3) fun q7 =>
Option.bind (rd q7 11 12 p1) fun t8 =>
Option.bind (f_X2_payOff q7 3 p1 t3) fun q9 =>
some (.inr (t8, q9))
else
f_X11_pay_j42 v2
else
f_X11_pay_j42 v2) q1
def f_X11_needPledged (μ : Mem) (p1 : Int32) : Option ((Nat × Mem) ⊕ Mem) :=
Option.bind (f_X2_isPledged μ 3 p1) fun t1 =>
if t1 = true then
some (.inr μ)
else
some (.inl (3, μ))
def f_X11_surety_j47 (μ : Mem) (l1 : Int32) (l2 : Int32) : Option ((Nat × Mem) ⊕ (Int32 × Mem)) :=
Option.bind (f_X11_needPledged μ l1) fun q1 =>
Sum.elim (fun e9 => some (.inl e9)) (fun v2 => Option.bind (f_X0_remember v2 3) fun q3 =>
Option.bind (rd q3 14 12 l1) fun t4 =>
Option.bind (wr q3 14 12 l1 l2) fun μ5 =>
some (.inr (t4, μ5))) q1
def f_X11_surety_j36 (μ : Mem) : Option ((Nat × Mem) ⊕ (Int32 × Mem)) :=
some (.inl (1, μ))
def f_X11_surety (μ : Mem) (p1 : Int32) (p2 : Int32) : Option ((Nat × Mem) ⊕ (Int32 × Mem)) :=
Option.bind (f_X11_needLace μ p1) fun q1 =>
Sum.elim (fun e9 => some (.inl e9)) (fun v2 => if p2 = (-1) then
f_X11_surety_j47 v2 p1 p2
else
Option.bind (f_X11_needPerson v2 p2) fun q3 =>
Sum.elim (fun e9 => some (.inl e9)) (fun v4 => Option.bind (f_X11_ownerOf v4 p1) fun t5 =>
if p2 = t5 then
f_X11_surety_j36 v4
else
Option.bind (rd v4 10 12 p1) fun t6 =>
if p2 = t6 then
f_X11_surety_j36 v4
else
f_X11_surety_j47 v4 p1 p2) q3) q1
def f_X11_give_j44 (μ : Mem) : Option ((Nat × Mem) ⊕ (Int32 × Mem)) :=
some (.inl (1, μ))
def f_X11_give (μ : Mem) (p1 : Int32) (p2 : Int32) : Option ((Nat × Mem) ⊕ (Int32 × Mem)) :=
Option.bind (f_X11_needLace μ p1) fun q1 =>
Sum.elim (fun e9 => some (.inl e9)) (fun v2 => Option.bind (f_X11_needPerson v2 p2) fun q3 =>
Sum.elim (fun e9 => some (.inl e9)) (fun v4 => Option.bind (f_X11_ownerOf v4 p1) fun t5 =>
if p2 = t5 then
f_X11_give_j44 v4
else
Option.bind (rd v4 10 12 p1) fun t6 =>
if p2 = t6 then
f_X11_give_j44 v4
else
Option.bind (rd v4 14 12 p1) fun t7 =>
if p2 = t7 then
f_X11_give_j44 v4
else
Option.bind (f_X11_needPledged v4 p1) fun q8 =>
Sum.elim (fun e9 => some (.inl e9)) (fun v9 => Option.bind (rd v9 4 6 p2) fun t10 =>
Option.bind (rd v9 11 12 p1) fun t11 =>
if t11 ≤ t10 then
Option.bind (f_X0_remember v9 3) fun q12 =>
Option.bind (rd q12 10 12 p1) fun t13 =>
Option.bind (rd q12 4 6 p2) fun t14 =>
Option.bind (rd q12 11 12 p1) fun t15 =>
Option.bind (wr q12 4 6 p2 (t14 - t15)) fun μ16 =>
Option.bind (rd μ16 11 12 p1) fun t17 =>
Option.bind (f_X2_earn μ16 3 t13 t17) fun q18 =>
Option.bind (wr q18 10 12 p1 p2) fun μ19 =>
some (.inr (t13, μ19))
else
some (.inl (3, v9))) q8) q3) q1
def f_X11_goal (μ : Mem) (p1 : Int32) (p2 : Int32) : Option ((Nat × Mem) ⊕ (Int32 × Mem)) :=
Option.bind (f_X11_needPerson μ p1) fun q1 =>
Sum.elim (fun e9 => some (.inl e9)) (fun v2 => Option.bind (f_X11_needPlace v2 p2) fun q3 =>
Sum.elim (fun e9 => some (.inl e9)) (fun v4 => Option.bind (f_X0_remember v4 3) fun q5 =>
Option.bind (rd q5 7 6 p1) fun t6 =>
Option.bind (wr q5 7 6 p1 p2) fun μ7 =>
some (.inr (t6, μ7))) q3) q1
def f_X11_rest (μ : Mem) (p1 : Int32) : Option ((Nat × Mem) ⊕ (Int32 × Mem)) :=
Option.bind (f_X11_needPerson μ p1) fun q1 =>
Sum.elim (fun e9 => some (.inl e9)) (fun v2 => Option.bind (f_X0_remember v2 3) fun q3 =>
Option.bind (rd q3 8 6 p1) fun t4 =>
Option.bind (wr q3 8 6 p1 0) fun μ5 =>
some (.inr (t4, μ5))) q1
def f_X11_days (μ : Mem) (p1 : Int32) : Option ((Nat × Mem) ⊕ (Int32 × Mem)) :=
Option.bind (f_X11_isOutside μ p1 1 60) fun t1 =>
if t1 = true then
some (.inl (1, μ))
else
Option.bind (f_X0_remember μ 3) fun q2 =>
Option.bind (f_X2_liveOn q2 3 p1 48 true) fun q3 =>
some (.inr (q3.1, q3.2))
def f_X11_solvent_b4 (μ : Mem) (l1 : Int32) (l2 : Int32) : Option ((Int32 × Int32) ⊕ Int32) :=
if (μ 3 0) ≤ l2 then
some (.inr l1)
else
Option.bind (rd μ 4 6 l2) fun t1 =>
Option.bind (f_X2_owedBy μ 3 l2) fun t2 =>
some (.inl ((if t1 < t2 then (l1 : Int32) else (l1 ||| (1 <<< (l2 &&& 31)))), (l2 + 1)))
def f_X11_solvent_j47 (μ : Mem) (l1 : Int32) : Option Int32 :=
some l1
def f_X11_solvent_l4 (μ : Mem) (l1 : Int32) (l2 : Int32) : Option Int32 := Option.bind (loopN 10000 (fun z : (Int32 × Int32) => f_X11_solvent_b4 μ z.1 z.2) (l1, l2)) fun t : Int32 => f_X11_solvent_j47 μ t
def f_X11_solvent (μ : Mem) : Option Int32 :=
f_X11_solvent_l4 μ 0 0
def f_X11_daysTo_b23 (μ : Mem) (l1 : Int32) (l2 : Int32) (l3 : Int32) : Option ((Int32 × Mem) ⊕ (Mem ⊕ (Int32 × Mem))) :=
if 60 < l3 then
some (.inr (.inl μ))
else
Option.bind (rd μ 21 6 l1) fun t1 =>
if t1 = l2 then
some (.inr (.inr (l3, μ)))
else
Option.bind (f_X2_liveOn μ 18 1 48 false) fun q2 =>
some (.inl ((l3 + 1), q2.2))
def f_X11_daysTo_j64 (μ : Mem) : Option (Int32 × Mem) :=
some ((-1), μ)
def f_X11_daysTo_l23 (μ : Mem) (l1 : Int32) (l2 : Int32) (l3 : Int32) : Option (Int32 × Mem) := Option.bind (loopN 10000 (fun z : (Int32 × Mem) => f_X11_daysTo_b23 z.2 l1 l2 z.1) (l3, μ)) fun t : (Mem ⊕ (Int32 × Mem)) => Sum.elim (fun e => f_X11_daysTo_j64 e) (fun x => some x) t
def f_X11_daysTo (μ : Mem) (p1 : Int32) (p2 : Int32) : Option (Int32 × Mem) :=
Option.bind (f_X2_copyFrom μ 18 3) fun q1 =>
Option.bind (wr q1 22 6 p1 p2) fun μ2 =>
f_X11_daysTo_l23 μ2 p1 p2 0
def f_X11_comes (μ : Mem) (p1 : Int32) (p2 : Int32) : Option ((Nat × Mem) ⊕ (Int32 × Mem)) :=
Option.bind (f_X11_needPerson μ p1) fun q1 =>
Sum.elim (fun e9 => some (.inl e9)) (fun v2 => Option.bind (f_X11_needPlace v2 p2) fun q3 =>
Sum.elim (fun e9 => some (.inl e9)) (fun v4 => Option.bind (f_X11_daysTo v4 p1 p2) fun q5 =>
some (.inr (q5.1, q5.2))) q3) q1
def f_X11_soonest_j52_13 (μ : Mem) (l1 : Int32) (l2 : Int32) (l3 : Int32) (l4 : Int32) : Option ((Int32 × Int32 × Int32 × Mem) ⊕ (Int32 × Mem)) :=
some (.inl (l2, l3, (l4 + 1), μ))
def f_X11_soonest_b13 (μ : Mem) (l1 : Int32) (l2 : Int32) (l3 : Int32) (l4 : Int32) : Option ((Int32 × Int32 × Int32 × Mem) ⊕ (Int32 × Mem)) :=
if (μ 3 0) ≤ l4 then
some (.inr (l2, μ))
else
Option.bind (f_X11_daysTo μ l4 l1) fun q1 =>
if q1.1 = (-1) then
f_X11_soonest_j52_13 q1.2 l1 l2 l3 l4
else
if l3 ≤ q1.1 then
f_X11_soonest_j52_13 q1.2 l1 l2 l3 l4
else
f_X11_soonest_j52_13 q1.2 l1 l4 q1.1 l4
def f_X11_soonest_j58 (μ : Mem) (l2 : Int32) : Option ((Nat × Mem) ⊕ (Int32 × Mem)) :=
some (.inr (l2, μ))
def f_X11_soonest_l13 (μ : Mem) (l1 : Int32) (l2 : Int32) (l3 : Int32) (l4 : Int32) : Option ((Nat × Mem) ⊕ (Int32 × Mem)) := Option.bind (loopN 10000 (fun z : (Int32 × Int32 × Int32 × Mem) => f_X11_soonest_b13 z.2.2.2 l1 z.1 z.2.1 z.2.2.1) (l2, l3, l4, μ)) fun t : (Int32 × Mem) => f_X11_soonest_j58 t.2 t.1
def f_X11_soonest (μ : Mem) (p1 : Int32) : Option ((Nat × Mem) ⊕ (Int32 × Mem)) :=
Option.bind (f_X11_needPlace μ p1) fun q1 =>
Sum.elim (fun e9 => some (.inl e9)) (fun v2 => f_X11_soonest_l13 v2 p1 (-1) 61 0) q1
def f_X11_tellsPlaces_b15 (μ : Mem) (l1 : Int32) (l2 : Int32) : Option (Int32 ⊕ (Unit ⊕ Bool)) :=
if l1 ≤ l2 then
some (.inr (.inl ()))
else
Option.bind (rd μ 2 400 l2) fun t1 =>
if t1 < 20 then
some (.inl (l2 + 1))
else
some (.inr (.inr false))
def f_X11_tellsPlaces_j42 (μ : Mem) : Option Bool :=
some true
def f_X11_tellsPlaces_l15 (μ : Mem) (l1 : Int32) (l2 : Int32) : Option Bool := Option.bind (loopN 10000 (fun z : Int32 => f_X11_tellsPlaces_b15 μ l1 z) l2) fun t : (Unit ⊕ Bool) => Sum.elim (fun e => f_X11_tellsPlaces_j42 μ) (fun x => some x) t
def f_X11_tellsPlaces (μ : Mem) (p1 : Int32) : Option Bool :=
if p1 = (μ 3 0) then
f_X11_tellsPlaces_l15 μ p1 0
else
some false
def f_X11_carry_b53 (μ : Mem) (l1 : Int32) (l3 : Int32) (l4 : Int32) : Option ((Int32 × Mem) ⊕ Mem) :=
if (μ 3 0) ≤ l4 then
some (.inr μ)
else
Option.bind (rd μ 2 400 l4) fun t1 =>
Option.bind (f_X11_daysTo μ l3 t1) fun q2 =>
Option.bind (f_X9_tell q2.2 l3 l4 q2.1) fun q3 =>
some (.inl ((l4 + 1), q3))
def f_X11_carry_j96_39 (μ : Mem) (l1 : Int32) (l3 : Int32) : Option ((Int32 × Mem) ⊕ Mem) :=
some (.inl ((l3 + 1), μ))
def f_X11_carry_l53 (μ : Mem) (l1 : Int32) (l3 : Int32) (l4 : Int32) : Option ((Int32 × Mem) ⊕ Mem) := Option.bind (loopN 10000 (fun z : (Int32 × Mem) => f_X11_carry_b53 z.2 l1 l3 z.1) (l4, μ)) fun t : Mem => f_X11_carry_j96_39 t l1 l3
def f_X11_carry_b39 (μ : Mem) (l1 : Int32) (l3 : Int32) : Option ((Int32 × Mem) ⊕ Mem) :=
if (μ 3 0) ≤ l3 then
some (.inr μ)
else
f_X11_carry_l53 μ l1 l3 0
def f_X11_carry_j139 (μ : Mem) (k0 : Int32) : Option ((Nat × Mem) ⊕ (Int32 × Mem)) :=
some (.inr (k0, μ))
def f_X11_carry_j102 (μ : Mem) (l1 : Int32) : Option ((Nat × Mem) ⊕ (Int32 × Mem)) :=
Option.bind (f_X9_weigh μ (μ 3 0)) fun q1 =>
if l1 = (-1) then
Option.bind (f_X9_leastOfAll q1) fun t3 =>
f_X11_carry_j139 q1 t3
else
Option.bind (f_X9_partOf q1 l1) fun t2 =>
f_X11_carry_j139 q1 t2
def f_X11_carry_l39 (μ : Mem) (l1 : Int32) (l3 : Int32) : Option ((Nat × Mem) ⊕ (Int32 × Mem)) := Option.bind (loopN 10000 (fun z : (Int32 × Mem) => f_X11_carry_b39 z.2 l1 z.1) (l3, μ)) fun t : Mem => f_X11_carry_j102 t l1
def f_X11_carry_j18 (μ : Mem) (l1 : Int32) (l2 : Int32) : Option ((Nat × Mem) ⊕ (Int32 × Mem)) :=
Option.bind (f_X11_tellsPlaces μ l2) fun t1 =>
if t1 = true then
f_X11_carry_l39 μ l1 0
else
some (.inl (1, μ))
def f_X11_carry (μ : Mem) (p1 : Int32) : Option ((Nat × Mem) ⊕ (Int32 × Mem)) :=
Option.bind (f_X8_useUp μ) fun q1 =>
if p1 = (-1) then
f_X11_carry_j18 q1.2 p1 q1.1
else
Option.bind (f_X11_needPerson q1.2 p1) fun q2 =>
Sum.elim (fun e9 => some (.inl e9)) (fun v3 => f_X11_carry_j18 v3 p1 q1.1) q2
def f_X11_needAhead (μ : Mem) (p1 : Int32) : Option ((Nat × Mem) ⊕ Mem) :=
Option.bind (f_X11_isOutside μ p1 0 60) fun t1 =>
if t1 = true then
some (.inl (1, μ))
else
some (.inr μ)
def f_X11_ahead_j60 (μ : Mem) (k0 : Int32) : Option ((Nat × Mem) ⊕ (Int32 × Mem)) :=
some (.inr (k0, μ))
def f_X11_ahead (μ : Mem) (p1 : Int32) (p2 : Int32) (p3 : Bool) : Option ((Nat × Mem) ⊕ (Int32 × Mem)) :=
Option.bind (f_X11_needPerson μ p1) fun q1 =>
Sum.elim (fun e9 => some (.inl e9)) (fun v2 => Option.bind (f_X11_needAhead v2 p2) fun q3 =>
Sum.elim (fun e9 => some (.inl e9)) (fun v4 => Option.bind (f_X2_copyFrom v4 18 3) fun q5 =>
Option.bind (f_X2_liveOn q5 18 p2 48 false) fun q6 =>
if p3 = true then
Option.bind (rd q6.2 19 6 p1) fun t8 =>
f_X11_ahead_j60 q6.2 t8
else
Option.bind (rd q6.2 21 6 p1) fun t7 =>
f_X11_ahead_j60 q6.2 t7) q3) q1
def f_X11_rings (μ : Mem) : Option (Int32 × Mem) :=
Option.bind (f_X7_seek μ 3) fun q1 =>
some ((q1 256 2), q1)
def f_X11_untie_j35 (μ : Mem) (k0 : Int32) : Option (Int32 × Mem) :=
some (k0, μ)
def f_X11_untie (μ : Mem) (p1 : Bool) : Option (Int32 × Mem) :=
Option.bind (f_X7_seek μ 3) fun q1 =>
if p1 = true then
Option.bind (f_J6_bitCount_0f7a4 q1 (q1 256 3)) fun t2 =>
f_X11_untie_j35 q1 t2
else
f_X11_untie_j35 q1 (q1 256 3)
def f_X11_owes (μ : Mem) (p1 : Int32) (p2 : Int32) : Option ((Nat × Mem) ⊕ (Bool × Mem)) :=
Option.bind (f_X11_needPerson μ p1) fun q1 =>
Sum.elim (fun e9 => some (.inl e9)) (fun v2 => Option.bind (f_X11_needPerson v2 p2) fun q3 =>
Sum.elim (fun e9 => some (.inl e9)) (fun v4 => if p1 = p2 then
some (.inl (1, v4))
else
Option.bind (f_X2_creditorsOf v4 3 p1) fun t5 =>
Option.bind (f_X11_hasBit v4 t5 p2) fun t6 =>
some (.inr (t6, v4))) q3) q1
def f_X11_leads (μ : Mem) (p1 : Int32) : Option ((Nat × Mem) ⊕ (Int32 × Mem)) :=
Option.bind (f_X11_needPerson μ p1) fun q1 =>
Sum.elim (fun e9 => some (.inl e9)) (fun v2 => Option.bind (f_X2_creditorsOf v2 3 p1) fun t3 =>
some (.inr (t3, v2))) q1
def f_X11_call_b10 (μ : Mem) (l1 : Int32) (l2 : Bool) (l3 : Int32) (l4 : Int32) : Option ((Int32 × Int32) ⊕ Int32) :=
if (μ 3 0) ≤ l4 then
some (.inr l3)
else
Option.bind (f_X2_callable μ 3 l1 l4) fun t1 =>
some (.inl ((l3 ||| t1), (l4 + 1)))
def f_X11_call_j57 (μ : Mem) (k0 : Int32) : Option ((Nat × Mem) ⊕ (Int32 × Mem)) :=
some (.inr (k0, μ))
def f_X11_call_j41 (μ : Mem) (l2 : Bool) (l3 : Int32) : Option ((Nat × Mem) ⊕ (Int32 × Mem)) :=
if l2 = true then
Option.bind (f_X2_amountOf μ 3 l3) fun t1 =>
f_X11_call_j57 μ t1
else
f_X11_call_j57 μ l3
def f_X11_call_l10 (μ : Mem) (l1 : Int32) (l2 : Bool) (l3 : Int32) (l4 : Int32) : Option ((Nat × Mem) ⊕ (Int32 × Mem)) := Option.bind (loopN 10000 (fun z : (Int32 × Int32) => f_X11_call_b10 μ l1 l2 z.1 z.2) (l3, l4)) fun t : Int32 => f_X11_call_j41 μ l2 t
def f_X11_call (μ : Mem) (p1 : Int32) (p2 : Bool) : Option ((Nat × Mem) ⊕ (Int32 × Mem)) :=
Option.bind (f_X11_needPerson μ p1) fun q1 =>
Sum.elim (fun e9 => some (.inl e9)) (fun v2 => f_X11_call_l10 v2 p1 p2 0 0) q1
def f_X11_breaks (μ : Mem) (p1 : Int32) : Option ((Nat × Mem) ⊕ (Int32 × Mem)) :=
Option.bind (f_X11_needAhead μ p1) fun q1 =>
Sum.elim (fun e9 => some (.inl e9)) (fun v2 => Option.bind (f_X2_copyFrom v2 18 3) fun q3 =>
Option.bind (f_X2_liveOn q3 18 p1 48 false) fun q4 =>
Option.bind (f_X2_lacesThatAre q4.2 18 2) fun t5 =>
Option.bind (f_X2_lacesThatAre q4.2 3 2) fun t6 =>
some (.inr ((t5 &&& (t6 ^^^ (-1))), q4.2))) q1
def f_X11_isSpared_b39 (μ : Mem) (l1 : Int32) (l3 : Int32) : Option ((Int32 × Mem) ⊕ Mem) :=
if 60 ≤ l3 then
some (.inr μ)
else
Option.bind (f_X2_isPledged μ 18 l1) fun t1 =>
if t1 = true then
Option.bind (f_X2_liveOn μ 18 1 48 false) fun q2 =>
some (.inl ((l3 + 1), q2.2))
else
some (.inr μ)
def f_X11_isSpared_j76 (μ : Mem) (l1 : Int32) : Option (Bool × Mem) :=
Option.bind (rd μ 24 12 l1) fun t1 =>
some ((if t1 = 2 then (false : Bool) else true), μ)
def f_X11_isSpared_l39 (μ : Mem) (l1 : Int32) (l3 : Int32) : Option (Bool × Mem) := Option.bind (loopN 10000 (fun z : (Int32 × Mem) => f_X11_isSpared_b39 z.2 l1 z.1) (l3, μ)) fun t : Mem => f_X11_isSpared_j76 t l1
def f_X11_isSpared (μ : Mem) (p1 : Int32) (p2 : Int32) : Option (Bool × Mem) :=
Option.bind (f_X2_copyFrom μ 18 3) fun q1 =>
Option.bind (rd q1 13 12 p1) fun t2 =>
Option.bind (f_J9_min_7cf53 q1 9999 (t2 + p2)) fun t3 =>
Option.bind (wr q1 28 12 p1 t3) fun μ4 =>
f_X11_isSpared_l39 μ4 p1 0
def f_X11_mercy_b20 (μ : Mem) (l1 : Int32) (l2 : Int32) : Option ((Int32 × Mem) ⊕ (Mem ⊕ ((Nat × Mem) ⊕ (Int32 × Mem)))) :=
if 30 < l2 then
some (.inr (.inl μ))
else
Option.bind (f_X11_isSpared μ l1 l2) fun q1 =>
if q1.1 = true then
some (.inr (.inr (.inr (l2, q1.2))))
else
some (.inl ((l2 + 1), q1.2))
def f_X11_mercy_j43 (μ : Mem) : Option ((Nat × Mem) ⊕ (Int32 × Mem)) :=
some (.inr ((-1), μ))
def f_X11_mercy_l20 (μ : Mem) (l1 : Int32) (l2 : Int32) : Option ((Nat × Mem) ⊕ (Int32 × Mem)) := Option.bind (loopN 10000 (fun z : (Int32 × Mem) => f_X11_mercy_b20 z.2 l1 z.1) (l2, μ)) fun t : (Mem ⊕ ((Nat × Mem) ⊕ (Int32 × Mem))) => Sum.elim (fun e => f_X11_mercy_j43 e) (fun x => some x) t
def f_X11_mercy (μ : Mem) (p1 : Int32) : Option ((Nat × Mem) ⊕ (Int32 × Mem)) :=
Option.bind (f_X11_needLace μ p1) fun q1 =>
Sum.elim (fun e9 => some (.inl e9)) (fun v2 => Option.bind (f_X2_isPledged v2 3 p1) fun t3 =>
if t3 = true then
f_X11_mercy_l20 v2 p1 0
else
some (.inr ((-1), v2))) q1
def f_X11_hangs (μ : Mem) (p1 : Int32) : Option ((Nat × Mem) ⊕ (Int32 × Mem)) :=
Option.bind (f_X11_needPerson μ p1) fun q1 =>
Sum.elim (fun e9 => some (.inl e9)) (fun v2 => Option.bind (f_X2_hangingOn v2 3 p1) fun t3 =>
some (.inr (t3, v2))) q1
def f_X11_trust_j45_6 (μ : Mem) (l1 : Int32) (l2 : Int32) (l3 : Int32) : Option ((Int32 × Int32 × Int32) ⊕ Int32) :=
some (.inl (l1, l2, (l3 + 1)))
def f_X11_trust_b6 (μ : Mem) (l1 : Int32) (l2 : Int32) (l3 : Int32) : Option ((Int32 × Int32 × Int32) ⊕ Int32) :=
if (μ 3 0) ≤ l3 then
some (.inr l1)
else
Option.bind (f_X2_hangingOn μ 3 l3) fun t1 =>
Option.bind (f_X2_amountOf μ 3 t1) fun t2 =>
if t2 ≤ l2 then
f_X11_trust_j45_6 μ l1 l2 l3
else
f_X11_trust_j45_6 μ l3 t2 l3
def f_X11_trust_j51 (μ : Mem) (l1 : Int32) : Option Int32 :=
some l1
def f_X11_trust_l6 (μ : Mem) (l1 : Int32) (l2 : Int32) (l3 : Int32) : Option Int32 := Option.bind (loopN 10000 (fun z : (Int32 × Int32 × Int32) => f_X11_trust_b6 μ z.1 z.2.1 z.2.2) (l1, l2, l3)) fun t : Int32 => f_X11_trust_j51 μ t
def f_X11_trust (μ : Mem) : Option Int32 :=
f_X11_trust_l6 μ (-1) 0 0
def f_X11_needed_j42_14 (μ : Mem) (l1 : Int32) (l2 : Int32) : Option ((Int32 × Int32) ⊕ Int32) :=
some (.inl (l1, (l2 + (-1))))
def f_X11_needed_b14 (μ : Mem) (l1 : Int32) (l2 : Int32) : Option ((Int32 × Int32) ⊕ Int32) :=
if l2 < 0 then
some (.inr l1)
else
Option.bind (f_J6_bitCount_0f7a4 μ l2) fun t1 =>
Option.bind (f_J6_bitCount_0f7a4 μ l1) fun t2 =>
if t2 < t1 then
f_X11_needed_j42_14 μ l1 l2
else
Option.bind (f_X2_isInEachPledge μ 3 l2) fun t3 =>
some (.inl ((if t3 = true then (l2 : Int32) else l1), (l2 + (-1))))
def f_X11_needed_j48 (μ : Mem) (l1 : Int32) : Option Int32 :=
some l1
def f_X11_needed_l14 (μ : Mem) (l1 : Int32) (l2 : Int32) : Option Int32 := Option.bind (loopN 10000 (fun z : (Int32 × Int32) => f_X11_needed_b14 μ z.1 z.2) (l1, l2)) fun t : Int32 => f_X11_needed_j48 μ t
def f_X11_needed (μ : Mem) : Option Int32 :=
f_X11_needed_l14 μ ((1 <<< ((μ 3 0) &&& 31)) - 1) ((1 <<< ((μ 3 0) &&& 31)) - 1)
def f_X11_needWearers (μ : Mem) (p1 : Int32) : Option ((Nat × Mem) ⊕ Mem) :=
Option.bind (f_X10_areTold μ p1 (μ 3 0)) fun t1 =>
if t1 = true then
Option.bind (f_X10_seek μ p1 (μ 3 0)) fun q2 =>
some (.inr q2)
else
some (.inl (1, μ))
def f_X11_wear (μ : Mem) (p1 : Bool) : Option ((Nat × Mem) ⊕ (Int32 × Mem)) :=
Option.bind (f_X8_useUp μ) fun q1 =>
Option.bind (f_X11_needWearers q1.2 q1.1) fun q2 =>
Sum.elim (fun e9 => some (.inl e9)) (fun v3 => some (.inr ((if p1 = true then ((v3 262 4) : Int32) else (v3 262 3)), v3))) q2
def f_X11_look (μ : Mem) : Option ((Nat × Mem) ⊕ (Int32 × Mem)) :=
Option.bind (f_X8_useUp μ) fun q1 =>
Option.bind (f_X11_needWearers q1.2 q1.1) fun q2 =>
Sum.elim (fun e9 => some (.inl e9)) (fun v3 => Option.bind (f_X10_parting v3) fun t4 =>
some (.inr (t4, v3))) q2
def f_X11_race_j65_23 (μ : Mem) (l1 : Int32) (l2 : Int32) (l3 : Int32) (l4 : Int32) : Option ((Int32 × Int32 × Mem) ⊕ (Int32 × Mem)) :=
some (.inl (l3, (l4 + 1), μ))
def f_X11_race_b23 (μ : Mem) (l1 : Int32) (l2 : Int32) (l3 : Int32) (l4 : Int32) : Option ((Int32 × Int32 × Mem) ⊕ (Int32 × Mem)) :=
if (μ 3 0) ≤ l4 then
some (.inr (l3, μ))
else
if l4 = l1 then
f_X11_race_j65_23 μ l1 l2 l3 l4
else
Option.bind (f_X2_walkOf μ 3 l4 48) fun q1 =>
some (.inl ((if q1.1 = l2 then ((l3 ||| (1 <<< (l4 &&& 31))) : Int32) else l3), (l4 + 1), q1.2))
def f_X11_race_j71 (μ : Mem) (l3 : Int32) : Option ((Nat × Mem) ⊕ (Int32 × Mem)) :=
some (.inr (l3, μ))
def f_X11_race_l23 (μ : Mem) (l1 : Int32) (l2 : Int32) (l3 : Int32) (l4 : Int32) : Option ((Nat × Mem) ⊕ (Int32 × Mem)) := Option.bind (loopN 10000 (fun z : (Int32 × Int32 × Mem) => f_X11_race_b23 z.2.2 l1 l2 z.1 z.2.1) (l3, l4, μ)) fun t : (Int32 × Mem) => f_X11_race_j71 t.2 t.1
def f_X11_race (μ : Mem) (p1 : Int32) : Option ((Nat × Mem) ⊕ (Int32 × Mem)) :=
Option.bind (f_X11_needPerson μ p1) fun q1 =>
Sum.elim (fun e9 => some (.inl e9)) (fun v2 => Option.bind (f_X2_walkOf v2 3 p1 48) fun q3 =>
f_X11_race_l23 q3.2 p1 q3.1 0 0) q1
def f_X11_pairs_b6 (μ : Mem) (l1 : Int32) (l2 : Int32) (l3 : Int32) : Option ((Int32 × Int32 × Int32 × Mem) ⊕ (Int32 × Mem)) :=
if (μ 3 0) ≤ l3 then
some (.inr (l1, μ))
else
Option.bind (f_X2_walkOf μ 3 l3 48) fun q1 =>
some (.inl ((if (l2 &&& (1 <<< (q1.1 &&& 31))) = 0 then (l1 : Int32) else (l1 + 1)), (l2 ^^^ (1 <<< (q1.1 &&& 31))), (l3 + 1), q1.2))
def f_X11_pairs_j54 (μ : Mem) (l1 : Int32) : Option (Int32 × Mem) :=
some (l1, μ)
def f_X11_pairs_l6 (μ : Mem) (l1 : Int32) (l2 : Int32) (l3 : Int32) : Option (Int32 × Mem) := Option.bind (loopN 10000 (fun z : (Int32 × Int32 × Int32 × Mem) => f_X11_pairs_b6 z.2.2.2 z.1 z.2.1 z.2.2.1) (l1, l2, l3, μ)) fun t : (Int32 × Mem) => f_X11_pairs_j54 t.2 t.1
def f_X11_pairs (μ : Mem) : Option (Int32 × Mem) :=
f_X11_pairs_l6 μ 0 0 0
def f_X11_lends_j81_36 (μ : Mem) (l1 : Int32) (l2 : Int32) (l3 : Int32) (l4 : Int32) : Option ((Int32 × Int32) ⊕ Int32) :=
some (.inl (l3, (l4 + 1)))
def f_X11_lends_b36 (μ : Mem) (l1 : Int32) (l2 : Int32) (l3 : Int32) (l4 : Int32) : Option ((Int32 × Int32) ⊕ Int32) :=
if (μ 3 0) ≤ l4 then
some (.inr l3)
else
Option.bind (rd μ 4 6 l4) fun t1 =>
if t1 < l1 then
f_X11_lends_j81_36 μ l1 l2 l3 l4
else
Option.bind (f_X11_lacesOf μ l4) fun t2 =>
some (.inl ((if (l2 &&& (t2 ^^^ (-1))) = 0 then (l3 : Int32) else (l3 ||| (1 <<< (l4 &&& 31)))), (l4 + 1)))
def f_X11_lends_j87 (μ : Mem) (l3 : Int32) : Option ((Nat × Mem) ⊕ (Int32 × Mem)) :=
some (.inr (l3, μ))
def f_X11_lends_l36 (μ : Mem) (l1 : Int32) (l2 : Int32) (l3 : Int32) (l4 : Int32) : Option ((Nat × Mem) ⊕ (Int32 × Mem)) := Option.bind (loopN 10000 (fun z : (Int32 × Int32) => f_X11_lends_b36 μ l1 l2 z.1 z.2) (l3, l4)) fun t : Int32 => f_X11_lends_j87 μ t
def f_X11_lends (μ : Mem) (p1 : Int32) : Option ((Nat × Mem) ⊕ (Int32 × Mem)) :=
Option.bind (f_X11_isOutside μ p1 1 999) fun t1 =>
if t1 = true then
some (.inl (1, μ))
else
Option.bind (f_X2_lacesThatAre μ 3 0) fun t2 =>
f_X11_lends_l36 μ p1 t2 0 0
def f_X11_loose_j59_11 (μ : Mem) (l1 : Int32) (l2 : Int32) (l3 : Int32) : Option ((Int32 × Int32) ⊕ Int32) :=
some (.inl (l2, (l3 + 1)))
def f_X11_loose_j49_11 (μ : Mem) (l1 : Int32) (l3 : Int32) : Option ((Int32 × Int32) ⊕ Int32) :=
Option.bind (rd μ 11 12 l3) fun t1 =>
f_X11_loose_j59_11 μ l1 t1 l3
def f_X11_loose_b11 (μ : Mem) (l1 : Int32) (l2 : Int32) (l3 : Int32) : Option ((Int32 × Int32) ⊕ Int32) :=
if ((2 * l1) + 1) < l3 then
some (.inr l2)
else
Option.bind (f_X2_isPledged μ 3 l3) fun t1 =>
if t1 = true then
if l2 = (-1) then
f_X11_loose_j49_11 μ l1 l3
else
Option.bind (rd μ 11 12 l3) fun t2 =>
if l2 ≤ t2 then
f_X11_loose_j59_11 μ l1 l2 l3
else
f_X11_loose_j49_11 μ l1 l3
else
f_X11_loose_j59_11 μ l1 l2 l3
def f_X11_loose_j65 (μ : Mem) (l2 : Int32) : Option ((Nat × Mem) ⊕ (Int32 × Mem)) :=
some (.inr (l2, μ))
def f_X11_loose_l11 (μ : Mem) (l1 : Int32) (l2 : Int32) (l3 : Int32) : Option ((Nat × Mem) ⊕ (Int32 × Mem)) := Option.bind (loopN 10000 (fun z : (Int32 × Int32) => f_X11_loose_b11 μ l1 z.1 z.2) (l2, l3)) fun t : Int32 => f_X11_loose_j65 μ t
def f_X11_loose (μ : Mem) (p1 : Int32) : Option ((Nat × Mem) ⊕ (Int32 × Mem)) :=
Option.bind (f_X11_needPerson μ p1) fun q1 =>
Sum.elim (fun e9 => some (.inl e9)) (fun v2 => f_X11_loose_l11 v2 p1 (-1) (2 * p1)) q1
def f_X11_rail (μ : Mem) : Option Int32 :=
Option.bind (f_X2_lacesThatAre μ 3 2) fun t1 =>
some t1
def f_X11_trial_j46 (μ : Mem) (k0 : Int32) : Option ((Nat × Mem) ⊕ (Int32 × Mem)) :=
some (.inr (k0, μ))
def f_X11_trial (μ : Mem) (p1 : Int32) (p2 : Bool) : Option ((Nat × Mem) ⊕ (Int32 × Mem)) :=
Option.bind (f_X11_needAhead μ p1) fun q1 =>
Sum.elim (fun e9 => some (.inl e9)) (fun v2 => Option.bind (f_X2_copyFrom v2 18 3) fun q3 =>
Option.bind (f_X2_liveOn q3 18 p1 48 true) fun q4 =>
if p2 = true then
Option.bind (f_X2_lacesThatAre q4.2 18 2) fun t5 =>
f_X11_trial_j46 q4.2 t5
else
f_X11_trial_j46 q4.2 q4.1) q1
def f_X11_span_b15 (μ : Mem) (l1 : Int32) (l2 : Bool) (l3 : Int32) (l4 : Int32) (l5 : Int32) : Option ((Int32 × Int32 × Int32 × Mem) ⊕ (Int32 × Int32 × Mem)) :=
if 6 < l5 then
some (.inr (l3, l4, μ))
else
Option.bind (f_X2_copyFrom μ 18 3) fun q1 =>
Option.bind (f_X2_liveOn (mset q1 18 4 l5) 18 l1 48 true) fun q2 =>
Option.bind (f_J9_min_7cf53 q2.2 l3 q2.1) fun t3 =>
Option.bind (f_J9_max_7cf53 q2.2 l4 q2.1) fun t4 =>
some (.inl (t3, t4, (l5 + 1), q2.2))
def f_X11_span_j79 (μ : Mem) (l2 : Bool) (l3 : Int32) (l4 : Int32) : Option ((Nat × Mem) ⊕ (Int32 × Mem)) :=
some (.inr ((if l2 = true then (l4 : Int32) else l3), μ))
def f_X11_span_l15 (μ : Mem) (l1 : Int32) (l2 : Bool) (l3 : Int32) (l4 : Int32) (l5 : Int32) : Option ((Nat × Mem) ⊕ (Int32 × Mem)) := Option.bind (loopN 10000 (fun z : (Int32 × Int32 × Int32 × Mem) => f_X11_span_b15 z.2.2.2 l1 l2 z.1 z.2.1 z.2.2.1) (l3, l4, l5, μ)) fun t : (Int32 × Int32 × Mem) => f_X11_span_j79 t.2.2 l2 t.1 t.2.1
def f_X11_span (μ : Mem) (p1 : Int32) (p2 : Bool) : Option ((Nat × Mem) ⊕ (Int32 × Mem)) :=
Option.bind (f_X11_needAhead μ p1) fun q1 =>
Sum.elim (fun e9 => some (.inl e9)) (fun v2 => f_X11_span_l15 v2 p1 p2 360 0 1) q1
def f_X11_led_j34 (μ : Mem) (k0 : Int32) : Option ((Nat × Mem) ⊕ (Int32 × Mem)) :=
some (.inr (k0, μ))
def f_X11_led (μ : Mem) (p1 : Int32) (p2 : Bool) : Option ((Nat × Mem) ⊕ (Int32 × Mem)) :=
Option.bind (f_X11_needLace μ p1) fun q1 =>
Sum.elim (fun e9 => some (.inl e9)) (fun v2 => if p2 = true then
Option.bind (f_X1_latestDayOf v2 16 p1) fun t4 =>
f_X11_led_j34 v2 t4
else
Option.bind (f_X1_rowsOf v2 16 p1) fun t3 =>
f_X11_led_j34 v2 t3) q1
def f_X11_log_j38 (μ : Mem) : Option ((Nat × Mem) ⊕ (Int32 × Mem)) :=
some (.inr ((-1), μ))
def f_X11_log (μ : Mem) (p1 : Int32) (p2 : Int32) : Option ((Nat × Mem) ⊕ (Int32 × Mem)) :=
Option.bind (f_X11_isOutside μ p2 0 3) fun t1 =>
if t1 = true then
some (.inl (4, μ))
else
if p1 < 0 then
f_X11_log_j38 μ
else
if p1 < (μ 16 2) then
if p2 = 0 then
Option.bind (f_X1_dayAt μ 16 p1) fun t2 =>
some (.inr (t2, μ))
else
if p2 = 1 then
Option.bind (f_X1_laceAt μ 16 p1) fun t3 =>
some (.inr (t3, μ))
else
if p2 = 2 then
Option.bind (f_X1_whatAt μ 16 p1) fun t4 =>
some (.inr (t4, μ))
else
Option.bind (f_X1_amountAt μ 16 p1) fun t5 =>
some (.inr (t5, μ))
else
f_X11_log_j38 μ
def f_X11_seed (μ : Mem) (p1 : Int32) : Option (Int32 × Mem) :=
some ((μ 3 4), (mset μ 3 4 p1))
def f_X11_undo (μ : Mem) : Option (Bool × Mem) :=
Option.bind (f_X0_takeBack μ 3) fun q1 =>
some (q1.1, q1.2)
def f_X11_image (μ : Mem) : Option Mem :=
Option.bind (f_X2_copyFrom μ 33 3) fun q1 =>
Option.bind (f_X4_copyFrom q1 64 48) fun q2 =>
some (mset q2 0 13 (b2i true))
def f_X11_back (μ : Mem) : Option (Bool × Mem) :=
if (i2b (μ 0 13)) = true then
Option.bind (f_X2_copyFrom μ 3 33) fun q1 =>
Option.bind (f_X4_copyFrom q1 48 64) fun q2 =>
Option.bind (f_X0_forget q2) fun q3 =>
some (true, q3)
else
some (false, μ)
def f_X11_count (μ : Mem) (p1 : Int32) : Option Int32 :=
if p1 = 0 then
some (μ 3 0)
else
if p1 = 1 then
some (μ 3 1)
else
if p1 = 2 then
some (if (i2b (μ 48 0)) = true then ((μ 48 1) : Int32) else (-1))
else
if p1 = 3 then
some (μ 3 2)
else
if p1 = 4 then
some (μ 3 3)
else
if p1 = 5 then
Option.bind (f_X2_lacesThatAre μ 3 1) fun t2 =>
some t2
else
if p1 = 6 then
Option.bind (f_X2_lacesThatAre μ 3 1) fun t3 =>
Option.bind (f_X2_amountOf μ 3 t3) fun t4 =>
some t4
else
if p1 = 7 then
Option.bind (f_X2_allPurses μ 3) fun t5 =>
some t5
else
if p1 = 8 then
some (μ 3 5)
else
if p1 = 9 then
some (μ 16 2)
else
if p1 = 10 then
some (μ 74 2)
else
some (-1)
def f_X12_thrown (μ : Mem) : Option Int32 :=
some (μ 264 0)
def f_X12_throwsIf_j9 (μ : Mem) (l1 : Bool) : Option (Bool × Mem) :=
some (l1, μ)
def f_X12_throwsIf (μ : Mem) (p1 : Bool) (p2 : Int32) : Option (Bool × Mem) :=
if p1 = true then
f_X12_throwsIf_j9 (mset μ 264 0 p2) p1
else
f_X12_throwsIf_j9 μ p1
def f_X12_in (μ : Mem) (p0 : Int32) (p1 : Int32) (p2 : Int32) : Option Bool :=
some (if p0 < p1 then (false : Bool) else (if p2 < p0 then (false : Bool) else true))
def f_X12_has (μ : Mem) (p0 : Int32) (p1 : Int32) : Option Bool :=
some (if ((p0 >>> (p1 &&& 31)) &&& 1) = 1 then (true : Bool) else false)
def f_X12_image_b7 (μ : Mem) (l1 : Int32) : Option ((Int32 × Mem) ⊕ Mem) :=
if 1219 ≤ l1 then
some (.inr μ)
else
Option.bind (rd μ 265 2068 l1) fun t1 =>
Option.bind (wr μ 266 1219 l1 t1) fun μ2 =>
some (.inl ((l1 + 1), μ2))
def f_X12_image_j32 (μ : Mem) : Option Mem :=
some (mset μ 264 6 (b2i true))
def f_X12_image_l7 (μ : Mem) (l1 : Int32) : Option Mem := Option.bind (loopN 10000 (fun z : (Int32 × Mem) => f_X12_image_b7 z.2 z.1) (l1, μ)) fun t : Mem => f_X12_image_j32 t
def f_X12_image (μ : Mem) : Option Mem :=
f_X12_image_l7 (mset μ 264 0 0) 0
def f_X12_back_b16 (μ : Mem) (l1 : Int32) : Option ((Int32 × Mem) ⊕ Mem) :=
if 1219 ≤ l1 then
some (.inr μ)
else
Option.bind (rd μ 266 1219 l1) fun t1 =>
Option.bind (wr μ 265 2068 l1 t1) fun μ2 =>
some (.inl ((l1 + 1), μ2))
def f_X12_back_j41 (μ : Mem) : Option (Bool × Mem) :=
some (true, (mset μ 264 7 0))
def f_X12_back_l16 (μ : Mem) (l1 : Int32) : Option (Bool × Mem) := Option.bind (loopN 10000 (fun z : (Int32 × Mem) => f_X12_back_b16 z.2 z.1) (l1, μ)) fun t : Mem => f_X12_back_j41 t
def f_X12_back (μ : Mem) : Option (Bool × Mem) :=
if (i2b ((mset μ 264 0 0) 264 6)) = true then
f_X12_back_l16 (mset μ 264 0 0) 0
else
some (false, (mset μ 264 0 0))
def f_X12_remembers_b11 (μ : Mem) (l1 : Int32) : Option ((Int32 × Mem) ⊕ Mem) :=
if 4070 ≤ l1 then
some (.inr μ)
else
Option.bind (rd μ 269 4440 (l1 + 370)) fun t1 =>
Option.bind (wr μ 269 4440 l1 t1) fun μ2 =>
some (.inl ((l1 + 1), μ2))
def f_X12_remembers_b55 (μ : Mem) (l1 : Int32) : Option ((Int32 × Mem) ⊕ Mem) :=
if 370 ≤ l1 then
some (.inr μ)
else
Option.bind (rd μ 265 2068 l1) fun t1 =>
Option.bind (wr μ 269 4440 ((370 * ((μ 264 7) - 1)) + l1) t1) fun μ2 =>
some (.inl ((l1 + 1), μ2))
def f_X12_remembers_j91 (μ : Mem) : Option Mem :=
some μ
def f_X12_remembers_l55 (μ : Mem) (l1 : Int32) : Option Mem := Option.bind (loopN 10000 (fun z : (Int32 × Mem) => f_X12_remembers_b55 z.2 z.1) (l1, μ)) fun t : Mem => f_X12_remembers_j91 t
def f_X12_remembers_j53 (μ : Mem) : Option Mem :=
f_X12_remembers_l55 μ 0
def f_X12_remembers_j40 (μ : Mem) : Option Mem :=
f_X12_remembers_j53 μ
def f_X12_remembers_l11 (μ : Mem) (l1 : Int32) : Option Mem := Option.bind (loopN 10000 (fun z : (Int32 × Mem) => f_X12_remembers_b11 z.2 z.1) (l1, μ)) fun t : Mem => f_X12_remembers_j40 t
def f_X12_remembers (μ : Mem) : Option Mem :=
if (μ 264 7) = 12 then
f_X12_remembers_l11 μ 0
else
f_X12_remembers_j53 (mset μ 264 7 ((μ 264 7) + 1))
def f_X12_undo_b26 (μ : Mem) (l1 : Int32) : Option ((Int32 × Mem) ⊕ Mem) :=
if 370 ≤ l1 then
some (.inr μ)
else
Option.bind (rd μ 269 4440 ((370 * (μ 264 7)) + l1)) fun t1 =>
Option.bind (wr μ 265 2068 l1 t1) fun μ2 =>
some (.inl ((l1 + 1), μ2))
def f_X12_undo_j60 (μ : Mem) : Option (Bool × Mem) :=
some (true, μ)
def f_X12_undo_l26 (μ : Mem) (l1 : Int32) : Option (Bool × Mem) := Option.bind (loopN 10000 (fun z : (Int32 × Mem) => f_X12_undo_b26 z.2 z.1) (l1, μ)) fun t : Mem => f_X12_undo_j60 t
def f_X12_undo (μ : Mem) : Option (Bool × Mem) :=
if ((mset μ 264 0 0) 264 7) = 0 then
some (false, (mset μ 264 0 0))
else
f_X12_undo_l26 (mset (mset μ 264 0 0) 264 7 (((mset μ 264 0 0) 264 7) - 1)) 0
def f_X12_people (μ : Mem) : Option Int32 :=
Option.bind (rd μ 265 2068 0) fun t1 =>
some t1
def f_X12_laces (μ : Mem) : Option Int32 :=
Option.bind (f_X12_people μ) fun t1 =>
some (2 * t1)
def f_X12_everybody (μ : Mem) : Option Int32 :=
Option.bind (f_X12_people μ) fun t1 =>
some ((1 <<< (t1 &&& 31)) - 1)
def f_X12_at (μ : Mem) (p0 : Int32) (p1 : Int32) : Option Int32 :=
some ((28 + (5 * p0)) + p1)
def f_X12_of (μ : Mem) (p1 : Int32) (p2 : Int32) : Option Int32 :=
Option.bind (f_X12_at μ p1 p2) fun t1 =>
Option.bind (rd μ 265 2068 t1) fun t2 =>
some t2
def f_X12_laceAt (μ : Mem) (p0 : Int32) (p1 : Int32) : Option Int32 :=
some ((58 + (6 * p0)) + p1)
def f_X12_ofLace (μ : Mem) (p1 : Int32) (p2 : Int32) : Option Int32 :=
Option.bind (f_X12_laceAt μ p1 p2) fun t1 =>
Option.bind (rd μ 265 2068 t1) fun t2 =>
some t2
def f_X12_ownerOf (μ : Mem) (p0 : Int32) : Option Int32 :=
Option.bind (dv p0 2) fun t1 =>
some t1
def f_X12_isPledged (μ : Mem) (p1 : Int32) : Option Bool :=
Option.bind (f_X12_ofLace μ p1 0) fun t1 =>
some (if t1 = 1 then (true : Bool) else false)
def f_X12_isLost (μ : Mem) (p1 : Int32) : Option Bool :=
Option.bind (f_X12_ofLace μ p1 0) fun t1 =>
some (if t1 = 2 then (true : Bool) else false)
def f_X12_isIn (μ : Mem) (p1 : Int32) : Option Bool :=
Option.bind (f_X12_ofLace μ p1 0) fun t1 =>
some (if t1 = 0 then (true : Bool) else false)
def f_X12_noPerson (μ : Mem) (p1 : Int32) : Option Bool :=
Option.bind (f_X12_people μ) fun t1 =>
Option.bind (f_X12_in μ p1 0 (t1 - 1)) fun t2 =>
some (if t2 = true then (false : Bool) else true)
def f_X12_noLace (μ : Mem) (p1 : Int32) : Option Bool :=
Option.bind (f_X12_laces μ) fun t1 =>
Option.bind (f_X12_in μ p1 0 (t1 - 1)) fun t2 =>
some (if t2 = true then (false : Bool) else true)
def f_X12_noPlace (μ : Mem) (p0 : Int32) : Option Bool :=
Option.bind (f_X12_in μ p0 0 19) fun t1 =>
some (if t1 = true then (false : Bool) else true)
def f_X12_tellsLace (μ : Mem) (p1 : Int32) (p2 : Int32) (p3 : Int32) (p4 : Int32) (p5 : Int32) (p6 : Int32) : Option Mem :=
Option.bind (f_X12_laceAt μ p1 0) fun t1 =>
Option.bind (wr μ 265 2068 t1 p2) fun μ2 =>
Option.bind (f_X12_laceAt μ2 p1 1) fun t3 =>
Option.bind (wr μ2 265 2068 t3 p3) fun μ4 =>
Option.bind (f_X12_laceAt μ4 p1 2) fun t5 =>
Option.bind (wr μ4 265 2068 t5 p4) fun μ6 =>
Option.bind (f_X12_laceAt μ6 p1 3) fun t7 =>
Option.bind (wr μ6 265 2068 t7 p5) fun μ8 =>
Option.bind (f_X12_laceAt μ8 p1 4) fun t9 =>
Option.bind (wr μ8 265 2068 t9 p6) fun μ10 =>
Option.bind (f_X12_laceAt μ10 p1 5) fun t11 =>
Option.bind (wr μ10 265 2068 t11 (-1)) fun μ12 =>
some μ12
def f_X12_comesBack (μ : Mem) (p1 : Int32) : Option Mem :=
Option.bind (f_X12_tellsLace μ p1 0 (-1) 0 0 0) fun q1 =>
some q1
def f_X12_gets (μ : Mem) (p1 : Int32) (p2 : Int32) : Option Mem :=
Option.bind (f_X12_at μ p1 0) fun t1 =>
Option.bind (f_X12_of μ p1 0) fun t2 =>
Option.bind (f_J9_min_7cf53 μ 999 (t2 + p2)) fun t3 =>
Option.bind (wr μ 265 2068 t1 t3) fun μ4 =>
some μ4
def f_X12_drawn (μ : Mem) (p1 : Int32) : Option (Int32 × Mem) :=
Option.bind (rd μ 265 2068 7) fun t1 =>
Option.bind (wr μ 265 2068 7 ((1103515245 * t1) + 12345)) fun μ2 =>
Option.bind (rd μ2 265 2068 7) fun t3 =>
Option.bind (rm9 ((t3 >>> (16 &&& 31)) &&& 32767) p1) fun t4 =>
some (t4, μ2)
def f_X12_feed_b60 (μ : Mem) (l6 : Int32) : Option ((Int32 × Mem) ⊕ Mem) :=
if 20 ≤ l6 then
some (.inr μ)
else
Option.bind (dv l6 4) fun t1 =>
Option.bind (rd μ 271 5 t1) fun t2 =>
Option.bind (rm9 l6 4) fun t3 =>
Option.bind (wr μ 270 400 ((μ 264 9) + l6) ((Int32.toInt8 ((Int32.toInt8 (t2 >>> ((24 - (8 * t3)) &&& 31))).toInt32)).toInt32)) fun μ4 =>
some (.inl ((l6 + 1), μ4))
def f_X12_feed_j106 (μ : Mem) : Option (Int32 × Mem) :=
some (((mset μ 264 9 ((μ 264 9) + 20)) 264 9), (mset μ 264 9 ((μ 264 9) + 20)))
def f_X12_feed_l60 (μ : Mem) (l6 : Int32) : Option (Int32 × Mem) := Option.bind (loopN 10000 (fun z : (Int32 × Mem) => f_X12_feed_b60 z.2 z.1) (l6, μ)) fun t : Mem => f_X12_feed_j106 t
def f_X12_feed (μ : Mem) (p1 : Int32) (p2 : Int32) (p3 : Int32) (p4 : Int32) (p5 : Int32) : Option (Int32 × Mem) :=
if (((mset μ 264 0 0) 264 9) + 20) ≤ 400 then
Option.bind (wr (mset μ 264 0 0) 271 5 0 p1) fun μ1 =>
Option.bind (wr μ1 271 5 1 p2) fun μ2 =>
Option.bind (wr μ2 271 5 2 p3) fun μ3 =>
Option.bind (wr μ3 271 5 3 p4) fun μ4 =>
Option.bind (wr μ4 271 5 4 p5) fun μ5 =>
f_X12_feed_l60 μ5 0
else
some ((-1), (mset μ 264 0 0))
def f_X12_end_j17 (μ : Mem) : Option (Bool × Mem) :=
some (false, μ)
def f_X12_end (μ : Mem) (p1 : Int32) : Option (Bool × Mem) :=
if p1 < 0 then
f_X12_end_j17 (mset μ 264 0 0)
else
if p1 ≤ ((mset μ 264 0 0) 264 9) then
some (true, (mset (mset μ 264 0 0) 264 9 p1))
else
f_X12_end_j17 (mset μ 264 0 0)
def f_X12_isAt_j42 (μ : Mem) (k0 : Bool) : Option Bool :=
some k0
def f_X12_isAt_j41 (μ : Mem) : Option Bool :=
f_X12_isAt_j42 μ false
def f_X12_isAt (μ : Mem) (p1 : Int32) (p2 : Int32) : Option Bool :=
if (μ 264 11) ≤ (μ 264 10) then
f_X12_isAt_j41 μ
else
Option.bind (rd μ 270 400 (μ 264 10)) fun t1 =>
if t1 < p1 then
f_X12_isAt_j41 μ
else
Option.bind (rd μ 270 400 (μ 264 10)) fun t2 =>
some (if p2 < t2 then (false : Bool) else true)
def f_X12_blanks_b0 (μ : Mem) : Option (Mem ⊕ Mem) :=
Option.bind (f_X12_isAt μ 32 32) fun t1 =>
if t1 = true then
some (.inl (mset μ 264 10 ((μ 264 10) + 1)))
else
some (.inr μ)
def f_X12_blanks_j24 (μ : Mem) : Option Mem :=
some (mset μ 264 12 (μ 264 10))
def f_X12_blanks_l0 (μ : Mem) : Option Mem := Option.bind (loopN 10000 (fun z : Mem => f_X12_blanks_b0 z) μ) fun t : Mem => f_X12_blanks_j24 t
def f_X12_blanks (μ : Mem) : Option Mem :=
Option.bind (f_X12_isAt μ 32 32) fun t1 =>
if t1 = true then
f_X12_blanks_l0 (mset μ 264 10 ((μ 264 10) + 1))
else
some (mset μ 264 12 (μ 264 10))
def f_X12_letters_b4 (μ : Mem) : Option (Mem ⊕ Mem) :=
Option.bind (f_X12_isAt μ 97 122) fun t1 =>
if t1 = true then
some (.inl (mset μ 264 10 ((μ 264 10) + 1)))
else
some (.inr μ)
def f_X12_letters_j28 (μ : Mem) : Option Mem :=
some μ
def f_X12_letters_l4 (μ : Mem) : Option Mem := Option.bind (loopN 10000 (fun z : Mem => f_X12_letters_b4 z) μ) fun t : Mem => f_X12_letters_j28 t
def f_X12_letters (μ : Mem) : Option Mem :=
Option.bind (f_X12_blanks μ) fun q1 =>
f_X12_letters_l4 q1
def f_X12_isWord_b24 (μ : Mem) (s1 : Nat) (l2 : Bool) (l3 : Int32) : Option ((Bool × Int32) ⊕ Bool) :=
if l2 = true then
if (slen s1) ≤ l3 then
some (.inr l2)
else
Option.bind (rd μ 270 400 ((μ 264 12) + l3)) fun t1 =>
Option.bind (schar s1 l3) fun t2 =>
some (.inl ((if t1 = t2 then (true : Bool) else false), (l3 + 1)))
else
some (.inr l2)
def f_X12_isWord_j67 (μ : Mem) (s1 : Nat) (l2 : Bool) : Option Bool :=
some l2
def f_X12_isWord_l24 (μ : Mem) (s1 : Nat) (l2 : Bool) (l3 : Int32) : Option Bool := Option.bind (loopN 10000 (fun z : (Bool × Int32) => f_X12_isWord_b24 μ s1 z.1 z.2) (l2, l3)) fun t : Bool => f_X12_isWord_j67 μ s1 t
def f_X12_isWord (μ : Mem) (s1 : Nat) : Option Bool :=
f_X12_isWord_l24 μ s1 (if ((μ 264 10) - (μ 264 12)) = (slen s1) then (true : Bool) else false) 0
def f_X12_passes (μ : Mem) (s1 : Nat) : Option (Bool × Mem) :=
Option.bind (f_X12_letters μ) fun q1 =>
Option.bind (f_X12_isWord q1 s1) fun t2 =>
if t2 = true then
some (true, q1)
else
some (false, (mset q1 264 10 (q1 264 12)))
def f_X12_sign (μ : Mem) (p1 : Int32) : Option (Bool × Mem) :=
Option.bind (f_X12_blanks μ) fun q1 =>
Option.bind (f_X12_isAt q1 p1 p1) fun t2 =>
if t2 = true then
some (true, (mset q1 264 10 ((q1 264 10) + 1)))
else
some (false, q1)
def f_X12_number_j51_6 (μ : Mem) (l1 : Int32) (l2 : Int32) (k0 : Int32) : Option ((Int32 × Mem) ⊕ (Int32 × Mem)) :=
some (.inl (k0, (mset μ 264 10 ((μ 264 10) + 1))))
def f_X12_number_b6 (μ : Mem) (l1 : Int32) (l2 : Int32) (l3 : Int32) : Option ((Int32 × Mem) ⊕ (Int32 × Mem)) :=
Option.bind (f_X12_isAt μ 48 57) fun t1 =>
if t1 = true then
if 3 ≤ ((μ 264 10) - (μ 264 12)) then
f_X12_number_j51_6 μ l1 l2 l3
else
Option.bind (rd μ 270 400 (μ 264 10)) fun t2 =>
f_X12_number_j51_6 μ l1 l2 (((10 * l3) + t2) - 48)
else
some (.inr (l3, μ))
def f_X12_number_j65 (μ : Mem) (l1 : Int32) (l2 : Int32) (l3 : Int32) : Option (Int32 × Mem) :=
some ((if (μ 264 10) = (μ 264 12) then ((-1) : Int32) else (if 3 < ((μ 264 10) - (μ 264 12)) then ((-1) : Int32) else (if l3 < l1 then ((-1) : Int32) else (if l3 ≤ l2 then (l3 : Int32) else (-1))))), μ)
def f_X12_number_l6 (μ : Mem) (l1 : Int32) (l2 : Int32) (l3 : Int32) : Option (Int32 × Mem) := Option.bind (loopN 10000 (fun z : (Int32 × Mem) => f_X12_number_b6 z.2 l1 l2 z.1) (l3, μ)) fun t : (Int32 × Mem) => f_X12_number_j65 t.2 l1 l2 t.1
def f_X12_number (μ : Mem) (p1 : Int32) (p2 : Int32) : Option (Int32 × Mem) :=
Option.bind (f_X12_blanks μ) fun q1 =>
f_X12_number_l6 q1 p1 p2 0
def f_X12_after_j22 (μ : Mem) (s1 : Nat) (k0 : Int32) : Option (Int32 × Mem) :=
some (k0, μ)
def f_X12_after (μ : Mem) (s1 : Nat) (p2 : Int32) (p3 : Int32) : Option (Int32 × Mem) :=
Option.bind (f_X12_letters μ) fun q1 =>
Option.bind (f_X12_isWord q1 s1) fun t2 =>
if t2 = true then
Option.bind (f_X12_number q1 p2 p3) fun q3 =>
f_X12_after_j22 q3.2 s1 q3.1
else
f_X12_after_j22 q1 s1 (-1)
def f_X12_fault (μ : Mem) : Option (Int32 × Mem) :=
some (((mset μ 264 0 0) 264 14), (mset μ 264 0 0))
def f_X12_uses (μ : Mem) : Option Mem :=
some (mset (mset (mset (mset μ 264 0 0) 264 11 ((mset μ 264 0 0) 264 9)) 264 9 0) 264 10 0)
def f_X12_readPerson_j57 (μ : Mem) (l1 : Int32) (l2 : Int32) (l3 : Int32) (k0 : Int32) : Option (Bool × Mem) :=
if 0 ≤ k0 then
Option.bind (f_X12_at μ l1 0) fun t1 =>
Option.bind (wr μ 265 2068 t1 l2) fun μ2 =>
Option.bind (f_X12_at μ2 l1 1) fun t3 =>
Option.bind (wr μ2 265 2068 t3 l3) fun μ4 =>
Option.bind (f_X12_at μ4 l1 2) fun t5 =>
Option.bind (wr μ4 265 2068 t5 k0) fun μ6 =>
Option.bind (f_X12_at μ6 l1 3) fun t7 =>
Option.bind (wr μ6 265 2068 t7 k0) fun μ8 =>
Option.bind (f_X12_at μ8 l1 4) fun t9 =>
Option.bind (wr μ8 265 2068 t9 0) fun μ10 =>
Option.bind (f_X12_comesBack μ10 (2 * l1)) fun q11 =>
Option.bind (f_X12_comesBack q11 ((2 * l1) + 1)) fun q12 =>
Option.bind (rd q12 265 2068 0) fun t13 =>
Option.bind (wr q12 265 2068 0 (t13 + 1)) fun μ14 =>
some (true, μ14)
else
some (false, μ)
def f_X12_readPerson_j39 (μ : Mem) (l1 : Int32) (l2 : Int32) (k0 : Int32) : Option (Bool × Mem) :=
if 0 ≤ k0 then
Option.bind (f_X12_after μ 53 0 19) fun q1 =>
f_X12_readPerson_j57 q1.2 l1 l2 k0 q1.1
else
f_X12_readPerson_j57 μ l1 l2 k0 (-1)
def f_X12_readPerson (μ : Mem) : Option (Bool × Mem) :=
Option.bind (f_X12_people μ) fun t1 =>
if t1 = 6 then
some (false, μ)
else
Option.bind (f_X12_number μ 0 999) fun q2 =>
if 0 ≤ q2.1 then
Option.bind (f_X12_after q2.2 52 1 9) fun q3 =>
f_X12_readPerson_j39 q3.2 t1 q2.1 q3.1
else
f_X12_readPerson_j39 q2.2 t1 q2.1 (-1)
def f_X12_readPledge_j24 (μ : Mem) : Option (Bool × Mem) :=
some (false, μ)
def f_X12_readPledge_j52 (μ : Mem) : Option (Bool × Mem) :=
some (false, μ)
def f_X12_readPledge_j157 (μ : Mem) : Option (Bool × Mem) :=
some (false, μ)
def f_X12_readPledge_j159 (μ : Mem) (l1 : Int32) (l2 : Int32) (l3 : Int32) (l4 : Int32) (l5 : Int32) (l6 : Int32) : Option (Bool × Mem) :=
Option.bind (f_X12_tellsLace μ l1 1 l2 l3 l4 l5) fun q1 =>
Option.bind (f_X12_laceAt q1 l1 5) fun t2 =>
Option.bind (wr q1 265 2068 t2 l6) fun μ3 =>
some (true, μ3)
def f_X12_readPledge_j103 (μ : Mem) (l1 : Int32) (l2 : Int32) (l3 : Int32) (l4 : Int32) (k0 : Int32) : Option (Bool × Mem) :=
if 0 ≤ k0 then
Option.bind (f_X12_passes μ 58) fun q1 =>
if q1.1 = true then
Option.bind (f_X12_people q1.2) fun t2 =>
Option.bind (f_X12_number q1.2 0 (t2 - 1)) fun q3 =>
if q3.1 < 0 then
f_X12_readPledge_j157 q3.2
else
if q3.1 = l2 then
f_X12_readPledge_j157 q3.2
else
Option.bind (f_X12_ownerOf q3.2 l1) fun t4 =>
if q3.1 = t4 then
f_X12_readPledge_j157 q3.2
else
f_X12_readPledge_j159 q3.2 l1 l2 l3 l4 k0 q3.1
else
f_X12_readPledge_j159 q1.2 l1 l2 l3 l4 k0 (-1)
else
some (false, μ)
def f_X12_readPledge_j82 (μ : Mem) (l1 : Int32) (l2 : Int32) (l3 : Int32) (k0 : Int32) : Option (Bool × Mem) :=
if 0 ≤ k0 then
Option.bind (f_X12_after μ 57 1 999) fun q1 =>
f_X12_readPledge_j103 q1.2 l1 l2 l3 k0 q1.1
else
f_X12_readPledge_j103 μ l1 l2 l3 k0 (-1)
def f_X12_readPledge (μ : Mem) : Option (Bool × Mem) :=
Option.bind (f_X12_laces μ) fun t1 =>
Option.bind (f_X12_number μ 0 (t1 - 1)) fun q2 =>
if q2.1 < 0 then
f_X12_readPledge_j24 q2.2
else
Option.bind (f_X12_isIn q2.2 q2.1) fun t3 =>
if t3 = true then
Option.bind (f_X12_people q2.2) fun t4 =>
Option.bind (f_X12_after q2.2 54 0 (t4 - 1)) fun q5 =>
if q5.1 < 0 then
f_X12_readPledge_j52 q5.2
else
Option.bind (f_X12_ownerOf q5.2 q2.1) fun t6 =>
if q5.1 = t6 then
f_X12_readPledge_j52 q5.2
else
Option.bind (f_X12_after q5.2 55 1 999) fun q7 =>
if 0 ≤ q7.1 then
Option.bind (f_X12_after q7.2 56 0 9) fun q8 =>
f_X12_readPledge_j82 q8.2 q2.1 q5.1 q7.1 q8.1
else
f_X12_readPledge_j82 q7.2 q2.1 q5.1 q7.1 (-1)
else
f_X12_readPledge_j24 q2.2
def f_X12_readNumber_j26 (μ : Mem) (l3 : Int32) (k1 : Int32) (k2 : Int32) : Option (Bool × Mem) :=
Option.bind (wr μ 265 2068 k1 k2) fun μ1 =>
some ((if l3 < 0 then (false : Bool) else true), μ1)
def f_X12_readNumber (μ : Mem) (p1 : Int32) (p2 : Int32) : Option (Bool × Mem) :=
Option.bind (f_X12_number μ 0 p2) fun q1 =>
if 0 ≤ q1.1 then
f_X12_readNumber_j26 q1.2 q1.1 p1 q1.1
else
Option.bind (rd q1.2 265 2068 p1) fun t2 =>
f_X12_readNumber_j26 q1.2 q1.1 p1 t2
def f_X12_readMud_j30 (μ : Mem) (k0 : Bool) : Option (Bool × Mem) :=
some (k0, μ)
def f_X12_readMud_j29 (μ : Mem) : Option (Bool × Mem) :=
f_X12_readMud_j30 μ false
def f_X12_readMud (μ : Mem) : Option (Bool × Mem) :=
Option.bind (f_X12_number μ 0 19) fun q1 =>
if q1.1 < 0 then
f_X12_readMud_j29 q1.2
else
Option.bind (f_X12_readNumber q1.2 (8 + q1.1) 9) fun q2 =>
some ((if q2.1 = true then (true : Bool) else false), q2.2)
def f_X12_readGoal_j35 (μ : Mem) (k0 : Bool) : Option (Bool × Mem) :=
some (k0, μ)
def f_X12_readGoal_j34 (μ : Mem) : Option (Bool × Mem) :=
f_X12_readGoal_j35 μ false
def f_X12_readGoal (μ : Mem) : Option (Bool × Mem) :=
Option.bind (f_X12_people μ) fun t1 =>
Option.bind (f_X12_number μ 0 (t1 - 1)) fun q2 =>
if q2.1 < 0 then
f_X12_readGoal_j34 q2.2
else
Option.bind (f_X12_at q2.2 q2.1 3) fun t3 =>
Option.bind (f_X12_readNumber q2.2 t3 19) fun q4 =>
some ((if q4.1 = true then (true : Bool) else false), q4.2)
def f_X12_readLandLine_j98 (μ : Mem) (k0 : Bool) : Option (Bool × Mem) :=
some (k0, μ)
def f_X12_readLandLine_j97 (μ : Mem) : Option (Bool × Mem) :=
f_X12_readLandLine_j98 μ false
def f_X12_readLandLine (μ : Mem) : Option (Bool × Mem) :=
Option.bind (f_X12_isWord μ 59) fun t1 =>
if t1 = true then
Option.bind (f_X12_readPerson μ) fun q13 =>
some (q13.1, q13.2)
else
Option.bind (f_X12_isWord μ 60) fun t2 =>
if t2 = true then
Option.bind (f_X12_readPledge μ) fun q12 =>
some (q12.1, q12.2)
else
Option.bind (f_X12_isWord μ 61) fun t3 =>
if t3 = true then
Option.bind (f_X12_readMud μ) fun q11 =>
some (q11.1, q11.2)
else
Option.bind (f_X12_isWord μ 62) fun t4 =>
if t4 = true then
Option.bind (f_X12_readGoal μ) fun q10 =>
some (q10.1, q10.2)
else
Option.bind (f_X12_isWord μ 63) fun t5 =>
if t5 = true then
Option.bind (f_X12_readNumber μ 4 99) fun q9 =>
some (q9.1, q9.2)
else
Option.bind (f_X12_isWord μ 64) fun t6 =>
if t6 = true then
Option.bind (f_X12_readNumber μ 3 999) fun q7 =>
some ((if q7.1 = true then (true : Bool) else false), q7.2)
else
f_X12_readLandLine_j97 μ
def f_X12_emits (μ : Mem) (p1 : Int32) (p2 : Int32) : Option Mem :=
Option.bind (wr μ 265 2068 (1268 + (2 * (μ 264 16))) p1) fun μ1 =>
Option.bind (wr μ1 265 2068 ((1268 + (2 * (μ1 264 16))) + 1) p2) fun μ2 =>
some (mset μ2 264 16 ((μ2 264 16) + 1))
def f_X12_readPart_j134 (μ : Mem) (l1 : Int32) : Option (Bool × Mem) :=
some ((if l1 < 0 then (false : Bool) else true), μ)
def f_X12_readPart_j127 (μ : Mem) (k0 : Int32) : Option (Bool × Mem) :=
Option.bind (f_X12_emits μ k0 0) fun q1 =>
f_X12_readPart_j134 q1 k0
def f_X12_readPart (μ : Mem) : Option (Bool × Mem) :=
Option.bind (f_X12_letters μ) fun q1 =>
if (q1 264 10) = (q1 264 12) then
Option.bind (f_X12_number q1 0 999) fun q11 =>
Option.bind (f_X12_emits q11.2 9 q11.1) fun q12 =>
f_X12_readPart_j134 q12 q11.1
else
Option.bind (f_X12_isWord q1 65) fun t2 =>
if t2 = true then
f_X12_readPart_j127 q1 0
else
Option.bind (f_X12_isWord q1 66) fun t3 =>
if t3 = true then
f_X12_readPart_j127 q1 1
else
Option.bind (f_X12_isWord q1 67) fun t4 =>
if t4 = true then
f_X12_readPart_j127 q1 2
else
Option.bind (f_X12_isWord q1 68) fun t5 =>
if t5 = true then
f_X12_readPart_j127 q1 3
else
Option.bind (f_X12_isWord q1 61) fun t6 =>
if t6 = true then
f_X12_readPart_j127 q1 4
else
Option.bind (f_X12_isWord q1 69) fun t7 =>
if t7 = true then
f_X12_readPart_j127 q1 5
else
Option.bind (f_X12_isWord q1 64) fun t8 =>
Option.bind (f_X12_emits q1 (if t8 = true then (6 : Int32) else (-1)) 0) fun q10 =>
f_X12_readPart_j134 q10 (if t8 = true then (6 : Int32) else (-1))
def f_X12_readSum_b9 (μ : Mem) : Option (Mem ⊕ (Mem ⊕ (Bool × Mem))) :=
Option.bind (f_X12_sign μ 43) fun q1 =>
if q1.1 = true then
Option.bind (f_X12_readPart q1.2) fun q2 =>
if q2.1 = true then
Option.bind (f_X12_emits q2.2 10 0) fun q3 =>
some (.inl q3)
else
some (.inr (.inr (false, q2.2)))
else
some (.inr (.inl q1.2))
def f_X12_readSum_j37 (μ : Mem) : Option (Bool × Mem) :=
some (true, μ)
def f_X12_readSum_l9 (μ : Mem) : Option (Bool × Mem) := Option.bind (loopN 10000 (fun z : Mem => f_X12_readSum_b9 z) μ) fun t : (Mem ⊕ (Bool × Mem)) => Sum.elim (fun e => f_X12_readSum_j37 e) (fun x => some x) t
def f_X12_readSum (μ : Mem) : Option (Bool × Mem) :=
Option.bind (f_X12_readPart μ) fun q1 =>
if q1.1 = true then
f_X12_readSum_l9 q1.2
else
some (false, q1.2)
def f_X12_readTag_j55 (μ : Mem) (l1 : Int32) : Option (Bool × Mem) :=
some ((if l1 < 0 then (false : Bool) else true), μ)
def f_X12_readTag_j33 (μ : Mem) (k0 : Int32) : Option (Bool × Mem) :=
if k0 < 0 then
f_X12_readTag_j55 (mset μ 264 10 (μ 264 12)) k0
else
Option.bind (f_X12_emits μ k0 0) fun q1 =>
f_X12_readTag_j55 q1 k0
def f_X12_readTag (μ : Mem) : Option (Bool × Mem) :=
Option.bind (f_X12_letters μ) fun q1 =>
Option.bind (f_X12_isWord q1 70) fun t2 =>
if t2 = true then
f_X12_readTag_j33 q1 7
else
Option.bind (f_X12_isWord q1 71) fun t3 =>
if (if t3 = true then (8 : Int32) else (-1)) < 0 then
f_X12_readTag_j55 (mset q1 264 10 (q1 264 12)) (if t3 = true then (8 : Int32) else (-1))
else
Option.bind (f_X12_emits q1 (if t3 = true then (8 : Int32) else (-1)) 0) fun q5 =>
f_X12_readTag_j55 q5 (if t3 = true then (8 : Int32) else (-1))
def f_X12_readAllOf_b9 (rA : Mem → Option (Bool × Mem)) (μ : Mem) : Option (Mem ⊕ (Mem ⊕ (Bool × Mem))) :=
Option.bind (f_X12_passes μ 72) fun q1 =>
if q1.1 = true then
Option.bind (rA q1.2) fun q2 =>
if q2.1 = true then
Option.bind (f_X12_emits q2.2 14 0) fun q3 =>
some (.inl q3)
else
some (.inr (.inr (false, q2.2)))
else
some (.inr (.inl q1.2))
def f_X12_readAllOf_j37 (rA : Mem → Option (Bool × Mem)) (μ : Mem) : Option (Bool × Mem) :=
some (true, μ)
def f_X12_readAllOf_l9 (rA : Mem → Option (Bool × Mem)) (μ : Mem) : Option (Bool × Mem) := Option.bind (loopN 10000 (fun z : Mem => f_X12_readAllOf_b9 rA z) μ) fun t : (Mem ⊕ (Bool × Mem)) => Sum.elim (fun e => f_X12_readAllOf_j37 rA e) (fun x => some x) t
def f_X12_readAllOf (rA : Mem → Option (Bool × Mem)) (μ : Mem) : Option (Bool × Mem) :=
Option.bind (rA μ) fun q1 =>
if q1.1 = true then
f_X12_readAllOf_l9 rA q1.2
else
some (false, q1.2)
def f_X12_readCond_b9 (rA : Mem → Option (Bool × Mem)) (μ : Mem) : Option (Mem ⊕ (Mem ⊕ (Bool × Mem))) :=
Option.bind (f_X12_passes μ 73) fun q1 =>
if q1.1 = true then
Option.bind (f_X12_readAllOf rA q1.2) fun q2 =>
if q2.1 = true then
Option.bind (f_X12_emits q2.2 15 0) fun q3 =>
some (.inl q3)
else
some (.inr (.inr (false, q2.2)))
else
some (.inr (.inl q1.2))
def f_X12_readCond_j37 (rA : Mem → Option (Bool × Mem)) (μ : Mem) : Option (Bool × Mem) :=
some (true, μ)
def f_X12_readCond_l9 (rA : Mem → Option (Bool × Mem)) (μ : Mem) : Option (Bool × Mem) := Option.bind (loopN 10000 (fun z : Mem => f_X12_readCond_b9 rA z) μ) fun t : (Mem ⊕ (Bool × Mem)) => Sum.elim (fun e => f_X12_readCond_j37 rA e) (fun x => some x) t
def f_X12_readCond (rA : Mem → Option (Bool × Mem)) (μ : Mem) : Option (Bool × Mem) :=
Option.bind (f_X12_readAllOf rA μ) fun q1 =>
if q1.1 = true then
f_X12_readCond_l9 rA q1.2
else
some (false, q1.2)
def f_X12_readAtom_body_j159 (rA : Mem → Option (Bool × Mem)) (μ : Mem) : Option (Bool × Mem) :=
some (false, μ)
def f_X12_readAtom_body_j152 (rA : Mem → Option (Bool × Mem)) (μ : Mem) (l1 : Bool) : Option (Bool × Mem) :=
Option.bind (f_X12_readSum μ) fun q1 =>
if q1.1 = true then
Option.bind (f_X12_emits q1.2 (if l1 = true then (11 : Int32) else 12) 0) fun q3 =>
some (true, q3)
else
f_X12_readAtom_body_j159 rA q1.2
def f_X12_readAtom_body (rA : Mem → Option (Bool × Mem)) (μ : Mem) : Option (Bool × Mem) :=
Option.bind (f_X12_sign μ 40) fun q1 =>
if q1.1 = true then
if (q1.2 264 13) = 6 then
some (false, q1.2)
else
Option.bind (f_X12_readCond rA (mset q1.2 264 13 ((q1.2 264 13) + 1))) fun q9 =>
if q9.1 = true then
Option.bind (f_X12_sign (mset q9.2 264 13 ((q9.2 264 13) - 1)) 41) fun q10 =>
some (q10.1, q10.2)
else
some (false, q9.2)
else
Option.bind (f_X12_passes q1.2 74) fun q2 =>
if q2.1 = true then
if (q2.2 264 13) = 6 then
some (false, q2.2)
else
Option.bind (rA (mset q2.2 264 13 ((q2.2 264 13) + 1))) fun q7 =>
if q7.1 = true then
Option.bind (f_X12_emits (mset q7.2 264 13 ((q7.2 264 13) - 1)) 13 0) fun q8 =>
some (true, q8)
else
some (false, q7.2)
else
Option.bind (f_X12_readTag q2.2) fun q3 =>
if q3.1 = true then
some (true, q3.2)
else
Option.bind (f_X12_readSum q3.2) fun q4 =>
if q4.1 = true then
Option.bind (f_X12_sign q4.2 60) fun q5 =>
if q5.1 = true then
f_X12_readAtom_body_j152 rA q5.2 q5.1
else
Option.bind (f_X12_sign q5.2 62) fun q6 =>
if q6.1 = true then
f_X12_readAtom_body_j152 rA q6.2 q5.1
else
f_X12_readAtom_body_j159 rA q6.2
else
some (false, q4.2)
def f_X12_readAtom : Nat → Mem → Option (Bool × Mem)
  | 0 => fun _ => none
  | k + 1 => f_X12_readAtom_body (f_X12_readAtom k)
def f_X12_readLawLine_j128 (μ : Mem) (l2 : Int32) : Option (Bool × Mem) :=
Option.bind (wr μ 265 2068 (l2 + 3) (μ 264 16)) fun μ1 =>
some (true, μ1)
def f_X12_readLawLine_j53 (μ : Mem) (l2 : Int32) (k1 : Int32) (k2 : Int32) : Option (Bool × Mem) :=
Option.bind (wr μ 265 2068 k1 k2) fun μ1 =>
Option.bind (rd μ1 265 2068 l2) fun t2 =>
if 0 ≤ t2 then
Option.bind (f_X12_number μ1 0 99) fun q3 =>
Option.bind (wr q3.2 265 2068 (l2 + 1) q3.1) fun μ4 =>
Option.bind (rd μ4 265 2068 (l2 + 1)) fun t5 =>
if 0 ≤ t5 then
Option.bind (wr μ4 265 2068 (l2 + 2) (μ4 264 16)) fun μ6 =>
Option.bind (f_X12_passes (mset μ6 264 13 0) 78) fun q7 =>
if q7.1 = true then
Option.bind (f_X12_readCond (f_X12_readAtom 8) q7.2) fun q8 =>
if q8.1 = true then
f_X12_readLawLine_j128 q8.2 l2
else
some (false, q8.2)
else
f_X12_readLawLine_j128 q7.2 l2
else
some (false, μ4)
else
some (false, μ1)
def f_X12_readLawLine (μ : Mem) (p1 : Int32) : Option (Bool × Mem) :=
Option.bind (f_X12_isWord μ 75) fun t1 =>
if t1 = true then
f_X12_readLawLine_j53 μ (1220 + (4 * p1)) (1220 + (4 * p1)) 0
else
Option.bind (f_X12_isWord μ 76) fun t2 =>
if t2 = true then
f_X12_readLawLine_j53 μ (1220 + (4 * p1)) (1220 + (4 * p1)) 1
else
Option.bind (f_X12_isWord μ 77) fun t3 =>
Option.bind (wr μ 265 2068 (1220 + (4 * p1)) (if t3 = true then (2 : Int32) else (-1))) fun μ5 =>
Option.bind (rd μ5 265 2068 (1220 + (4 * p1))) fun t6 =>
if 0 ≤ t6 then
Option.bind (f_X12_number μ5 0 99) fun q7 =>
Option.bind (wr q7.2 265 2068 ((1220 + (4 * p1)) + 1) q7.1) fun μ8 =>
Option.bind (rd μ8 265 2068 ((1220 + (4 * p1)) + 1)) fun t9 =>
if 0 ≤ t9 then
Option.bind (wr μ8 265 2068 ((1220 + (4 * p1)) + 2) (μ8 264 16)) fun μ10 =>
Option.bind (f_X12_passes (mset μ10 264 13 0) 78) fun q11 =>
if q11.1 = true then
Option.bind (f_X12_readCond (f_X12_readAtom 8) q11.2) fun q12 =>
if q12.1 = true then
f_X12_readLawLine_j128 q12.2 (1220 + (4 * p1))
else
some (false, q12.2)
else
f_X12_readLawLine_j128 q11.2 (1220 + (4 * p1))
else
some (false, μ8)
else
some (false, μ5)
def f_X12_readLine_j46 (μ : Mem) (k0 : Bool) : Option (Bool × Mem) :=
some (k0, μ)
def f_X12_readLine_j45 (μ : Mem) : Option (Bool × Mem) :=
f_X12_readLine_j46 μ false
def f_X12_readLine (μ : Mem) (p1 : Bool) (p2 : Int32) : Option (Bool × Mem) :=
Option.bind (f_X12_letters μ) fun q1 =>
if (if p1 = true then (14 : Int32) else 12) ≤ p2 then
f_X12_readLine_j45 q1
else
if p1 = true then
Option.bind (f_X12_readLandLine q1) fun q5 =>
some ((if q5.1 = true then (true : Bool) else false), q5.2)
else
Option.bind (f_X12_readLawLine q1 p2) fun q3 =>
some ((if q3.1 = true then (true : Bool) else false), q3.2)
def f_X12_readAll_b28 (μ : Mem) (l1 : Bool) (l2 : Int32) : Option ((Int32 × Mem) ⊕ (Int32 × Mem)) :=
Option.bind (f_X12_readLine μ l1 l2) fun q1 =>
if q1.1 = true then
Option.bind (f_X12_blanks q1.2) fun q2 =>
if (q2 264 10) = (q2 264 11) then
some (.inr ((l2 + 1), q2))
else
Option.bind (f_X12_isAt q2 59 59) fun t3 =>
if t3 = true then
some (.inl ((l2 + 1), (mset q2 264 10 ((q2 264 10) + 1))))
else
some (.inr ((-1), q2))
else
some (.inr ((-1), q1.2))
def f_X12_readAll_l28 (μ : Mem) (l1 : Bool) (l2 : Int32) : Option (Int32 × Mem) := Option.bind (loopN 10000 (fun z : (Int32 × Mem) => f_X12_readAll_b28 z.2 l1 z.1) (l2, μ)) fun t : (Int32 × Mem) => some t
def f_X12_readAll (μ : Mem) (p1 : Bool) : Option (Int32 × Mem) :=
Option.bind (f_X12_uses μ) fun q1 =>
Option.bind (f_X12_blanks (mset q1 264 16 0)) fun q2 =>
if (q2 264 10) = (q2 264 11) then
some (0, q2)
else
f_X12_readAll_l28 q2 p1 0
def f_X12_land_b2 (μ : Mem) (l1 : Int32) : Option ((Int32 × Mem) ⊕ Mem) :=
if 1219 ≤ l1 then
some (.inr μ)
else
Option.bind (rd μ 265 2068 l1) fun t1 =>
Option.bind (wr μ 267 1219 l1 t1) fun μ2 =>
some (.inl ((l1 + 1), μ2))
def f_X12_land_b92 (μ : Mem) (l2 : Int32) : Option ((Int32 × Mem) ⊕ Mem) :=
if 1219 ≤ l2 then
some (.inr μ)
else
Option.bind (rd μ 267 1219 l2) fun t1 =>
Option.bind (wr μ 265 2068 l2 t1) fun μ2 =>
some (.inl ((l2 + 1), μ2))
def f_X12_land_j117 (μ : Mem) : Option (Int32 × Mem) :=
some (0, μ)
def f_X12_land_l92 (μ : Mem) (l2 : Int32) : Option (Int32 × Mem) := Option.bind (loopN 10000 (fun z : (Int32 × Mem) => f_X12_land_b92 z.2 z.1) (l2, μ)) fun t : Mem => f_X12_land_j117 t
def f_X12_land_j90 (μ : Mem) : Option (Int32 × Mem) :=
f_X12_land_l92 μ 0
def f_X12_land_j27 (μ : Mem) : Option (Int32 × Mem) :=
Option.bind (f_X12_readAll μ true) fun q1 =>
Option.bind (f_X12_throwsIf (mset q1.2 264 14 (if 0 ≤ q1.1 then ((-1) : Int32) else (q1.2 264 12))) (if 0 ≤ q1.1 then (false : Bool) else true) 1) fun q4 =>
if q4.1 = true then
f_X12_land_j90 q4.2
else
Option.bind (rd q4.2 265 2068 1) fun t5 =>
Option.bind (f_X12_throwsIf q4.2 (if t5 = 12 then (true : Bool) else false) 2) fun q7 =>
if q7.1 = true then
f_X12_land_j90 q7.2
else
Option.bind (rd q7.2 265 2068 1) fun t8 =>
Option.bind (wr q7.2 265 2068 1 (t8 + 1)) fun μ9 =>
Option.bind (rd (mset μ9 264 7 0) 265 2068 1) fun t10 =>
some (t10, (mset μ9 264 7 0))
def f_X12_land_l2 (μ : Mem) (l1 : Int32) : Option (Int32 × Mem) := Option.bind (loopN 10000 (fun z : (Int32 × Mem) => f_X12_land_b2 z.2 z.1) (l1, μ)) fun t : Mem => f_X12_land_j27 t
def f_X12_land (μ : Mem) : Option (Int32 × Mem) :=
f_X12_land_l2 μ 0
def f_X12_law_b52 (μ : Mem) (l1 : Int32) (l2 : Int32) : Option ((Int32 × Mem) ⊕ Mem) :=
if 849 ≤ l2 then
some (.inr μ)
else
Option.bind (rd μ 265 2068 (1219 + l2)) fun t1 =>
Option.bind (wr μ 265 2068 (370 + l2) t1) fun μ2 =>
some (.inl ((l2 + 1), μ2))
def f_X12_law_j85 (μ : Mem) (l1 : Int32) : Option (Int32 × Mem) :=
Option.bind (wr μ 265 2068 2 1) fun μ1 =>
some (l1, (mset μ1 264 7 0))
def f_X12_law_l52 (μ : Mem) (l1 : Int32) (l2 : Int32) : Option (Int32 × Mem) := Option.bind (loopN 10000 (fun z : (Int32 × Mem) => f_X12_law_b52 z.2 l1 z.1) (l2, μ)) fun t : Mem => f_X12_law_j85 t l1
def f_X12_law (μ : Mem) : Option (Int32 × Mem) :=
Option.bind (f_X12_readAll μ false) fun q1 =>
Option.bind (f_X12_throwsIf (mset q1.2 264 14 (if 0 ≤ q1.1 then ((-1) : Int32) else (q1.2 264 12))) (if 0 ≤ q1.1 then (false : Bool) else true) 1) fun q4 =>
if q4.1 = true then
some (0, q4.2)
else
Option.bind (wr q4.2 265 2068 1219 q1.1) fun μ5 =>
f_X12_law_l52 μ5 q1.1 0
def f_X12_slackOf (μ : Mem) (p1 : Int32) : Option Int32 :=
Option.bind (f_X12_isIn μ (2 * p1)) fun t1 =>
Option.bind (f_X12_isIn μ ((2 * p1) + 1)) fun t3 =>
some ((b2i (if t1 = true then (false : Bool) else true)) + (b2i (if t3 = true then (false : Bool) else true)))
def f_X12_heldBy_j38_4 (μ : Mem) (l1 : Int32) (l3 : Int32) (k0 : Int32) (k1 : Int32) : Option ((Int32 × Int32) ⊕ Int32) :=
some (.inl ((k0 ||| k1), (l3 + 1)))
def f_X12_heldBy_j37_4 (μ : Mem) (l1 : Int32) (l3 : Int32) (k0 : Int32) : Option ((Int32 × Int32) ⊕ Int32) :=
f_X12_heldBy_j38_4 μ l1 l3 k0 0
def f_X12_heldBy_b4 (μ : Mem) (l1 : Int32) (l2 : Int32) (l3 : Int32) : Option ((Int32 × Int32) ⊕ Int32) :=
Option.bind (f_X12_laces μ) fun t1 =>
if t1 ≤ l3 then
some (.inr l2)
else
Option.bind (f_X12_isIn μ l3) fun t2 =>
if t2 = true then
f_X12_heldBy_j37_4 μ l1 l3 l2
else
Option.bind (f_X12_ofLace μ l3 1) fun t3 =>
some (.inl ((l2 ||| (if t3 = l1 then ((1 <<< (l3 &&& 31)) : Int32) else 0)), (l3 + 1)))
def f_X12_heldBy_j46 (μ : Mem) (l2 : Int32) : Option Int32 :=
some l2
def f_X12_heldBy_l4 (μ : Mem) (l1 : Int32) (l2 : Int32) (l3 : Int32) : Option Int32 := Option.bind (loopN 10000 (fun z : (Int32 × Int32) => f_X12_heldBy_b4 μ l1 z.1 z.2) (l2, l3)) fun t : Int32 => f_X12_heldBy_j46 μ t
def f_X12_heldBy (μ : Mem) (p1 : Int32) : Option Int32 :=
f_X12_heldBy_l4 μ p1 0 0
def f_X12_isThere (μ : Mem) (p1 : Int32) : Option Bool :=
Option.bind (f_X12_of μ p1 2) fun t1 =>
Option.bind (f_X12_of μ p1 3) fun t2 =>
some (if t1 = t2 then (true : Bool) else false)
def f_X12_factOf (μ : Mem) (p1 : Int32) (p2 : Int32) (p3 : Int32) : Option Int32 :=
if p1 = 0 then
some p3
else
if p1 = 1 then
Option.bind (f_X12_slackOf μ p3) fun t1 =>
some t1
else
if p1 = 2 then
Option.bind (f_X12_heldBy μ p3) fun t2 =>
Option.bind (f_J6_bitCount_0f7a4 μ t2) fun t3 =>
some t3
else
if p1 = 3 then
Option.bind (f_X12_of μ p3 2) fun t4 =>
some t4
else
if p1 = 4 then
Option.bind (f_X12_of μ p3 2) fun t5 =>
Option.bind (rd μ 265 2068 (8 + t5)) fun t6 =>
some t6
else
if p1 = 5 then
Option.bind (f_X12_of μ p3 4) fun t7 =>
some t7
else
if p1 = 6 then
Option.bind (rd μ 265 2068 3) fun t8 =>
some t8
else
if p1 = 7 then
Option.bind (f_X12_slackOf μ p3) fun t9 =>
some (b2i (if t9 = 1 then (false : Bool) else true))
else
if p1 = 8 then
Option.bind (f_X12_isThere μ p3) fun t11 =>
some (b2i (if t11 = true then (true : Bool) else false))
else
some p2
def f_X12_holdsLine_j257_22 (μ : Mem) (l2 : Int32) (l3 : Int32) (l4 : Int32) (l5 : Int32) : Option ((Int32 × Int32 × Mem) ⊕ (Int32 × Mem)) :=
some (.inl (l3, (l5 + 1), μ))
def f_X12_holdsLine_b22 (μ : Mem) (l2 : Int32) (l3 : Int32) (l4 : Int32) (l5 : Int32) : Option ((Int32 × Int32 × Mem) ⊕ (Int32 × Mem)) :=
Option.bind (rd μ 265 2068 (l4 + 3)) fun t1 =>
if t1 ≤ l5 then
some (.inr (l3, μ))
else
Option.bind (rd μ 265 2068 (419 + (2 * l5))) fun t2 =>
if 9 < t2 then
if t2 = 13 then
Option.bind (rd μ 272 400 (l3 - 1)) fun t11 =>
Option.bind (wr μ 272 400 (l3 - 1) (1 - t11)) fun μ12 =>
f_X12_holdsLine_j257_22 μ12 l2 l3 l4 l5
else
Option.bind (rd μ 272 400 ((l3 + (-1)) - 1)) fun t3 =>
Option.bind (rd μ 272 400 (l3 + (-1))) fun t4 =>
if t2 = 11 then
Option.bind (wr μ 272 400 ((l3 + (-1)) - 1) (if t2 = 10 then ((t3 + t4) : Int32) else (if (if t4 ≤ t3 then (false : Bool) else true) = true then (1 : Int32) else 0))) fun μ10 =>
f_X12_holdsLine_j257_22 μ10 l2 (l3 + (-1)) l4 l5
else
Option.bind (wr μ 272 400 ((l3 + (-1)) - 1) (if t2 = 10 then ((t3 + t4) : Int32) else (if (if t2 = 12 then ((if t3 ≤ t4 then (false : Bool) else true) : Bool) else (if t2 = 14 then ((if (t3 + t4) = 2 then (true : Bool) else false) : Bool) else (if (t3 + t4) ≤ 0 then (false : Bool) else true))) = true then (1 : Int32) else 0))) fun μ7 =>
f_X12_holdsLine_j257_22 μ7 l2 (l3 + (-1)) l4 l5
else
Option.bind (rd μ 265 2068 ((419 + (2 * l5)) + 1)) fun t13 =>
Option.bind (f_X12_factOf μ t2 t13 l2) fun t14 =>
Option.bind (wr μ 272 400 l3 t14) fun μ15 =>
f_X12_holdsLine_j257_22 μ15 l2 (l3 + 1) l4 l5
def f_X12_holdsLine_j282 (μ : Mem) (k0 : Bool) : Option (Bool × Mem) :=
some (k0, μ)
def f_X12_holdsLine_j277 (μ : Mem) : Option (Bool × Mem) :=
f_X12_holdsLine_j282 μ true
def f_X12_holdsLine_j263 (μ : Mem) (l3 : Int32) : Option (Bool × Mem) :=
if l3 = 0 then
f_X12_holdsLine_j277 μ
else
Option.bind (rd μ 272 400 0) fun t1 =>
some ((if t1 = 1 then (true : Bool) else false), μ)
def f_X12_holdsLine_l22 (μ : Mem) (l2 : Int32) (l3 : Int32) (l4 : Int32) (l5 : Int32) : Option (Bool × Mem) := Option.bind (loopN 10000 (fun z : (Int32 × Int32 × Mem) => f_X12_holdsLine_b22 z.2.2 l2 z.1 l4 z.2.1) (l3, l5, μ)) fun t : (Int32 × Mem) => f_X12_holdsLine_j263 t.2 t.1
def f_X12_holdsLine (μ : Mem) (p1 : Int32) (p2 : Int32) : Option (Bool × Mem) :=
Option.bind (rd μ 265 2068 ((371 + (4 * p1)) + 2)) fun t1 =>
f_X12_holdsLine_l22 μ p2 0 (371 + (4 * p1)) t1
def f_X12_hasLaw (μ : Mem) : Option Bool :=
Option.bind (rd μ 265 2068 2) fun t1 =>
some (if t1 = 1 then (true : Bool) else false)
def f_X12_sumOf_j63_5 (μ : Mem) (l1 : Int32) (l2 : Int32) (l3 : Int32) (l4 : Int32) : Option ((Int32 × Int32 × Mem) ⊕ (Int32 × Mem)) :=
some (.inl (l3, (l4 + 1), μ))
def f_X12_sumOf_b5 (μ : Mem) (l1 : Int32) (l2 : Int32) (l3 : Int32) (l4 : Int32) : Option ((Int32 × Int32 × Mem) ⊕ (Int32 × Mem)) :=
Option.bind (rd μ 265 2068 370) fun t1 =>
if t1 ≤ l4 then
some (.inr (l3, μ))
else
Option.bind (rd μ 265 2068 (371 + (4 * l4))) fun t2 =>
if t2 = l1 then
Option.bind (f_X12_holdsLine μ l4 l2) fun q3 =>
if q3.1 = true then
Option.bind (rd q3.2 265 2068 ((371 + (4 * l4)) + 1)) fun t4 =>
f_X12_sumOf_j63_5 q3.2 l1 l2 (l3 + t4) l4
else
f_X12_sumOf_j63_5 q3.2 l1 l2 l3 l4
else
f_X12_sumOf_j63_5 μ l1 l2 l3 l4
def f_X12_sumOf_j69 (μ : Mem) (l3 : Int32) : Option (Int32 × Mem) :=
some (l3, μ)
def f_X12_sumOf_l5 (μ : Mem) (l1 : Int32) (l2 : Int32) (l3 : Int32) (l4 : Int32) : Option (Int32 × Mem) := Option.bind (loopN 10000 (fun z : (Int32 × Int32 × Mem) => f_X12_sumOf_b5 z.2.2 l1 l2 z.1 z.2.1) (l3, l4, μ)) fun t : (Int32 × Mem) => f_X12_sumOf_j69 t.2 t.1
def f_X12_sumOf (μ : Mem) (p1 : Int32) (p2 : Int32) : Option (Int32 × Mem) :=
f_X12_sumOf_l5 μ p1 p2 0 0
def f_X12_walksBy_j30 (μ : Mem) (k0 : Int32) (k1 : Int32) (k2 : Int32) : Option (Int32 × Mem) :=
Option.bind (f_J9_max_7cf53 μ k0 (k1 - k2)) fun t1 =>
some (t1, μ)
def f_X12_walksBy (μ : Mem) (p1 : Int32) : Option (Int32 × Mem) :=
Option.bind (f_X12_of μ p1 1) fun t1 =>
Option.bind (f_X12_hasLaw μ) fun t2 =>
if t2 = true then
Option.bind (f_X12_sumOf μ 0 p1) fun q4 =>
f_X12_walksBy_j30 q4.2 0 t1 q4.1
else
Option.bind (f_X12_slackOf μ p1) fun t3 =>
f_X12_walksBy_j30 μ 0 t1 (2 * t3)
def f_X12_fallsBy_j26 (μ : Mem) (k0 : Int32) (k1 : Int32) : Option (Int32 × Mem) :=
Option.bind (f_J9_min_7cf53 μ k0 k1) fun t1 =>
some (t1, μ)
def f_X12_fallsBy (μ : Mem) (p1 : Int32) : Option (Int32 × Mem) :=
Option.bind (f_X12_hasLaw μ) fun t1 =>
if t1 = true then
Option.bind (f_X12_sumOf μ 2 p1) fun q3 =>
f_X12_fallsBy_j26 q3.2 100 q3.1
else
Option.bind (f_X12_slackOf μ p1) fun t2 =>
f_X12_fallsBy_j26 μ 100 (10 * t2)
def f_X12_growsBy_j26 (μ : Mem) (k0 : Int32) (k1 : Int32) : Option (Int32 × Mem) :=
some ((k0 + k1), μ)
def f_X12_growsBy (μ : Mem) (p1 : Int32) : Option (Int32 × Mem) :=
Option.bind (f_X12_ofLace μ p1 3) fun t1 =>
Option.bind (f_X12_hasLaw μ) fun t2 =>
if t2 = true then
Option.bind (f_X12_ownerOf μ p1) fun t3 =>
Option.bind (f_X12_sumOf μ 1 t3) fun q4 =>
f_X12_growsBy_j26 q4.2 t1 q4.1
else
f_X12_growsBy_j26 μ t1 0
def f_X12_owesOf_j34_6 (μ : Mem) (l1 : Int32) (l3 : Int32) (k0 : Int32) (k1 : Int32) : Option ((Int32 × Int32) ⊕ Int32) :=
some (.inl ((k0 + k1), (l3 + 1)))
def f_X12_owesOf_b6 (μ : Mem) (l1 : Int32) (l2 : Int32) (l3 : Int32) : Option ((Int32 × Int32) ⊕ Int32) :=
if ((2 * l1) + 1) < l3 then
some (.inr l2)
else
Option.bind (f_X12_isPledged μ l3) fun t1 =>
if t1 = true then
Option.bind (f_X12_ofLace μ l3 2) fun t2 =>
f_X12_owesOf_j34_6 μ l1 l3 l2 t2
else
f_X12_owesOf_j34_6 μ l1 l3 l2 0
def f_X12_owesOf_j42 (μ : Mem) (l2 : Int32) : Option Int32 :=
some l2
def f_X12_owesOf_l6 (μ : Mem) (l1 : Int32) (l2 : Int32) (l3 : Int32) : Option Int32 := Option.bind (loopN 10000 (fun z : (Int32 × Int32) => f_X12_owesOf_b6 μ l1 z.1 z.2) (l2, l3)) fun t : Int32 => f_X12_owesOf_j42 μ t
def f_X12_owesOf (μ : Mem) (p1 : Int32) : Option Int32 :=
f_X12_owesOf_l6 μ p1 0 (2 * p1)
def f_X12_dueTo_j41_4 (μ : Mem) (l1 : Int32) (l3 : Int32) (k0 : Int32) (k1 : Int32) : Option ((Int32 × Int32) ⊕ Int32) :=
some (.inl ((k0 + k1), (l3 + 1)))
def f_X12_dueTo_j40_4 (μ : Mem) (l1 : Int32) (l3 : Int32) (k0 : Int32) : Option ((Int32 × Int32) ⊕ Int32) :=
f_X12_dueTo_j41_4 μ l1 l3 k0 0
def f_X12_dueTo_b4 (μ : Mem) (l1 : Int32) (l2 : Int32) (l3 : Int32) : Option ((Int32 × Int32) ⊕ Int32) :=
Option.bind (f_X12_laces μ) fun t1 =>
if t1 ≤ l3 then
some (.inr l2)
else
Option.bind (f_X12_isPledged μ l3) fun t2 =>
if t2 = true then
Option.bind (f_X12_ofLace μ l3 1) fun t3 =>
if t3 = l1 then
Option.bind (f_X12_ofLace μ l3 2) fun t4 =>
f_X12_dueTo_j41_4 μ l1 l3 l2 t4
else
f_X12_dueTo_j40_4 μ l1 l3 l2
else
f_X12_dueTo_j40_4 μ l1 l3 l2
def f_X12_dueTo_j49 (μ : Mem) (l2 : Int32) : Option Int32 :=
some l2
def f_X12_dueTo_l4 (μ : Mem) (l1 : Int32) (l2 : Int32) (l3 : Int32) : Option Int32 := Option.bind (loopN 10000 (fun z : (Int32 × Int32) => f_X12_dueTo_b4 μ l1 z.1 z.2) (l2, l3)) fun t : Int32 => f_X12_dueTo_j49 μ t
def f_X12_dueTo (μ : Mem) (p1 : Int32) : Option Int32 :=
f_X12_dueTo_l4 μ p1 0 0
def f_X12_lostOnes_b4 (μ : Mem) (l1 : Int32) (l2 : Int32) : Option ((Int32 × Int32) ⊕ Int32) :=
Option.bind (f_X12_laces μ) fun t1 =>
if t1 ≤ l2 then
some (.inr l1)
else
Option.bind (f_X12_isLost μ l2) fun t2 =>
some (.inl ((l1 ||| (if t2 = true then ((1 <<< (l2 &&& 31)) : Int32) else 0)), (l2 + 1)))
def f_X12_lostOnes_j36 (μ : Mem) (l1 : Int32) : Option Int32 :=
some l1
def f_X12_lostOnes_l4 (μ : Mem) (l1 : Int32) (l2 : Int32) : Option Int32 := Option.bind (loopN 10000 (fun z : (Int32 × Int32) => f_X12_lostOnes_b4 μ z.1 z.2) (l1, l2)) fun t : Int32 => f_X12_lostOnes_j36 μ t
def f_X12_lostOnes (μ : Mem) : Option Int32 :=
f_X12_lostOnes_l4 μ 0 0
def f_X12_pledgedOnes_b4 (μ : Mem) (l1 : Int32) (l2 : Int32) : Option ((Int32 × Int32) ⊕ Int32) :=
Option.bind (f_X12_laces μ) fun t1 =>
if t1 ≤ l2 then
some (.inr l1)
else
Option.bind (f_X12_isPledged μ l2) fun t2 =>
some (.inl ((l1 ||| (if t2 = true then ((1 <<< (l2 &&& 31)) : Int32) else 0)), (l2 + 1)))
def f_X12_pledgedOnes_j36 (μ : Mem) (l1 : Int32) : Option Int32 :=
some l1
def f_X12_pledgedOnes_l4 (μ : Mem) (l1 : Int32) (l2 : Int32) : Option Int32 := Option.bind (loopN 10000 (fun z : (Int32 × Int32) => f_X12_pledgedOnes_b4 μ z.1 z.2) (l1, l2)) fun t : Int32 => f_X12_pledgedOnes_j36 μ t
def f_X12_pledgedOnes (μ : Mem) : Option Int32 :=
f_X12_pledgedOnes_l4 μ 0 0
def f_X12_shareOf_j31 (μ : Mem) (k0 : Int32) : Option Int32 :=
some k0
def f_X12_shareOf (μ : Mem) (p1 : Int32) : Option Int32 :=
Option.bind (f_X12_lostOnes μ) fun t1 =>
if t1 = 0 then
f_X12_shareOf_j31 μ 0
else
Option.bind (f_X12_heldBy μ p1) fun t2 =>
Option.bind (f_J6_bitCount_0f7a4 μ (t1 &&& t2)) fun t3 =>
Option.bind (f_J6_bitCount_0f7a4 μ t1) fun t4 =>
Option.bind (dv (100 * t3) t4) fun t5 =>
f_X12_shareOf_j31 μ t5
def f_X12_person_j41 (μ : Mem) : Option (Int32 × Mem) :=
some (0, μ)
def f_X12_person (μ : Mem) (p1 : Int32) (p2 : Int32) : Option (Int32 × Mem) :=
Option.bind (f_X12_noPerson (mset μ 264 0 0) p1) fun t1 =>
Option.bind (f_X12_throwsIf (mset μ 264 0 0) t1 1) fun q2 =>
if q2.1 = true then
f_X12_person_j41 q2.2
else
Option.bind (f_X12_in q2.2 p2 0 10) fun t3 =>
Option.bind (f_X12_throwsIf q2.2 (if t3 = true then (false : Bool) else true) 2) fun q5 =>
if q5.1 = true then
f_X12_person_j41 q5.2
else
if p2 = 5 then
Option.bind (f_X12_isIn q5.2 (2 * p1)) fun t6 =>
Option.bind (f_X12_isIn q5.2 ((2 * p1) + 1)) fun t8 =>
some (((b2i (if t6 = true then (false : Bool) else true)) + (if t8 = true then (0 : Int32) else 2)), q5.2)
else
if p2 = 6 then
Option.bind (f_X12_heldBy q5.2 p1) fun t10 =>
some (t10, q5.2)
else
if p2 = 7 then
Option.bind (f_X12_owesOf q5.2 p1) fun t11 =>
some (t11, q5.2)
else
if p2 = 8 then
Option.bind (f_X12_dueTo q5.2 p1) fun t12 =>
some (t12, q5.2)
else
if p2 = 9 then
Option.bind (f_X12_of q5.2 p1 0) fun t13 =>
Option.bind (f_X12_dueTo q5.2 p1) fun t14 =>
Option.bind (f_X12_owesOf q5.2 p1) fun t15 =>
some (((t13 + t14) - t15), q5.2)
else
if p2 = 10 then
Option.bind (f_X12_shareOf q5.2 p1) fun t16 =>
some (t16, q5.2)
else
Option.bind (f_X12_of q5.2 p1 p2) fun t17 =>
some (t17, q5.2)
def f_X12_lace_j50 (μ : Mem) (k0 : Int32) : Option (Int32 × Mem) :=
some (k0, μ)
def f_X12_lace_j40 (μ : Mem) : Option (Int32 × Mem) :=
f_X12_lace_j50 μ 0
def f_X12_lace (μ : Mem) (p1 : Int32) (p2 : Int32) : Option (Int32 × Mem) :=
Option.bind (f_X12_noLace (mset μ 264 0 0) p1) fun t1 =>
Option.bind (f_X12_throwsIf (mset μ 264 0 0) t1 1) fun q2 =>
if q2.1 = true then
f_X12_lace_j40 q2.2
else
Option.bind (f_X12_in q2.2 p2 0 5) fun t3 =>
Option.bind (f_X12_throwsIf q2.2 (if t3 = true then (false : Bool) else true) 2) fun q5 =>
if q5.1 = true then
f_X12_lace_j40 q5.2
else
Option.bind (f_X12_ofLace q5.2 p1 p2) fun t6 =>
f_X12_lace_j50 q5.2 t6
def f_X12_mud_j30 (μ : Mem) (k0 : Int32) : Option (Int32 × Mem) :=
some (k0, μ)
def f_X12_mud (μ : Mem) (p1 : Int32) : Option (Int32 × Mem) :=
Option.bind (f_X12_noPlace (mset μ 264 0 0) p1) fun t1 =>
Option.bind (f_X12_throwsIf (mset μ 264 0 0) t1 1) fun q2 =>
if q2.1 = true then
f_X12_mud_j30 q2.2 0
else
Option.bind (rd q2.2 265 2068 (8 + p1)) fun t3 =>
f_X12_mud_j30 q2.2 t3
def f_X12_walks_j40 (μ : Mem) : Option (Int32 × Mem) :=
some (0, μ)
def f_X12_walks_j59 (μ : Mem) (k0 : Int32) : Option (Int32 × Mem) :=
some (k0, μ)
def f_X12_walks (μ : Mem) (p1 : Int32) (p2 : Int32) : Option (Int32 × Mem) :=
Option.bind (f_X12_noPerson (mset μ 264 0 0) p1) fun t1 =>
Option.bind (f_X12_throwsIf (mset μ 264 0 0) t1 1) fun q2 =>
if q2.1 = true then
f_X12_walks_j40 q2.2
else
Option.bind (f_X12_in q2.2 p2 0 1) fun t3 =>
Option.bind (f_X12_throwsIf q2.2 (if t3 = true then (false : Bool) else true) 2) fun q5 =>
if q5.1 = true then
f_X12_walks_j40 q5.2
else
if p2 = 0 then
Option.bind (f_X12_walksBy q5.2 p1) fun q7 =>
f_X12_walks_j59 q7.2 q7.1
else
Option.bind (f_X12_fallsBy q5.2 p1) fun q6 =>
f_X12_walks_j59 q6.2 q6.1
def f_X12_grows_j35 (μ : Mem) (k0 : Int32) : Option (Int32 × Mem) :=
some (k0, μ)
def f_X12_grows_j26 (μ : Mem) : Option (Int32 × Mem) :=
f_X12_grows_j35 μ 0
def f_X12_grows (μ : Mem) (p1 : Int32) : Option (Int32 × Mem) :=
Option.bind (f_X12_noLace (mset μ 264 0 0) p1) fun t1 =>
Option.bind (f_X12_throwsIf (mset μ 264 0 0) t1 1) fun q2 =>
if q2.1 = true then
f_X12_grows_j26 q2.2
else
Option.bind (f_X12_isPledged q2.2 p1) fun t3 =>
if t3 = true then
Option.bind (f_X12_growsBy q2.2 p1) fun q4 =>
f_X12_grows_j35 q4.2 q4.1
else
f_X12_grows_j26 q2.2
def f_X12_tells_b5 (μ : Mem) (l1 : Int32) (l2 : Int32) (l3 : Int32) (l4 : Int32) : Option ((Int32 × Mem) ⊕ Mem) :=
if l4 < 4 then
some (.inr μ)
else
Option.bind (rd μ 265 2068 ((130 + l4) - 4)) fun t1 =>
Option.bind (wr μ 265 2068 (130 + l4) t1) fun μ2 =>
some (.inl ((l4 + (-1)), μ2))
def f_X12_tells_j41 (μ : Mem) (l1 : Int32) (l2 : Int32) (l3 : Int32) : Option Mem :=
Option.bind (rd μ 265 2068 3) fun t1 =>
Option.bind (wr μ 265 2068 130 t1) fun μ2 =>
Option.bind (wr μ2 265 2068 131 l1) fun μ3 =>
Option.bind (wr μ3 265 2068 132 l2) fun μ4 =>
Option.bind (wr μ4 265 2068 133 l3) fun μ5 =>
Option.bind (rd μ5 265 2068 6) fun t6 =>
Option.bind (f_J9_min_7cf53 μ5 60 (t6 + 1)) fun t7 =>
Option.bind (wr μ5 265 2068 6 t7) fun μ8 =>
some μ8
def f_X12_tells_l5 (μ : Mem) (l1 : Int32) (l2 : Int32) (l3 : Int32) (l4 : Int32) : Option Mem := Option.bind (loopN 10000 (fun z : (Int32 × Mem) => f_X12_tells_b5 z.2 l1 l2 l3 z.1) (l4, μ)) fun t : Mem => f_X12_tells_j41 t l1 l2 l3
def f_X12_tells (μ : Mem) (p1 : Int32) (p2 : Int32) (p3 : Int32) : Option Mem :=
f_X12_tells_l5 μ p1 p2 p3 239
def f_X12_isPaid (μ : Mem) (p1 : Int32) (p2 : Int32) : Option Mem :=
Option.bind (f_X12_ofLace μ p1 2) fun t1 =>
Option.bind (f_X12_at μ p2 0) fun t2 =>
Option.bind (rd μ 265 2068 t2) fun t3 =>
Option.bind (wr μ 265 2068 t2 (t3 - t1)) fun μ4 =>
Option.bind (f_X12_ofLace μ4 p1 1) fun t5 =>
Option.bind (f_X12_gets μ4 t5 t1) fun q6 =>
Option.bind (f_X12_comesBack q6 p1) fun q7 =>
Option.bind (f_X12_tells q7 p1 1 t1) fun q8 =>
some q8
def f_X12_isLostNow (μ : Mem) (p1 : Int32) : Option Mem :=
Option.bind (f_X12_ofLace μ p1 2) fun t1 =>
Option.bind (f_X12_ofLace μ p1 1) fun t2 =>
Option.bind (f_X12_tellsLace μ p1 2 t2 0 0 0) fun q3 =>
Option.bind (f_X12_tells q3 p1 2 t1) fun q4 =>
some q4
def f_X12_lend_j117 (μ : Mem) (l1 : Int32) (l2 : Int32) (l3 : Int32) (l4 : Int32) (l5 : Int32) (k1 : Bool) : Option (Int32 × Mem) :=
Option.bind (f_X12_throwsIf μ k1 3) fun q1 =>
if q1.1 = true then
some (0, q1.2)
else
Option.bind (f_X12_remembers q1.2) fun q2 =>
Option.bind (f_X12_at q2 l1 0) fun t3 =>
Option.bind (rd q2 265 2068 t3) fun t4 =>
Option.bind (wr q2 265 2068 t3 (t4 - l3)) fun μ5 =>
Option.bind (f_X12_ownerOf μ5 l2) fun t6 =>
Option.bind (f_X12_gets μ5 t6 l3) fun q7 =>
Option.bind (f_X12_tellsLace q7 l2 1 l1 l3 l4 l5) fun q8 =>
Option.bind (f_X12_tells q8 l2 0 l3) fun q9 =>
Option.bind (f_X12_of q9 l1 0) fun t10 =>
some (t10, q9)
def f_X12_lend_j112 (μ : Mem) (l1 : Int32) (l2 : Int32) (l3 : Int32) (l4 : Int32) (l5 : Int32) : Option (Int32 × Mem) :=
f_X12_lend_j117 μ l1 l2 l3 l4 l5 true
def f_X12_lend_j84 (μ : Mem) (l1 : Int32) (l2 : Int32) (l3 : Int32) (l4 : Int32) (l5 : Int32) (k1 : Bool) : Option (Int32 × Mem) :=
Option.bind (f_X12_throwsIf μ k1 2) fun q1 =>
if q1.1 = true then
some (0, q1.2)
else
Option.bind (f_X12_isIn q1.2 l2) fun t2 =>
if t2 = true then
Option.bind (f_X12_of q1.2 l1 0) fun t3 =>
Option.bind (f_X12_throwsIf q1.2 (if l3 ≤ t3 then (false : Bool) else true) 3) fun q5 =>
if q5.1 = true then
some (0, q5.2)
else
Option.bind (f_X12_remembers q5.2) fun q6 =>
Option.bind (f_X12_at q6 l1 0) fun t7 =>
Option.bind (rd q6 265 2068 t7) fun t8 =>
Option.bind (wr q6 265 2068 t7 (t8 - l3)) fun μ9 =>
Option.bind (f_X12_ownerOf μ9 l2) fun t10 =>
Option.bind (f_X12_gets μ9 t10 l3) fun q11 =>
Option.bind (f_X12_tellsLace q11 l2 1 l1 l3 l4 l5) fun q12 =>
Option.bind (f_X12_tells q12 l2 0 l3) fun q13 =>
Option.bind (f_X12_of q13 l1 0) fun t14 =>
some (t14, q13)
else
f_X12_lend_j112 q1.2 l1 l2 l3 l4 l5
def f_X12_lend_j79 (μ : Mem) (l1 : Int32) (l2 : Int32) (l3 : Int32) (l4 : Int32) (l5 : Int32) : Option (Int32 × Mem) :=
f_X12_lend_j84 μ l1 l2 l3 l4 l5 true
def f_X12_lend_j27 (μ : Mem) (l1 : Int32) (l2 : Int32) (l3 : Int32) (l4 : Int32) (l5 : Int32) (k1 : Bool) : Option (Int32 × Mem) :=
Option.bind (f_X12_throwsIf μ k1 1) fun q1 =>
if q1.1 = true then
some (0, q1.2)
else
Option.bind (f_X12_ownerOf q1.2 l2) fun t2 =>
if l1 = t2 then
f_X12_lend_j79 q1.2 l1 l2 l3 l4 l5
else
Option.bind (f_X12_in q1.2 l3 1 999) fun t3 =>
if t3 = true then
Option.bind (f_X12_in q1.2 l4 0 9) fun t4 =>
if t4 = true then
Option.bind (f_X12_in q1.2 l5 1 9999) fun t5 =>
Option.bind (f_X12_throwsIf q1.2 (if t5 = true then (false : Bool) else true) 2) fun q7 =>
if q7.1 = true then
some (0, q7.2)
else
Option.bind (f_X12_isIn q7.2 l2) fun t8 =>
if t8 = true then
Option.bind (f_X12_of q7.2 l1 0) fun t9 =>
Option.bind (f_X12_throwsIf q7.2 (if l3 ≤ t9 then (false : Bool) else true) 3) fun q11 =>
if q11.1 = true then
some (0, q11.2)
else
Option.bind (f_X12_remembers q11.2) fun q12 =>
Option.bind (f_X12_at q12 l1 0) fun t13 =>
Option.bind (rd q12 265 2068 t13) fun t14 =>
Option.bind (wr q12 265 2068 t13 (t14 - l3)) fun μ15 =>
Option.bind (f_X12_ownerOf μ15 l2) fun t16 =>
Option.bind (f_X12_gets μ15 t16 l3) fun q17 =>
Option.bind (f_X12_tellsLace q17 l2 1 l1 l3 l4 l5) fun q18 =>
Option.bind (f_X12_tells q18 l2 0 l3) fun q19 =>
Option.bind (f_X12_of q19 l1 0) fun t20 =>
some (t20, q19)
else
f_X12_lend_j112 q7.2 l1 l2 l3 l4 l5
else
f_X12_lend_j79 q1.2 l1 l2 l3 l4 l5
else
f_X12_lend_j79 q1.2 l1 l2 l3 l4 l5
def f_X12_lend_j22 (μ : Mem) (l1 : Int32) (l2 : Int32) (l3 : Int32) (l4 : Int32) (l5 : Int32) : Option (Int32 × Mem) :=
f_X12_lend_j27 μ l1 l2 l3 l4 l5 true
def f_X12_lend (μ : Mem) (p1 : Int32) (p2 : Int32) (p3 : Int32) (p4 : Int32) (p5 : Int32) : Option (Int32 × Mem) :=
Option.bind (f_X12_noPerson (mset μ 264 0 0) p1) fun t1 =>
if t1 = true then
f_X12_lend_j22 (mset μ 264 0 0) p1 p2 p3 p4 p5
else
Option.bind (f_X12_noLace (mset μ 264 0 0) p2) fun t2 =>
Option.bind (f_X12_throwsIf (mset μ 264 0 0) (if t2 = true then (true : Bool) else false) 1) fun q4 =>
if q4.1 = true then
some (0, q4.2)
else
Option.bind (f_X12_ownerOf q4.2 p2) fun t5 =>
if p1 = t5 then
f_X12_lend_j79 q4.2 p1 p2 p3 p4 p5
else
Option.bind (f_X12_in q4.2 p3 1 999) fun t6 =>
if t6 = true then
Option.bind (f_X12_in q4.2 p4 0 9) fun t7 =>
if t7 = true then
Option.bind (f_X12_in q4.2 p5 1 9999) fun t8 =>
Option.bind (f_X12_throwsIf q4.2 (if t8 = true then (false : Bool) else true) 2) fun q10 =>
if q10.1 = true then
some (0, q10.2)
else
Option.bind (f_X12_isIn q10.2 p2) fun t11 =>
if t11 = true then
Option.bind (f_X12_of q10.2 p1 0) fun t12 =>
Option.bind (f_X12_throwsIf q10.2 (if p3 ≤ t12 then (false : Bool) else true) 3) fun q14 =>
if q14.1 = true then
some (0, q14.2)
else
Option.bind (f_X12_remembers q14.2) fun q15 =>
Option.bind (f_X12_at q15 p1 0) fun t16 =>
Option.bind (rd q15 265 2068 t16) fun t17 =>
Option.bind (wr q15 265 2068 t16 (t17 - p3)) fun μ18 =>
Option.bind (f_X12_ownerOf μ18 p2) fun t19 =>
Option.bind (f_X12_gets μ18 t19 p3) fun q20 =>
Option.bind (f_X12_tellsLace q20 p2 1 p1 p3 p4 p5) fun q21 =>
Option.bind (f_X12_tells q21 p2 0 p3) fun q22 =>
Option.bind (f_X12_of q22 p1 0) fun t23 =>
some (t23, q22)
else
f_X12_lend_j112 q10.2 p1 p2 p3 p4 p5
else
f_X12_lend_j79 q4.2 p1 p2 p3 p4 p5
else
f_X12_lend_j79 q4.2 p1 p2 p3 p4 p5
def f_X12_pay_j57 (μ : Mem) : Option (Int32 × Mem) :=
some (0, μ)
def f_X12_pay_j50 (μ : Mem) (l1 : Int32) (k1 : Bool) : Option (Int32 × Mem) :=
Option.bind (f_X12_throwsIf μ k1 2) fun q1 =>
if q1.1 = true then
f_X12_pay_j57 q1.2
else
Option.bind (f_X12_remembers q1.2) fun q2 =>
Option.bind (f_X12_ofLace q2 l1 2) fun t3 =>
Option.bind (f_X12_ownerOf q2 l1) fun t4 =>
Option.bind (f_X12_isPaid q2 l1 t4) fun q5 =>
some (t3, q5)
def f_X12_pay_j45 (μ : Mem) (l1 : Int32) : Option (Int32 × Mem) :=
f_X12_pay_j50 μ l1 true
def f_X12_pay (μ : Mem) (p1 : Int32) : Option (Int32 × Mem) :=
Option.bind (f_X12_noLace (mset μ 264 0 0) p1) fun t1 =>
Option.bind (f_X12_throwsIf (mset μ 264 0 0) t1 1) fun q2 =>
if q2.1 = true then
f_X12_pay_j57 q2.2
else
Option.bind (f_X12_isPledged q2.2 p1) fun t3 =>
if t3 = true then
Option.bind (f_X12_ownerOf q2.2 p1) fun t4 =>
Option.bind (f_X12_of q2.2 t4 0) fun t5 =>
Option.bind (f_X12_ofLace q2.2 p1 2) fun t6 =>
Option.bind (f_X12_throwsIf q2.2 (if t6 ≤ t5 then (false : Bool) else true) 2) fun q8 =>
if q8.1 = true then
f_X12_pay_j57 q8.2
else
Option.bind (f_X12_remembers q8.2) fun q9 =>
Option.bind (f_X12_ofLace q9 p1 2) fun t10 =>
Option.bind (f_X12_ownerOf q9 p1) fun t11 =>
Option.bind (f_X12_isPaid q9 p1 t11) fun q12 =>
some (t10, q12)
else
f_X12_pay_j45 q2.2 p1
def f_X12_surety_j98 (μ : Mem) : Option (Int32 × Mem) :=
some (0, μ)
def f_X12_surety_j70 (μ : Mem) (l1 : Int32) (l2 : Int32) (k1 : Bool) : Option (Int32 × Mem) :=
Option.bind (f_X12_throwsIf μ k1 2) fun q1 =>
if q1.1 = true then
f_X12_surety_j98 q1.2
else
Option.bind (f_X12_isPledged q1.2 l1) fun t2 =>
Option.bind (f_X12_throwsIf q1.2 (if t2 = true then (false : Bool) else true) 3) fun q4 =>
if q4.1 = true then
f_X12_surety_j98 q4.2
else
Option.bind (f_X12_remembers q4.2) fun q5 =>
Option.bind (f_X12_ofLace q5 l1 5) fun t6 =>
Option.bind (f_X12_laceAt q5 l1 5) fun t7 =>
Option.bind (wr q5 265 2068 t7 l2) fun μ8 =>
some (t6, μ8)
def f_X12_surety_j69 (μ : Mem) (l1 : Int32) (l2 : Int32) : Option (Int32 × Mem) :=
f_X12_surety_j70 μ l1 l2 false
def f_X12_surety_j65 (μ : Mem) (l1 : Int32) (l2 : Int32) : Option (Int32 × Mem) :=
f_X12_surety_j70 μ l1 l2 true
def f_X12_surety_j32 (μ : Mem) (l1 : Int32) (l2 : Int32) (k1 : Bool) : Option (Int32 × Mem) :=
Option.bind (f_X12_throwsIf μ k1 1) fun q1 =>
if q1.1 = true then
some (0, q1.2)
else
if l2 = (-1) then
f_X12_surety_j69 q1.2 l1 l2
else
Option.bind (f_X12_ownerOf q1.2 l1) fun t2 =>
if l2 = t2 then
f_X12_surety_j65 q1.2 l1 l2
else
Option.bind (f_X12_ofLace q1.2 l1 1) fun t3 =>
Option.bind (f_X12_throwsIf q1.2 (if l2 = t3 then (true : Bool) else false) 2) fun q5 =>
if q5.1 = true then
f_X12_surety_j98 q5.2
else
Option.bind (f_X12_isPledged q5.2 l1) fun t6 =>
Option.bind (f_X12_throwsIf q5.2 (if t6 = true then (false : Bool) else true) 3) fun q8 =>
if q8.1 = true then
f_X12_surety_j98 q8.2
else
Option.bind (f_X12_remembers q8.2) fun q9 =>
Option.bind (f_X12_ofLace q9 l1 5) fun t10 =>
Option.bind (f_X12_laceAt q9 l1 5) fun t11 =>
Option.bind (wr q9 265 2068 t11 l2) fun μ12 =>
some (t10, μ12)
def f_X12_surety_j27 (μ : Mem) (l1 : Int32) (l2 : Int32) : Option (Int32 × Mem) :=
f_X12_surety_j32 μ l1 l2 true
def f_X12_surety_j31 (μ : Mem) (l1 : Int32) (l2 : Int32) : Option (Int32 × Mem) :=
f_X12_surety_j32 μ l1 l2 false
def f_X12_surety (μ : Mem) (p1 : Int32) (p2 : Int32) : Option (Int32 × Mem) :=
Option.bind (f_X12_noLace (mset μ 264 0 0) p1) fun t1 =>
if t1 = true then
f_X12_surety_j27 (mset μ 264 0 0) p1 p2
else
if p2 = (-1) then
f_X12_surety_j31 (mset μ 264 0 0) p1 p2
else
Option.bind (f_X12_noPerson (mset μ 264 0 0) p2) fun t2 =>
Option.bind (f_X12_throwsIf (mset μ 264 0 0) (if t2 = true then (true : Bool) else false) 1) fun q4 =>
if q4.1 = true then
some (0, q4.2)
else
if p2 = (-1) then
f_X12_surety_j69 q4.2 p1 p2
else
Option.bind (f_X12_ownerOf q4.2 p1) fun t5 =>
if p2 = t5 then
f_X12_surety_j65 q4.2 p1 p2
else
Option.bind (f_X12_ofLace q4.2 p1 1) fun t6 =>
Option.bind (f_X12_throwsIf q4.2 (if p2 = t6 then (true : Bool) else false) 2) fun q8 =>
if q8.1 = true then
f_X12_surety_j98 q8.2
else
Option.bind (f_X12_isPledged q8.2 p1) fun t9 =>
Option.bind (f_X12_throwsIf q8.2 (if t9 = true then (false : Bool) else true) 3) fun q11 =>
if q11.1 = true then
f_X12_surety_j98 q11.2
else
Option.bind (f_X12_remembers q11.2) fun q12 =>
Option.bind (f_X12_ofLace q12 p1 5) fun t13 =>
Option.bind (f_X12_laceAt q12 p1 5) fun t14 =>
Option.bind (wr q12 265 2068 t14 p2) fun μ15 =>
some (t13, μ15)
def f_X12_give_j108 (μ : Mem) (l1 : Int32) (l2 : Int32) (k1 : Bool) : Option (Int32 × Mem) :=
Option.bind (f_X12_throwsIf μ k1 3) fun q1 =>
if q1.1 = true then
some (0, q1.2)
else
Option.bind (f_X12_remembers q1.2) fun q2 =>
Option.bind (f_X12_ofLace q2 l1 1) fun t3 =>
Option.bind (f_X12_at q2 l2 0) fun t4 =>
Option.bind (rd q2 265 2068 t4) fun t5 =>
Option.bind (f_X12_ofLace q2 l1 2) fun t6 =>
Option.bind (wr q2 265 2068 t4 (t5 - t6)) fun μ7 =>
Option.bind (f_X12_ofLace μ7 l1 2) fun t8 =>
Option.bind (f_X12_gets μ7 t3 t8) fun q9 =>
Option.bind (f_X12_laceAt q9 l1 1) fun t10 =>
Option.bind (wr q9 265 2068 t10 l2) fun μ11 =>
some (t3, μ11)
def f_X12_give_j103 (μ : Mem) (l1 : Int32) (l2 : Int32) : Option (Int32 × Mem) :=
f_X12_give_j108 μ l1 l2 true
def f_X12_give_j70 (μ : Mem) (l1 : Int32) (l2 : Int32) (k1 : Bool) : Option (Int32 × Mem) :=
Option.bind (f_X12_throwsIf μ k1 2) fun q1 =>
if q1.1 = true then
some (0, q1.2)
else
Option.bind (f_X12_isPledged q1.2 l1) fun t2 =>
if t2 = true then
Option.bind (f_X12_of q1.2 l2 0) fun t3 =>
Option.bind (f_X12_ofLace q1.2 l1 2) fun t4 =>
Option.bind (f_X12_throwsIf q1.2 (if t4 ≤ t3 then (false : Bool) else true) 3) fun q6 =>
if q6.1 = true then
some (0, q6.2)
else
Option.bind (f_X12_remembers q6.2) fun q7 =>
Option.bind (f_X12_ofLace q7 l1 1) fun t8 =>
Option.bind (f_X12_at q7 l2 0) fun t9 =>
Option.bind (rd q7 265 2068 t9) fun t10 =>
Option.bind (f_X12_ofLace q7 l1 2) fun t11 =>
Option.bind (wr q7 265 2068 t9 (t10 - t11)) fun μ12 =>
Option.bind (f_X12_ofLace μ12 l1 2) fun t13 =>
Option.bind (f_X12_gets μ12 t8 t13) fun q14 =>
Option.bind (f_X12_laceAt q14 l1 1) fun t15 =>
Option.bind (wr q14 265 2068 t15 l2) fun μ16 =>
some (t8, μ16)
else
f_X12_give_j103 q1.2 l1 l2
def f_X12_give_j65 (μ : Mem) (l1 : Int32) (l2 : Int32) : Option (Int32 × Mem) :=
f_X12_give_j70 μ l1 l2 true
def f_X12_give_j27 (μ : Mem) (l1 : Int32) (l2 : Int32) (k1 : Bool) : Option (Int32 × Mem) :=
Option.bind (f_X12_throwsIf μ k1 1) fun q1 =>
if q1.1 = true then
some (0, q1.2)
else
Option.bind (f_X12_ownerOf q1.2 l1) fun t2 =>
if l2 = t2 then
f_X12_give_j65 q1.2 l1 l2
else
Option.bind (f_X12_ofLace q1.2 l1 1) fun t3 =>
if l2 = t3 then
f_X12_give_j65 q1.2 l1 l2
else
Option.bind (f_X12_ofLace q1.2 l1 5) fun t4 =>
Option.bind (f_X12_throwsIf q1.2 (if l2 = t4 then (true : Bool) else false) 2) fun q6 =>
if q6.1 = true then
some (0, q6.2)
else
Option.bind (f_X12_isPledged q6.2 l1) fun t7 =>
if t7 = true then
Option.bind (f_X12_of q6.2 l2 0) fun t8 =>
Option.bind (f_X12_ofLace q6.2 l1 2) fun t9 =>
Option.bind (f_X12_throwsIf q6.2 (if t9 ≤ t8 then (false : Bool) else true) 3) fun q11 =>
if q11.1 = true then
some (0, q11.2)
else
Option.bind (f_X12_remembers q11.2) fun q12 =>
Option.bind (f_X12_ofLace q12 l1 1) fun t13 =>
Option.bind (f_X12_at q12 l2 0) fun t14 =>
Option.bind (rd q12 265 2068 t14) fun t15 =>
Option.bind (f_X12_ofLace q12 l1 2) fun t16 =>
Option.bind (wr q12 265 2068 t14 (t15 - t16)) fun μ17 =>
Option.bind (f_X12_ofLace μ17 l1 2) fun t18 =>
Option.bind (f_X12_gets μ17 t13 t18) fun q19 =>
Option.bind (f_X12_laceAt q19 l1 1) fun t20 =>
Option.bind (wr q19 265 2068 t20 l2) fun μ21 =>
some (t13, μ21)
else
f_X12_give_j103 q6.2 l1 l2
def f_X12_give_j22 (μ : Mem) (l1 : Int32) (l2 : Int32) : Option (Int32 × Mem) :=
f_X12_give_j27 μ l1 l2 true
def f_X12_give (μ : Mem) (p1 : Int32) (p2 : Int32) : Option (Int32 × Mem) :=
Option.bind (f_X12_noLace (mset μ 264 0 0) p1) fun t1 =>
if t1 = true then
f_X12_give_j22 (mset μ 264 0 0) p1 p2
else
Option.bind (f_X12_noPerson (mset μ 264 0 0) p2) fun t2 =>
Option.bind (f_X12_throwsIf (mset μ 264 0 0) (if t2 = true then (true : Bool) else false) 1) fun q4 =>
if q4.1 = true then
some (0, q4.2)
else
Option.bind (f_X12_ownerOf q4.2 p1) fun t5 =>
if p2 = t5 then
f_X12_give_j65 q4.2 p1 p2
else
Option.bind (f_X12_ofLace q4.2 p1 1) fun t6 =>
if p2 = t6 then
f_X12_give_j65 q4.2 p1 p2
else
Option.bind (f_X12_ofLace q4.2 p1 5) fun t7 =>
Option.bind (f_X12_throwsIf q4.2 (if p2 = t7 then (true : Bool) else false) 2) fun q9 =>
if q9.1 = true then
some (0, q9.2)
else
Option.bind (f_X12_isPledged q9.2 p1) fun t10 =>
if t10 = true then
Option.bind (f_X12_of q9.2 p2 0) fun t11 =>
Option.bind (f_X12_ofLace q9.2 p1 2) fun t12 =>
Option.bind (f_X12_throwsIf q9.2 (if t12 ≤ t11 then (false : Bool) else true) 3) fun q14 =>
if q14.1 = true then
some (0, q14.2)
else
Option.bind (f_X12_remembers q14.2) fun q15 =>
Option.bind (f_X12_ofLace q15 p1 1) fun t16 =>
Option.bind (f_X12_at q15 p2 0) fun t17 =>
Option.bind (rd q15 265 2068 t17) fun t18 =>
Option.bind (f_X12_ofLace q15 p1 2) fun t19 =>
Option.bind (wr q15 265 2068 t17 (t18 - t19)) fun μ20 =>
Option.bind (f_X12_ofLace μ20 p1 2) fun t21 =>
Option.bind (f_X12_gets μ20 t16 t21) fun q22 =>
Option.bind (f_X12_laceAt q22 p1 1) fun t23 =>
Option.bind (wr q22 265 2068 t23 p2) fun μ24 =>
some (t16, μ24)
else
f_X12_give_j103 q9.2 p1 p2
def f_X12_goal_j26 (μ : Mem) (l1 : Int32) (l2 : Int32) (k1 : Bool) : Option (Int32 × Mem) :=
Option.bind (f_X12_throwsIf μ k1 1) fun q1 =>
if q1.1 = true then
some (0, q1.2)
else
Option.bind (f_X12_remembers q1.2) fun q2 =>
Option.bind (f_X12_of q2 l1 3) fun t3 =>
Option.bind (f_X12_at q2 l1 3) fun t4 =>
Option.bind (wr q2 265 2068 t4 l2) fun μ5 =>
some (t3, μ5)
def f_X12_goal_j21 (μ : Mem) (l1 : Int32) (l2 : Int32) : Option (Int32 × Mem) :=
f_X12_goal_j26 μ l1 l2 true
def f_X12_goal (μ : Mem) (p1 : Int32) (p2 : Int32) : Option (Int32 × Mem) :=
Option.bind (f_X12_noPerson (mset μ 264 0 0) p1) fun t1 =>
if t1 = true then
f_X12_goal_j21 (mset μ 264 0 0) p1 p2
else
Option.bind (f_X12_noPlace (mset μ 264 0 0) p2) fun t2 =>
Option.bind (f_X12_throwsIf (mset μ 264 0 0) (if t2 = true then (true : Bool) else false) 1) fun q4 =>
if q4.1 = true then
some (0, q4.2)
else
Option.bind (f_X12_remembers q4.2) fun q5 =>
Option.bind (f_X12_of q5 p1 3) fun t6 =>
Option.bind (f_X12_at q5 p1 3) fun t7 =>
Option.bind (wr q5 265 2068 t7 p2) fun μ8 =>
some (t6, μ8)
def f_X12_rest (μ : Mem) (p1 : Int32) : Option (Int32 × Mem) :=
Option.bind (f_X12_noPerson (mset μ 264 0 0) p1) fun t1 =>
Option.bind (f_X12_throwsIf (mset μ 264 0 0) t1 1) fun q2 =>
if q2.1 = true then
some (0, q2.2)
else
Option.bind (f_X12_remembers q2.2) fun q3 =>
Option.bind (f_X12_of q3 p1 4) fun t4 =>
Option.bind (f_X12_at q3 p1 4) fun t5 =>
Option.bind (wr q3 265 2068 t5 0) fun μ6 =>
some (t4, μ6)
def f_X12_falls (μ : Mem) (p1 : Int32) : Option Mem :=
Option.bind (f_X12_at μ p1 0) fun t1 =>
Option.bind (f_X12_of μ p1 0) fun t2 =>
Option.bind (rd μ 265 2068 4) fun t3 =>
Option.bind (f_J9_max_7cf53 μ 0 (t2 - t3)) fun t4 =>
Option.bind (wr μ 265 2068 t1 t4) fun μ5 =>
Option.bind (f_X12_at μ5 p1 4) fun t6 =>
Option.bind (f_X12_of μ5 p1 4) fun t7 =>
Option.bind (f_J9_min_7cf53 μ5 9 (t7 + 1)) fun t8 =>
Option.bind (wr μ5 265 2068 t6 t8) fun μ9 =>
Option.bind (rd μ9 265 2068 5) fun t10 =>
Option.bind (wr μ9 265 2068 5 (t10 + 1)) fun μ11 =>
some μ11
def f_J9_abs_0f7a4 (μ : Mem) (p0 : Int32) : Option Int32 :=
some (if 0 ≤ p0 then (p0 : Int32) else (-p0))
def f_X12_walksOn (μ : Mem) (p1 : Int32) : Option Mem :=
Option.bind (f_X12_of μ p1 3) fun t1 =>
Option.bind (f_X12_of μ p1 2) fun t2 =>
Option.bind (f_J9_abs_0f7a4 μ (t1 - t2)) fun t3 =>
Option.bind (f_X12_walksBy μ p1) fun q4 =>
Option.bind (f_J9_min_7cf53 q4.2 t3 q4.1) fun t5 =>
Option.bind (f_X12_at q4.2 p1 2) fun t6 =>
Option.bind (rd q4.2 265 2068 t6) fun t7 =>
Option.bind (wr q4.2 265 2068 t6 (t7 + (if 0 ≤ (t1 - t2) then (t5 : Int32) else (-t5)))) fun μ9 =>
some μ9
def f_X12_isCalled_j68 (μ : Mem) : Option Mem :=
some μ
def f_X12_isCalled_j63 (μ : Mem) (l1 : Int32) : Option Mem :=
Option.bind (f_X12_isLostNow μ l1) fun q1 =>
f_X12_isCalled_j68 q1
def f_X12_isCalled (μ : Mem) (p1 : Int32) : Option Mem :=
Option.bind (f_X12_ofLace μ p1 2) fun t1 =>
Option.bind (f_X12_ofLace μ p1 5) fun t2 =>
Option.bind (f_X12_ownerOf μ p1) fun t3 =>
Option.bind (f_X12_of μ t3 0) fun t4 =>
if t4 < t1 then
if t2 = (-1) then
f_X12_isCalled_j63 μ p1
else
Option.bind (f_X12_of μ t2 0) fun t5 =>
if t5 < t1 then
f_X12_isCalled_j63 μ p1
else
Option.bind (f_X12_isPaid μ p1 t2) fun q6 =>
f_X12_isCalled_j68 q6
else
Option.bind (f_X12_ownerOf μ p1) fun t7 =>
Option.bind (f_X12_isPaid μ p1 t7) fun q8 =>
f_X12_isCalled_j68 q8
def f_X12_oneDay_j52_2 (μ : Mem) (l1 : Bool) (l2 : Int32) : Option ((Int32 × Mem) ⊕ Mem) :=
some (.inl ((l2 + 1), μ))
def f_X12_oneDay_j47_2 (μ : Mem) (l1 : Bool) (l2 : Int32) : Option ((Int32 × Mem) ⊕ Mem) :=
Option.bind (f_X12_walksOn μ l2) fun q1 =>
f_X12_oneDay_j52_2 q1 l1 l2
def f_X12_oneDay_b2 (μ : Mem) (l1 : Bool) (l2 : Int32) : Option ((Int32 × Mem) ⊕ Mem) :=
Option.bind (f_X12_people μ) fun t1 =>
if t1 ≤ l2 then
some (.inr μ)
else
Option.bind (f_X12_isThere μ l2) fun t2 =>
if t2 = true then
f_X12_oneDay_j52_2 μ l1 l2
else
if l1 = true then
f_X12_oneDay_j47_2 μ l1 l2
else
Option.bind (f_X12_drawn μ 100) fun q3 =>
Option.bind (f_X12_fallsBy q3.2 l2) fun q4 =>
if q4.1 ≤ q3.1 then
f_X12_oneDay_j47_2 q4.2 l1 l2
else
Option.bind (f_X12_falls q4.2 l2) fun q5 =>
f_X12_oneDay_j52_2 q5 l1 l2
def f_X12_oneDay_j104_60 (μ : Mem) (l2 : Int32) : Option ((Int32 × Mem) ⊕ Mem) :=
some (.inl ((l2 + 1), μ))
def f_X12_oneDay_b60 (μ : Mem) (l2 : Int32) : Option ((Int32 × Mem) ⊕ Mem) :=
Option.bind (f_X12_laces μ) fun t1 =>
if t1 ≤ l2 then
some (.inr μ)
else
Option.bind (f_X12_isPledged μ l2) fun t2 =>
if t2 = true then
Option.bind (f_X12_laceAt μ l2 2) fun t3 =>
Option.bind (f_X12_ofLace μ l2 2) fun t4 =>
Option.bind (f_X12_growsBy μ l2) fun q5 =>
Option.bind (f_J9_min_7cf53 q5.2 999 (t4 + q5.1)) fun t6 =>
Option.bind (wr q5.2 265 2068 t3 t6) fun μ7 =>
f_X12_oneDay_j104_60 μ7 l2
else
f_X12_oneDay_j104_60 μ l2
def f_X12_oneDay_j148_112 (μ : Mem) (l2 : Int32) : Option ((Int32 × Mem) ⊕ Mem) :=
some (.inl ((l2 + 1), μ))
def f_X12_oneDay_b112 (μ : Mem) (l2 : Int32) : Option ((Int32 × Mem) ⊕ Mem) :=
Option.bind (f_X12_laces μ) fun t1 =>
if t1 ≤ l2 then
some (.inr μ)
else
Option.bind (f_X12_isPledged μ l2) fun t2 =>
if t2 = true then
Option.bind (f_X12_ofLace μ l2 4) fun t3 =>
Option.bind (rd μ 265 2068 3) fun t4 =>
if t4 < t3 then
f_X12_oneDay_j148_112 μ l2
else
Option.bind (f_X12_isCalled μ l2) fun q5 =>
f_X12_oneDay_j148_112 q5 l2
else
f_X12_oneDay_j148_112 μ l2
def f_X12_oneDay_j154 (μ : Mem) : Option Mem :=
Option.bind (rd μ 265 2068 3) fun t1 =>
Option.bind (f_J9_min_7cf53 μ 9999 (t1 + 1)) fun t2 =>
Option.bind (wr μ 265 2068 3 t2) fun μ3 =>
some μ3
def f_X12_oneDay_l112 (μ : Mem) (l2 : Int32) : Option Mem := Option.bind (loopN 10000 (fun z : (Int32 × Mem) => f_X12_oneDay_b112 z.2 z.1) (l2, μ)) fun t : Mem => f_X12_oneDay_j154 t
def f_X12_oneDay_j110 (μ : Mem) : Option Mem :=
f_X12_oneDay_l112 μ 0
def f_X12_oneDay_l60 (μ : Mem) (l2 : Int32) : Option Mem := Option.bind (loopN 10000 (fun z : (Int32 × Mem) => f_X12_oneDay_b60 z.2 z.1) (l2, μ)) fun t : Mem => f_X12_oneDay_j110 t
def f_X12_oneDay_j58 (μ : Mem) : Option Mem :=
f_X12_oneDay_l60 μ 0
def f_X12_oneDay_l2 (μ : Mem) (l1 : Bool) (l2 : Int32) : Option Mem := Option.bind (loopN 10000 (fun z : (Int32 × Mem) => f_X12_oneDay_b2 z.2 l1 z.1) (l2, μ)) fun t : Mem => f_X12_oneDay_j58 t
def f_X12_oneDay (μ : Mem) (p1 : Bool) : Option Mem :=
f_X12_oneDay_l2 μ p1 0
def f_X12_keepsAll_b2 (μ : Mem) (l1 : Int32) : Option ((Int32 × Mem) ⊕ Mem) :=
if 370 ≤ l1 then
some (.inr μ)
else
Option.bind (rd μ 265 2068 l1) fun t1 =>
Option.bind (wr μ 268 370 l1 t1) fun μ2 =>
some (.inl ((l1 + 1), μ2))
def f_X12_keepsAll_j27 (μ : Mem) : Option Mem :=
some μ
def f_X12_keepsAll_l2 (μ : Mem) (l1 : Int32) : Option Mem := Option.bind (loopN 10000 (fun z : (Int32 × Mem) => f_X12_keepsAll_b2 z.2 z.1) (l1, μ)) fun t : Mem => f_X12_keepsAll_j27 t
def f_X12_keepsAll (μ : Mem) : Option Mem :=
f_X12_keepsAll_l2 μ 0
def f_X12_bringsBack_b2 (μ : Mem) (l1 : Int32) : Option ((Int32 × Mem) ⊕ Mem) :=
if 370 ≤ l1 then
some (.inr μ)
else
Option.bind (rd μ 268 370 l1) fun t1 =>
Option.bind (wr μ 265 2068 l1 t1) fun μ2 =>
some (.inl ((l1 + 1), μ2))
def f_X12_bringsBack_j27 (μ : Mem) : Option Mem :=
some μ
def f_X12_bringsBack_l2 (μ : Mem) (l1 : Int32) : Option Mem := Option.bind (loopN 10000 (fun z : (Int32 × Mem) => f_X12_bringsBack_b2 z.2 z.1) (l1, μ)) fun t : Mem => f_X12_bringsBack_j27 t
def f_X12_bringsBack (μ : Mem) : Option Mem :=
f_X12_bringsBack_l2 μ 0
def f_X12_days_b43 (μ : Mem) (l1 : Int32) (l2 : Int32) (l3 : Int32) : Option ((Int32 × Mem) ⊕ Mem) :=
if l1 ≤ l3 then
some (.inr μ)
else
Option.bind (f_X12_oneDay μ false) fun q1 =>
some (.inl ((l3 + 1), q1))
def f_X12_days_j59 (μ : Mem) (l2 : Int32) : Option (Int32 × Mem) :=
Option.bind (rd μ 265 2068 5) fun t1 =>
some ((t1 - l2), μ)
def f_X12_days_l43 (μ : Mem) (l1 : Int32) (l2 : Int32) (l3 : Int32) : Option (Int32 × Mem) := Option.bind (loopN 10000 (fun z : (Int32 × Mem) => f_X12_days_b43 z.2 l1 l2 z.1) (l3, μ)) fun t : Mem => f_X12_days_j59 t l2
def f_X12_days (μ : Mem) (p1 : Int32) : Option (Int32 × Mem) :=
Option.bind (f_X12_in (mset μ 264 0 0) p1 1 60) fun t1 =>
Option.bind (f_X12_throwsIf (mset μ 264 0 0) (if t1 = true then (false : Bool) else true) 1) fun q3 =>
if q3.1 = true then
some (0, q3.2)
else
Option.bind (f_X12_remembers q3.2) fun q4 =>
Option.bind (rd q4 265 2068 5) fun t5 =>
f_X12_days_l43 q4 p1 t5 0
def f_X12_ahead_j41 (μ : Mem) : Option (Int32 × Mem) :=
some (0, μ)
def f_X12_ahead_b50 (μ : Mem) (l1 : Int32) (l2 : Int32) (l3 : Bool) (l4 : Int32) : Option ((Int32 × Mem) ⊕ Mem) :=
if l2 ≤ l4 then
some (.inr μ)
else
Option.bind (f_X12_oneDay μ true) fun q1 =>
some (.inl ((l4 + 1), q1))
def f_X12_ahead_j67 (μ : Mem) (l1 : Int32) (l3 : Bool) : Option (Int32 × Mem) :=
Option.bind (f_X12_of μ l1 (if l3 = true then (0 : Int32) else 2)) fun t2 =>
Option.bind (f_X12_bringsBack μ) fun q3 =>
some (t2, q3)
def f_X12_ahead_l50 (μ : Mem) (l1 : Int32) (l2 : Int32) (l3 : Bool) (l4 : Int32) : Option (Int32 × Mem) := Option.bind (loopN 10000 (fun z : (Int32 × Mem) => f_X12_ahead_b50 z.2 l1 l2 l3 z.1) (l4, μ)) fun t : Mem => f_X12_ahead_j67 t l1 l3
def f_X12_ahead (μ : Mem) (p1 : Int32) (p2 : Int32) (p3 : Bool) : Option (Int32 × Mem) :=
Option.bind (f_X12_noPerson (mset μ 264 0 0) p1) fun t1 =>
Option.bind (f_X12_throwsIf (mset μ 264 0 0) t1 1) fun q2 =>
if q2.1 = true then
f_X12_ahead_j41 q2.2
else
Option.bind (f_X12_in q2.2 p2 0 60) fun t3 =>
Option.bind (f_X12_throwsIf q2.2 (if t3 = true then (false : Bool) else true) 2) fun q5 =>
if q5.1 = true then
f_X12_ahead_j41 q5.2
else
Option.bind (f_X12_keepsAll q5.2) fun q6 =>
f_X12_ahead_l50 q6 p1 p2 p3 0
def f_X12_comesTo_j54_22 (μ : Mem) (l1 : Int32) (l2 : Int32) (l4 : Int32) (k0 : Int32) : Option ((Int32 × Int32 × Mem) ⊕ (Int32 × Mem)) :=
Option.bind (f_X12_oneDay μ true) fun q1 =>
some (.inl (k0, (l4 + 1), q1))
def f_X12_comesTo_b22 (μ : Mem) (l1 : Int32) (l2 : Int32) (l3 : Int32) (l4 : Int32) : Option ((Int32 × Int32 × Mem) ⊕ (Int32 × Mem)) :=
if 60 < l4 then
some (.inr (l3, μ))
else
if l3 = 1000000 then
Option.bind (f_X12_of μ l1 2) fun t1 =>
if t1 = l2 then
f_X12_comesTo_j54_22 μ l1 l2 l4 l4
else
f_X12_comesTo_j54_22 μ l1 l2 l4 1000000
else
some (.inr (l3, μ))
def f_X12_comesTo_j66 (μ : Mem) (l3 : Int32) : Option (Int32 × Mem) :=
Option.bind (f_X12_bringsBack μ) fun q1 =>
some (l3, q1)
def f_X12_comesTo_l22 (μ : Mem) (l1 : Int32) (l2 : Int32) (l3 : Int32) (l4 : Int32) : Option (Int32 × Mem) := Option.bind (loopN 10000 (fun z : (Int32 × Int32 × Mem) => f_X12_comesTo_b22 z.2.2 l1 l2 z.1 z.2.1) (l3, l4, μ)) fun t : (Int32 × Mem) => f_X12_comesTo_j66 t.2 t.1
def f_X12_comesTo (μ : Mem) (p1 : Int32) (p2 : Int32) : Option (Int32 × Mem) :=
Option.bind (f_X12_keepsAll μ) fun q1 =>
Option.bind (f_X12_at q1 p1 3) fun t2 =>
Option.bind (wr q1 265 2068 t2 p2) fun μ3 =>
f_X12_comesTo_l22 μ3 p1 p2 1000000 0
def f_X12_comes_j26 (μ : Mem) (l1 : Int32) (l2 : Int32) (k1 : Bool) : Option (Int32 × Mem) :=
Option.bind (f_X12_throwsIf μ k1 1) fun q1 =>
if q1.1 = true then
some (0, q1.2)
else
Option.bind (f_X12_comesTo q1.2 l1 l2) fun q2 =>
some ((if q2.1 < 1000000 then (q2.1 : Int32) else (-1)), q2.2)
def f_X12_comes_j21 (μ : Mem) (l1 : Int32) (l2 : Int32) : Option (Int32 × Mem) :=
f_X12_comes_j26 μ l1 l2 true
def f_X12_comes (μ : Mem) (p1 : Int32) (p2 : Int32) : Option (Int32 × Mem) :=
Option.bind (f_X12_noPerson (mset μ 264 0 0) p1) fun t1 =>
if t1 = true then
f_X12_comes_j21 (mset μ 264 0 0) p1 p2
else
Option.bind (f_X12_noPlace (mset μ 264 0 0) p2) fun t2 =>
Option.bind (f_X12_throwsIf (mset μ 264 0 0) (if t2 = true then (true : Bool) else false) 1) fun q4 =>
if q4.1 = true then
some (0, q4.2)
else
Option.bind (f_X12_comesTo q4.2 p1 p2) fun q5 =>
some ((if q5.1 < 1000000 then (q5.1 : Int32) else (-1)), q5.2)
def f_X12_soonest_b28 (μ : Mem) (l1 : Int32) (l2 : Int32) (l3 : Int32) (l4 : Int32) : Option ((Int32 × Int32 × Int32 × Mem) ⊕ (Int32 × Mem)) :=
Option.bind (f_X12_people μ) fun t1 =>
if t1 ≤ l4 then
some (.inr (l2, μ))
else
Option.bind (f_X12_comesTo μ l4 l1) fun q2 =>
Option.bind (f_J9_min_7cf53 q2.2 l3 q2.1) fun t4 =>
some (.inl ((if l3 ≤ q2.1 then (l2 : Int32) else l4), t4, (l4 + 1), q2.2))
def f_X12_soonest_j72 (μ : Mem) (l2 : Int32) : Option (Int32 × Mem) :=
some (l2, μ)
def f_X12_soonest_l28 (μ : Mem) (l1 : Int32) (l2 : Int32) (l3 : Int32) (l4 : Int32) : Option (Int32 × Mem) := Option.bind (loopN 10000 (fun z : (Int32 × Int32 × Int32 × Mem) => f_X12_soonest_b28 z.2.2.2 l1 z.1 z.2.1 z.2.2.1) (l2, l3, l4, μ)) fun t : (Int32 × Mem) => f_X12_soonest_j72 t.2 t.1
def f_X12_soonest (μ : Mem) (p1 : Int32) : Option (Int32 × Mem) :=
Option.bind (f_X12_noPlace (mset μ 264 0 0) p1) fun t1 =>
Option.bind (f_X12_throwsIf (mset μ 264 0 0) t1 1) fun q2 =>
if q2.1 = true then
some (0, q2.2)
else
f_X12_soonest_l28 q2.2 p1 (-1) 1000000 0
def f_X12_leastOf (μ : Mem) (p1 : Int32) (p2 : Int32) : Option Int32 :=
Option.bind (rd μ 274 448 ((p1 <<< (6 &&& 31)) + p2)) fun t1 =>
some t1
def f_X12_leastBy (μ : Mem) (p1 : Int32) (p2 : Int32) (p3 : Int32) : Option Int32 :=
Option.bind (rd μ 273 36 ((6 * p1) + p3)) fun t1 =>
Option.bind (f_X12_leastOf μ (p1 + 1) (p2 ||| (1 <<< (p3 &&& 31)))) fun t2 =>
Option.bind (f_J9_min_7cf53 μ 1000000 (t1 + t2)) fun t3 =>
some t3
def f_X12_laysLeast_b12 (μ : Mem) (l1 : Int32) (l2 : Int32) : Option ((Int32 × Mem) ⊕ Mem) :=
Option.bind (f_X12_people μ) fun t1 =>
if t1 ≤ l2 then
some (.inr μ)
else
Option.bind (rd μ 270 400 l2) fun t2 =>
Option.bind (f_X12_comesTo μ l1 t2) fun q3 =>
Option.bind (wr q3.2 273 36 ((6 * l1) + l2) q3.1) fun μ4 =>
some (.inl ((l2 + 1), μ4))
def f_X12_laysLeast_j48_2 (μ : Mem) (l1 : Int32) : Option ((Int32 × Mem) ⊕ Mem) :=
some (.inl ((l1 + 1), μ))
def f_X12_laysLeast_l12 (μ : Mem) (l1 : Int32) (l2 : Int32) : Option ((Int32 × Mem) ⊕ Mem) := Option.bind (loopN 10000 (fun z : (Int32 × Mem) => f_X12_laysLeast_b12 z.2 l1 z.1) (l2, μ)) fun t : Mem => f_X12_laysLeast_j48_2 t l1
def f_X12_laysLeast_b2 (μ : Mem) (l1 : Int32) : Option ((Int32 × Mem) ⊕ Mem) :=
Option.bind (f_X12_people μ) fun t1 =>
if t1 ≤ l1 then
some (.inr μ)
else
f_X12_laysLeast_l12 μ l1 0
def f_X12_laysLeast_b56 (μ : Mem) (l1 : Int32) : Option ((Int32 × Mem) ⊕ Mem) :=
if 64 ≤ l1 then
some (.inr μ)
else
Option.bind (f_X12_people μ) fun t1 =>
Option.bind (wr μ 274 448 ((t1 <<< (6 &&& 31)) + l1) 0) fun μ2 =>
some (.inl ((l1 + 1), μ2))
def f_X12_laysLeast_j140_109 (μ : Mem) (l1 : Int32) (l2 : Int32) (l3 : Int32) (l4 : Int32) : Option ((Int32 × Int32) ⊕ Int32) :=
some (.inl (l3, (l4 + 1)))
def f_X12_laysLeast_b109 (μ : Mem) (l1 : Int32) (l2 : Int32) (l3 : Int32) (l4 : Int32) : Option ((Int32 × Int32) ⊕ Int32) :=
Option.bind (f_X12_people μ) fun t1 =>
if t1 ≤ l4 then
some (.inr l3)
else
Option.bind (f_X12_has μ l2 l4) fun t2 =>
if t2 = true then
f_X12_laysLeast_j140_109 μ l1 l2 l3 l4
else
Option.bind (f_X12_leastBy μ l1 l2 l4) fun t3 =>
Option.bind (f_J9_min_7cf53 μ l3 t3) fun t4 =>
f_X12_laysLeast_j140_109 μ l1 l2 t4 l4
def f_X12_laysLeast_j146_96 (μ : Mem) (l1 : Int32) (l2 : Int32) (l3 : Int32) : Option ((Int32 × Mem) ⊕ Mem) :=
Option.bind (wr μ 274 448 ((l1 <<< (6 &&& 31)) + l2) l3) fun μ1 =>
some (.inl ((l2 + 1), μ1))
def f_X12_laysLeast_l109 (μ : Mem) (l1 : Int32) (l2 : Int32) (l3 : Int32) (l4 : Int32) : Option ((Int32 × Mem) ⊕ Mem) := Option.bind (loopN 10000 (fun z : (Int32 × Int32) => f_X12_laysLeast_b109 μ l1 l2 z.1 z.2) (l3, l4)) fun t : Int32 => f_X12_laysLeast_j146_96 μ l1 l2 t
def f_X12_laysLeast_b96 (μ : Mem) (l1 : Int32) (l2 : Int32) : Option ((Int32 × Mem) ⊕ Mem) :=
if 64 ≤ l2 then
some (.inr μ)
else
f_X12_laysLeast_l109 μ l1 l2 1000000 0
def f_X12_laysLeast_j164_90 (μ : Mem) (l1 : Int32) : Option ((Int32 × Mem) ⊕ Mem) :=
some (.inl ((l1 + (-1)), μ))
def f_X12_laysLeast_l96 (μ : Mem) (l1 : Int32) (l2 : Int32) : Option ((Int32 × Mem) ⊕ Mem) := Option.bind (loopN 10000 (fun z : (Int32 × Mem) => f_X12_laysLeast_b96 z.2 l1 z.1) (l2, μ)) fun t : Mem => f_X12_laysLeast_j164_90 t l1
def f_X12_laysLeast_b90 (μ : Mem) (l1 : Int32) : Option ((Int32 × Mem) ⊕ Mem) :=
if l1 < 0 then
some (.inr μ)
else
f_X12_laysLeast_l96 μ l1 0
def f_X12_laysLeast_j170 (μ : Mem) : Option Mem :=
some μ
def f_X12_laysLeast_l90 (μ : Mem) (l1 : Int32) : Option Mem := Option.bind (loopN 10000 (fun z : (Int32 × Mem) => f_X12_laysLeast_b90 z.2 z.1) (l1, μ)) fun t : Mem => f_X12_laysLeast_j170 t
def f_X12_laysLeast_j83 (μ : Mem) : Option Mem :=
Option.bind (f_X12_people μ) fun t1 =>
f_X12_laysLeast_l90 μ (t1 - 1)
def f_X12_laysLeast_l56 (μ : Mem) (l1 : Int32) : Option Mem := Option.bind (loopN 10000 (fun z : (Int32 × Mem) => f_X12_laysLeast_b56 z.2 z.1) (l1, μ)) fun t : Mem => f_X12_laysLeast_j83 t
def f_X12_laysLeast_j54 (μ : Mem) : Option Mem :=
f_X12_laysLeast_l56 μ 0
def f_X12_laysLeast_l2 (μ : Mem) (l1 : Int32) : Option Mem := Option.bind (loopN 10000 (fun z : (Int32 × Mem) => f_X12_laysLeast_b2 z.2 z.1) (l1, μ)) fun t : Mem => f_X12_laysLeast_j54 t
def f_X12_laysLeast (μ : Mem) : Option Mem :=
f_X12_laysLeast_l2 μ 0
def f_X12_carry_b51 (μ : Mem) (l1 : Int32) (l2 : Bool) (l3 : Int32) : Option ((Bool × Int32) ⊕ Bool) :=
if (μ 264 11) ≤ l3 then
some (.inr l2)
else
if l2 = true then
Option.bind (rd μ 270 400 l3) fun t1 =>
Option.bind (f_X12_noPlace μ t1) fun t2 =>
some (.inl ((if t2 = true then (false : Bool) else true), (l3 + 1)))
else
some (.inr l2)
def f_X12_carry_j181_153 (μ : Mem) (l1 : Int32) (l3 : Int32) (l4 : Int32) (l5 : Int32) : Option (Int32 ⊕ Int32) :=
some (.inl (l4 + 1))
def f_X12_carry_b153 (μ : Mem) (l1 : Int32) (l3 : Int32) (l4 : Int32) (l5 : Int32) : Option (Int32 ⊕ Int32) :=
Option.bind (f_X12_has μ l3 l4) fun t1 =>
if t1 = true then
f_X12_carry_j181_153 μ l1 l3 l4 l5
else
Option.bind (f_X12_leastBy μ l5 l3 l4) fun t2 =>
Option.bind (f_X12_leastOf μ l5 l3) fun t3 =>
if t2 = t3 then
some (.inr l4)
else
f_X12_carry_j181_153 μ l1 l3 l4 l5
def f_X12_carry_j187_144 (μ : Mem) (l1 : Int32) (l3 : Int32) (l4 : Int32) (l5 : Int32) : Option ((Int32 × Int32 × Int32) ⊕ Int32) :=
some (.inl ((l3 ||| (1 <<< (l4 &&& 31))), l4, (l5 + 1)))
def f_X12_carry_l153 (μ : Mem) (l1 : Int32) (l3 : Int32) (l4 : Int32) (l5 : Int32) : Option ((Int32 × Int32 × Int32) ⊕ Int32) := Option.bind (loopN 10000 (fun z : Int32 => f_X12_carry_b153 μ l1 l3 z l5) l4) fun t : Int32 => f_X12_carry_j187_144 μ l1 l3 t l5
def f_X12_carry_b144 (μ : Mem) (l1 : Int32) (l3 : Int32) (l4 : Int32) (l5 : Int32) : Option ((Int32 × Int32 × Int32) ⊕ Int32) :=
if l1 < l5 then
some (.inr l4)
else
f_X12_carry_l153 μ l1 l3 0 l5
def f_X12_carry_j200 (μ : Mem) (l4 : Int32) : Option (Int32 × Mem) :=
some (l4, μ)
def f_X12_carry_l144 (μ : Mem) (l1 : Int32) (l3 : Int32) (l4 : Int32) (l5 : Int32) : Option (Int32 × Mem) := Option.bind (loopN 10000 (fun z : (Int32 × Int32 × Int32) => f_X12_carry_b144 μ l1 z.1 z.2.1 z.2.2) (l3, l4, l5)) fun t : Int32 => f_X12_carry_j200 μ t
def f_X12_carry_j87 (μ : Mem) (l1 : Int32) (l2 : Bool) : Option (Int32 × Mem) :=
Option.bind (f_X12_throwsIf μ (if l2 = true then (false : Bool) else true) 2) fun q2 =>
if q2.1 = true then
some (0, q2.2)
else
Option.bind (f_X12_laysLeast q2.2) fun q3 =>
Option.bind (f_X12_leastOf q3 0 0) fun t4 =>
if t4 < 1000000 then
if l1 = (-1) then
Option.bind (f_X12_leastOf q3 0 0) fun t5 =>
some (t5, q3)
else
f_X12_carry_l144 q3 l1 0 0 0
else
some ((-1), q3)
def f_X12_carry_l51 (μ : Mem) (l1 : Int32) (l2 : Bool) (l3 : Int32) : Option (Int32 × Mem) := Option.bind (loopN 10000 (fun z : (Bool × Int32) => f_X12_carry_b51 μ l1 z.1 z.2) (l2, l3)) fun t : Bool => f_X12_carry_j87 μ l1 t
def f_X12_carry_j23 (μ : Mem) (l1 : Int32) (k1 : Bool) : Option (Int32 × Mem) :=
Option.bind (f_X12_throwsIf μ k1 1) fun q1 =>
if q1.1 = true then
some (0, q1.2)
else
Option.bind (f_X12_people q1.2) fun t2 =>
f_X12_carry_l51 q1.2 l1 (if (q1.2 264 11) = t2 then (true : Bool) else false) 0
def f_X12_carry_j22 (μ : Mem) (l1 : Int32) : Option (Int32 × Mem) :=
f_X12_carry_j23 μ l1 false
def f_X12_carry (μ : Mem) (p1 : Int32) : Option (Int32 × Mem) :=
Option.bind (f_X12_uses μ) fun q1 =>
if p1 = (-1) then
f_X12_carry_j22 q1 p1
else
Option.bind (f_X12_noPerson q1 p1) fun t2 =>
Option.bind (f_X12_throwsIf q1 (if t2 = true then (true : Bool) else false) 1) fun q4 =>
if q4.1 = true then
some (0, q4.2)
else
Option.bind (f_X12_people q4.2) fun t5 =>
f_X12_carry_l51 q4.2 p1 (if (q4.2 264 11) = t5 then (true : Bool) else false) 0
def f_X12_solvent_b9 (μ : Mem) (l1 : Int32) (l2 : Int32) : Option ((Int32 × Int32) ⊕ Int32) :=
Option.bind (f_X12_people μ) fun t1 =>
if t1 ≤ l2 then
some (.inr l1)
else
Option.bind (f_X12_of μ l2 0) fun t2 =>
Option.bind (f_X12_owesOf μ l2) fun t3 =>
some (.inl ((l1 ||| (if t2 < t3 then (0 : Int32) else (1 <<< (l2 &&& 31)))), (l2 + 1)))
def f_X12_solvent_j47 (μ : Mem) (l1 : Int32) : Option (Int32 × Mem) :=
some (l1, μ)
def f_X12_solvent_l9 (μ : Mem) (l1 : Int32) (l2 : Int32) : Option (Int32 × Mem) := Option.bind (loopN 10000 (fun z : (Int32 × Int32) => f_X12_solvent_b9 μ z.1 z.2) (l1, l2)) fun t : Int32 => f_X12_solvent_j47 μ t
def f_X12_solvent (μ : Mem) : Option (Int32 × Mem) :=
f_X12_solvent_l9 (mset μ 264 0 0) 0 0
def f_X12_isRing_j80_18 (μ : Mem) (l1 : Int32) (l2 : Bool) (l3 : Int32) (l4 : Int32) (l5 : Int32) : Option ((Int32 × Int32) ⊕ Int32) :=
some (.inl (l4, (l5 + 1)))
def f_X12_isRing_b18 (μ : Mem) (l1 : Int32) (l2 : Bool) (l3 : Int32) (l4 : Int32) (l5 : Int32) : Option ((Int32 × Int32) ⊕ Int32) :=
Option.bind (f_X12_laces μ) fun t1 =>
if t1 ≤ l5 then
some (.inr l4)
else
Option.bind (f_X12_has μ l1 l5) fun t2 =>
if t2 = true then
Option.bind (f_X12_ofLace μ l5 2) fun t3 =>
Option.bind (f_X12_ownerOf μ l5) fun t4 =>
Option.bind (f_X12_ofLace μ l5 1) fun t6 =>
f_X12_isRing_j80_18 μ l1 l2 l3 (l4 + (t3 * ((b2i (if t4 = l3 then (true : Bool) else false)) - (b2i (if t6 = l3 then (true : Bool) else false))))) l5
else
f_X12_isRing_j80_18 μ l1 l2 l3 l4 l5
def f_X12_isRing_j86_4 (μ : Mem) (l1 : Int32) (l2 : Bool) (l3 : Int32) (l4 : Int32) : Option ((Bool × Int32) ⊕ Bool) :=
some (.inl ((if l2 = true then ((if l4 = 0 then (true : Bool) else false) : Bool) else false), (l3 + 1)))
def f_X12_isRing_l18 (μ : Mem) (l1 : Int32) (l2 : Bool) (l3 : Int32) (l4 : Int32) (l5 : Int32) : Option ((Bool × Int32) ⊕ Bool) := Option.bind (loopN 10000 (fun z : (Int32 × Int32) => f_X12_isRing_b18 μ l1 l2 l3 z.1 z.2) (l4, l5)) fun t : Int32 => f_X12_isRing_j86_4 μ l1 l2 l3 t
def f_X12_isRing_b4 (μ : Mem) (l1 : Int32) (l2 : Bool) (l3 : Int32) : Option ((Bool × Int32) ⊕ Bool) :=
Option.bind (f_X12_people μ) fun t1 =>
if t1 ≤ l3 then
some (.inr l2)
else
f_X12_isRing_l18 μ l1 l2 l3 0 0
def f_X12_isRing_j107 (μ : Mem) (l2 : Bool) : Option Bool :=
some l2
def f_X12_isRing_l4 (μ : Mem) (l1 : Int32) (l2 : Bool) (l3 : Int32) : Option Bool := Option.bind (loopN 10000 (fun z : (Bool × Int32) => f_X12_isRing_b4 μ l1 z.1 z.2) (l2, l3)) fun t : Bool => f_X12_isRing_j107 μ t
def f_X12_isRing (μ : Mem) (p1 : Int32) : Option Bool :=
f_X12_isRing_l4 μ p1 true 0
def f_X12_rings_j41_14 (μ : Mem) (l1 : Int32) (l3 : Int32) (k0 : Int32) (k1 : Bool) : Option ((Int32 × Int32) ⊕ Int32) :=
some (.inl ((k0 + (b2i k1)), (l3 + 1)))
def f_X12_rings_j40_14 (μ : Mem) (l1 : Int32) (l3 : Int32) (k0 : Int32) : Option ((Int32 × Int32) ⊕ Int32) :=
f_X12_rings_j41_14 μ l1 l3 k0 false
def f_X12_rings_b14 (μ : Mem) (l1 : Int32) (l2 : Int32) (l3 : Int32) : Option ((Int32 × Int32) ⊕ Int32) :=
if l1 < l3 then
some (.inr l2)
else
if (l3 &&& (l1 ^^^ (-1))) = 0 then
Option.bind (f_X12_isRing μ l3) fun t1 =>
some (.inl ((l2 + (b2i (if t1 = true then (true : Bool) else false))), (l3 + 1)))
else
f_X12_rings_j40_14 μ l1 l3 l2
def f_X12_rings_j49 (μ : Mem) (l2 : Int32) : Option (Int32 × Mem) :=
some (l2, μ)
def f_X12_rings_l14 (μ : Mem) (l1 : Int32) (l2 : Int32) (l3 : Int32) : Option (Int32 × Mem) := Option.bind (loopN 10000 (fun z : (Int32 × Int32) => f_X12_rings_b14 μ l1 z.1 z.2) (l2, l3)) fun t : Int32 => f_X12_rings_j49 μ t
def f_X12_rings (μ : Mem) : Option (Int32 × Mem) :=
Option.bind (f_X12_pledgedOnes (mset μ 264 0 0)) fun t1 =>
f_X12_rings_l14 (mset μ 264 0 0) t1 0 1
def f_X12_untie_j54_15 (μ : Mem) (l1 : Bool) (l2 : Int32) (l3 : Int32) (l4 : Int32) : Option ((Int32 × Int32) ⊕ Int32) :=
some (.inl (l3, (l4 + 1)))
def f_X12_untie_b15 (μ : Mem) (l1 : Bool) (l2 : Int32) (l3 : Int32) (l4 : Int32) : Option ((Int32 × Int32) ⊕ Int32) :=
if l2 < l4 then
some (.inr l3)
else
if (l4 &&& (l2 ^^^ (-1))) = 0 then
Option.bind (f_J6_bitCount_0f7a4 μ l4) fun t1 =>
Option.bind (f_J6_bitCount_0f7a4 μ l3) fun t2 =>
if t1 ≤ t2 then
f_X12_untie_j54_15 μ l1 l2 l3 l4
else
Option.bind (f_X12_isRing μ l4) fun t3 =>
some (.inl ((if t3 = true then (l4 : Int32) else l3), (l4 + 1)))
else
f_X12_untie_j54_15 μ l1 l2 l3 l4
def f_X12_untie_j72 (μ : Mem) (k0 : Int32) : Option (Int32 × Mem) :=
some (k0, μ)
def f_X12_untie_j60 (μ : Mem) (l1 : Bool) (l3 : Int32) : Option (Int32 × Mem) :=
if l1 = true then
Option.bind (f_J6_bitCount_0f7a4 μ l3) fun t1 =>
f_X12_untie_j72 μ t1
else
f_X12_untie_j72 μ l3
def f_X12_untie_l15 (μ : Mem) (l1 : Bool) (l2 : Int32) (l3 : Int32) (l4 : Int32) : Option (Int32 × Mem) := Option.bind (loopN 10000 (fun z : (Int32 × Int32) => f_X12_untie_b15 μ l1 l2 z.1 z.2) (l3, l4)) fun t : Int32 => f_X12_untie_j60 μ l1 t
def f_X12_untie (μ : Mem) (p1 : Bool) : Option (Int32 × Mem) :=
Option.bind (f_X12_pledgedOnes (mset μ 264 0 0)) fun t1 =>
f_X12_untie_l15 (mset μ 264 0 0) p1 t1 0 1
def f_X12_holdersOf_j44_4 (μ : Mem) (l1 : Int32) (l3 : Int32) (k0 : Int32) (k1 : Int32) : Option ((Int32 × Int32) ⊕ Int32) :=
some (.inl ((k0 ||| k1), (l3 + 1)))
def f_X12_holdersOf_j43_4 (μ : Mem) (l1 : Int32) (l3 : Int32) (k0 : Int32) : Option ((Int32 × Int32) ⊕ Int32) :=
f_X12_holdersOf_j44_4 μ l1 l3 k0 0
def f_X12_holdersOf_b4 (μ : Mem) (l1 : Int32) (l2 : Int32) (l3 : Int32) : Option ((Int32 × Int32) ⊕ Int32) :=
Option.bind (f_X12_laces μ) fun t1 =>
if t1 ≤ l3 then
some (.inr l2)
else
Option.bind (f_X12_isPledged μ l3) fun t2 =>
if t2 = true then
Option.bind (f_X12_ownerOf μ l3) fun t3 =>
Option.bind (f_X12_has μ l1 t3) fun t4 =>
if t4 = true then
Option.bind (f_X12_ofLace μ l3 1) fun t5 =>
f_X12_holdersOf_j44_4 μ l1 l3 l2 (1 <<< (t5 &&& 31))
else
f_X12_holdersOf_j43_4 μ l1 l3 l2
else
f_X12_holdersOf_j43_4 μ l1 l3 l2
def f_X12_holdersOf_j52 (μ : Mem) (l2 : Int32) : Option Int32 :=
some l2
def f_X12_holdersOf_l4 (μ : Mem) (l1 : Int32) (l2 : Int32) (l3 : Int32) : Option Int32 := Option.bind (loopN 10000 (fun z : (Int32 × Int32) => f_X12_holdersOf_b4 μ l1 z.1 z.2) (l2, l3)) fun t : Int32 => f_X12_holdersOf_j52 μ t
def f_X12_holdersOf (μ : Mem) (p1 : Int32) : Option Int32 :=
f_X12_holdersOf_l4 μ p1 0 0
def f_X12_leadsFrom_b10 (μ : Mem) (l2 : Int32) (l3 : Int32) : Option ((Int32 × Int32) ⊕ Int32) :=
if 6 ≤ l3 then
some (.inr l2)
else
Option.bind (f_X12_holdersOf μ l2) fun t1 =>
some (.inl ((l2 ||| t1), (l3 + 1)))
def f_X12_leadsFrom_j30 (μ : Mem) (l2 : Int32) : Option Int32 :=
some l2
def f_X12_leadsFrom_l10 (μ : Mem) (l2 : Int32) (l3 : Int32) : Option Int32 := Option.bind (loopN 10000 (fun z : (Int32 × Int32) => f_X12_leadsFrom_b10 μ z.1 z.2) (l2, l3)) fun t : Int32 => f_X12_leadsFrom_j30 μ t
def f_X12_leadsFrom (μ : Mem) (p1 : Int32) : Option Int32 :=
Option.bind (f_X12_holdersOf μ (1 <<< (p1 &&& 31))) fun t1 =>
f_X12_leadsFrom_l10 μ t1 0
def f_X12_owes_j69 (μ : Mem) (k0 : Bool) : Option (Bool × Mem) :=
some (k0, μ)
def f_X12_owes_j68 (μ : Mem) : Option (Bool × Mem) :=
f_X12_owes_j69 μ false
def f_X12_owes_j27 (μ : Mem) (l1 : Int32) (l2 : Int32) (k1 : Bool) : Option (Bool × Mem) :=
Option.bind (f_X12_throwsIf μ k1 1) fun q1 =>
if q1.1 = true then
f_X12_owes_j68 q1.2
else
Option.bind (f_X12_throwsIf q1.2 (if l1 = l2 then (true : Bool) else false) 2) fun q3 =>
if q3.1 = true then
f_X12_owes_j68 q3.2
else
Option.bind (f_X12_leadsFrom q3.2 l1) fun t4 =>
Option.bind (f_X12_has q3.2 t4 l2) fun t5 =>
some ((if t5 = true then (true : Bool) else false), q3.2)
def f_X12_owes_j22 (μ : Mem) (l1 : Int32) (l2 : Int32) : Option (Bool × Mem) :=
f_X12_owes_j27 μ l1 l2 true
def f_X12_owes (μ : Mem) (p1 : Int32) (p2 : Int32) : Option (Bool × Mem) :=
Option.bind (f_X12_noPerson (mset μ 264 0 0) p1) fun t1 =>
if t1 = true then
f_X12_owes_j22 (mset μ 264 0 0) p1 p2
else
Option.bind (f_X12_noPerson (mset μ 264 0 0) p2) fun t2 =>
Option.bind (f_X12_throwsIf (mset μ 264 0 0) (if t2 = true then (true : Bool) else false) 1) fun q4 =>
if q4.1 = true then
f_X12_owes_j68 q4.2
else
Option.bind (f_X12_throwsIf q4.2 (if p1 = p2 then (true : Bool) else false) 2) fun q6 =>
if q6.1 = true then
f_X12_owes_j68 q6.2
else
Option.bind (f_X12_leadsFrom q6.2 p1) fun t7 =>
Option.bind (f_X12_has q6.2 t7 p2) fun t8 =>
some ((if t8 = true then (true : Bool) else false), q6.2)
def f_X12_leads_j27 (μ : Mem) (k0 : Int32) : Option (Int32 × Mem) :=
some (k0, μ)
def f_X12_leads (μ : Mem) (p1 : Int32) : Option (Int32 × Mem) :=
Option.bind (f_X12_noPerson (mset μ 264 0 0) p1) fun t1 =>
Option.bind (f_X12_throwsIf (mset μ 264 0 0) t1 1) fun q2 =>
if q2.1 = true then
f_X12_leads_j27 q2.2 0
else
Option.bind (f_X12_leadsFrom q2.2 p1) fun t3 =>
f_X12_leads_j27 q2.2 t3
def f_X12_amountOf_j31_4 (μ : Mem) (l1 : Int32) (l3 : Int32) (k0 : Int32) (k1 : Int32) : Option ((Int32 × Int32) ⊕ Int32) :=
some (.inl ((k0 + k1), (l3 + 1)))
def f_X12_amountOf_b4 (μ : Mem) (l1 : Int32) (l2 : Int32) (l3 : Int32) : Option ((Int32 × Int32) ⊕ Int32) :=
Option.bind (f_X12_laces μ) fun t1 =>
if t1 ≤ l3 then
some (.inr l2)
else
Option.bind (f_X12_has μ l1 l3) fun t2 =>
if t2 = true then
Option.bind (f_X12_ofLace μ l3 2) fun t3 =>
f_X12_amountOf_j31_4 μ l1 l3 l2 t3
else
f_X12_amountOf_j31_4 μ l1 l3 l2 0
def f_X12_amountOf_j39 (μ : Mem) (l2 : Int32) : Option Int32 :=
some l2
def f_X12_amountOf_l4 (μ : Mem) (l1 : Int32) (l2 : Int32) (l3 : Int32) : Option Int32 := Option.bind (loopN 10000 (fun z : (Int32 × Int32) => f_X12_amountOf_b4 μ l1 z.1 z.2) (l2, l3)) fun t : Int32 => f_X12_amountOf_j39 μ t
def f_X12_amountOf (μ : Mem) (p1 : Int32) : Option Int32 :=
f_X12_amountOf_l4 μ p1 0 0
def f_X12_canBePaid_j41_4 (μ : Mem) (l1 : Int32) (l3 : Int32) (k0 : Bool) : Option ((Bool × Int32) ⊕ Bool) :=
some (.inl (k0, (l3 + 1)))
def f_X12_canBePaid_j40_4 (μ : Mem) (l1 : Int32) (l3 : Int32) : Option ((Bool × Int32) ⊕ Bool) :=
f_X12_canBePaid_j41_4 μ l1 l3 false
def f_X12_canBePaid_b4 (μ : Mem) (l1 : Int32) (l2 : Bool) (l3 : Int32) : Option ((Bool × Int32) ⊕ Bool) :=
Option.bind (f_X12_people μ) fun t1 =>
if t1 ≤ l3 then
some (.inr l2)
else
if l2 = true then
Option.bind (f_X12_amountOf μ (l1 &&& (3 <<< ((2 * l3) &&& 31)))) fun t2 =>
Option.bind (f_X12_of μ l3 0) fun t3 =>
some (.inl ((if t3 < t2 then (false : Bool) else true), (l3 + 1)))
else
f_X12_canBePaid_j40_4 μ l1 l3
def f_X12_canBePaid_j48 (μ : Mem) (l2 : Bool) : Option Bool :=
some l2
def f_X12_canBePaid_l4 (μ : Mem) (l1 : Int32) (l2 : Bool) (l3 : Int32) : Option Bool := Option.bind (loopN 10000 (fun z : (Bool × Int32) => f_X12_canBePaid_b4 μ l1 z.1 z.2) (l2, l3)) fun t : Bool => f_X12_canBePaid_j48 μ t
def f_X12_canBePaid (μ : Mem) (p1 : Int32) : Option Bool :=
f_X12_canBePaid_l4 μ p1 true 0
def f_X12_call_j80_37 (μ : Mem) (l2 : Bool) (l3 : Int32) (l4 : Int32) (l5 : Int32) : Option ((Int32 × Int32) ⊕ Int32) :=
some (.inl (l4, (l5 + 1)))
def f_X12_call_b37 (μ : Mem) (l2 : Bool) (l3 : Int32) (l4 : Int32) (l5 : Int32) : Option ((Int32 × Int32) ⊕ Int32) :=
if l3 < l5 then
some (.inr l4)
else
if (l5 &&& (l3 ^^^ (-1))) = 0 then
Option.bind (f_X12_amountOf μ l5) fun t1 =>
Option.bind (f_X12_amountOf μ l4) fun t2 =>
if t1 ≤ t2 then
f_X12_call_j80_37 μ l2 l3 l4 l5
else
Option.bind (f_X12_canBePaid μ l5) fun t3 =>
some (.inl ((if t3 = true then (l5 : Int32) else l4), (l5 + 1)))
else
f_X12_call_j80_37 μ l2 l3 l4 l5
def f_X12_call_j101 (μ : Mem) (k0 : Int32) : Option (Int32 × Mem) :=
some (k0, μ)
def f_X12_call_j86 (μ : Mem) (l2 : Bool) (l4 : Int32) : Option (Int32 × Mem) :=
if l2 = true then
Option.bind (f_X12_amountOf μ l4) fun t1 =>
f_X12_call_j101 μ t1
else
f_X12_call_j101 μ l4
def f_X12_call_l37 (μ : Mem) (l2 : Bool) (l3 : Int32) (l4 : Int32) (l5 : Int32) : Option (Int32 × Mem) := Option.bind (loopN 10000 (fun z : (Int32 × Int32) => f_X12_call_b37 μ l2 l3 z.1 z.2) (l4, l5)) fun t : Int32 => f_X12_call_j86 μ l2 t
def f_X12_call (μ : Mem) (p1 : Int32) (p2 : Bool) : Option (Int32 × Mem) :=
Option.bind (f_X12_noPerson (mset μ 264 0 0) p1) fun t1 =>
Option.bind (f_X12_throwsIf (mset μ 264 0 0) t1 1) fun q2 =>
if q2.1 = true then
some (0, q2.2)
else
Option.bind (f_X12_heldBy q2.2 p1) fun t3 =>
Option.bind (f_X12_pledgedOnes q2.2) fun t4 =>
f_X12_call_l37 q2.2 p2 (t3 &&& t4) 0 1
def f_X12_breaks_b41 (μ : Mem) (l1 : Int32) (l2 : Int32) (l3 : Int32) : Option ((Int32 × Mem) ⊕ Mem) :=
if l1 ≤ l3 then
some (.inr μ)
else
Option.bind (f_X12_oneDay μ true) fun q1 =>
some (.inl ((l3 + 1), q1))
def f_X12_breaks_j57 (μ : Mem) (l2 : Int32) : Option (Int32 × Mem) :=
Option.bind (f_X12_lostOnes μ) fun t1 =>
Option.bind (f_X12_bringsBack μ) fun q2 =>
some ((t1 &&& (l2 ^^^ (-1))), q2)
def f_X12_breaks_l41 (μ : Mem) (l1 : Int32) (l2 : Int32) (l3 : Int32) : Option (Int32 × Mem) := Option.bind (loopN 10000 (fun z : (Int32 × Mem) => f_X12_breaks_b41 z.2 l1 l2 z.1) (l3, μ)) fun t : Mem => f_X12_breaks_j57 t l2
def f_X12_breaks (μ : Mem) (p1 : Int32) : Option (Int32 × Mem) :=
Option.bind (f_X12_in (mset μ 264 0 0) p1 0 60) fun t1 =>
Option.bind (f_X12_throwsIf (mset μ 264 0 0) (if t1 = true then (false : Bool) else true) 1) fun q3 =>
if q3.1 = true then
some (0, q3.2)
else
Option.bind (f_X12_lostOnes q3.2) fun t4 =>
Option.bind (f_X12_keepsAll q3.2) fun q5 =>
f_X12_breaks_l41 q5 p1 t4 0
def f_X12_isLostBy_b30 (μ : Mem) (l1 : Int32) (l3 : Int32) : Option ((Int32 × Mem) ⊕ Mem) :=
if 60 ≤ l3 then
some (.inr μ)
else
Option.bind (f_X12_oneDay μ true) fun q1 =>
some (.inl ((l3 + 1), q1))
def f_X12_isLostBy_j47 (μ : Mem) (l1 : Int32) : Option (Bool × Mem) :=
Option.bind (f_X12_isLost μ l1) fun t1 =>
Option.bind (f_X12_bringsBack μ) fun q2 =>
some (t1, q2)
def f_X12_isLostBy_l30 (μ : Mem) (l1 : Int32) (l3 : Int32) : Option (Bool × Mem) := Option.bind (loopN 10000 (fun z : (Int32 × Mem) => f_X12_isLostBy_b30 z.2 l1 z.1) (l3, μ)) fun t : Mem => f_X12_isLostBy_j47 t l1
def f_X12_isLostBy (μ : Mem) (p1 : Int32) (p2 : Int32) : Option (Bool × Mem) :=
Option.bind (f_X12_keepsAll μ) fun q1 =>
Option.bind (f_X12_laceAt q1 p1 4) fun t2 =>
Option.bind (f_X12_ofLace q1 p1 4) fun t3 =>
Option.bind (f_J9_min_7cf53 q1 9999 (t3 + p2)) fun t4 =>
Option.bind (wr q1 265 2068 t2 t4) fun μ5 =>
f_X12_isLostBy_l30 μ5 p1 0
def f_X12_mercy_b32 (μ : Mem) (l1 : Int32) (l2 : Int32) : Option ((Int32 × Mem) ⊕ (Mem ⊕ (Int32 × Mem))) :=
if 30 < l2 then
some (.inr (.inl μ))
else
Option.bind (f_X12_isLostBy μ l1 l2) fun q1 =>
if q1.1 = true then
some (.inl ((l2 + 1), q1.2))
else
some (.inr (.inr (l2, q1.2)))
def f_X12_mercy_j55 (μ : Mem) : Option (Int32 × Mem) :=
some ((-1), μ)
def f_X12_mercy_l32 (μ : Mem) (l1 : Int32) (l2 : Int32) : Option (Int32 × Mem) := Option.bind (loopN 10000 (fun z : (Int32 × Mem) => f_X12_mercy_b32 z.2 l1 z.1) (l2, μ)) fun t : (Mem ⊕ (Int32 × Mem)) => Sum.elim (fun e => f_X12_mercy_j55 e) (fun x => some x) t
def f_X12_mercy (μ : Mem) (p1 : Int32) : Option (Int32 × Mem) :=
Option.bind (f_X12_noLace (mset μ 264 0 0) p1) fun t1 =>
Option.bind (f_X12_throwsIf (mset μ 264 0 0) t1 1) fun q2 =>
if q2.1 = true then
some (0, q2.2)
else
Option.bind (f_X12_isPledged q2.2 p1) fun t3 =>
if t3 = true then
f_X12_mercy_l32 q2.2 p1 0
else
some ((-1), q2.2)
def f_X12_hangsOn_j38_4 (μ : Mem) (l1 : Int32) (l3 : Int32) (k0 : Int32) (k1 : Int32) : Option ((Int32 × Int32) ⊕ Int32) :=
some (.inl ((k0 ||| k1), (l3 + 1)))
def f_X12_hangsOn_j37_4 (μ : Mem) (l1 : Int32) (l3 : Int32) (k0 : Int32) : Option ((Int32 × Int32) ⊕ Int32) :=
f_X12_hangsOn_j38_4 μ l1 l3 k0 0
def f_X12_hangsOn_b4 (μ : Mem) (l1 : Int32) (l2 : Int32) (l3 : Int32) : Option ((Int32 × Int32) ⊕ Int32) :=
Option.bind (f_X12_laces μ) fun t1 =>
if t1 ≤ l3 then
some (.inr l2)
else
Option.bind (f_X12_isPledged μ l3) fun t2 =>
if t2 = true then
Option.bind (f_X12_ofLace μ l3 5) fun t3 =>
some (.inl ((l2 ||| (if t3 = l1 then ((1 <<< (l3 &&& 31)) : Int32) else 0)), (l3 + 1)))
else
f_X12_hangsOn_j37_4 μ l1 l3 l2
def f_X12_hangsOn_j46 (μ : Mem) (l2 : Int32) : Option Int32 :=
some l2
def f_X12_hangsOn_l4 (μ : Mem) (l1 : Int32) (l2 : Int32) (l3 : Int32) : Option Int32 := Option.bind (loopN 10000 (fun z : (Int32 × Int32) => f_X12_hangsOn_b4 μ l1 z.1 z.2) (l2, l3)) fun t : Int32 => f_X12_hangsOn_j46 μ t
def f_X12_hangsOn (μ : Mem) (p1 : Int32) : Option Int32 :=
f_X12_hangsOn_l4 μ p1 0 0
def f_X12_hangs_j27 (μ : Mem) (k0 : Int32) : Option (Int32 × Mem) :=
some (k0, μ)
def f_X12_hangs (μ : Mem) (p1 : Int32) : Option (Int32 × Mem) :=
Option.bind (f_X12_noPerson (mset μ 264 0 0) p1) fun t1 =>
Option.bind (f_X12_throwsIf (mset μ 264 0 0) t1 1) fun q2 =>
if q2.1 = true then
f_X12_hangs_j27 q2.2 0
else
Option.bind (f_X12_hangsOn q2.2 p1) fun t3 =>
f_X12_hangs_j27 q2.2 t3
def f_X12_trust_b11 (μ : Mem) (l1 : Int32) (l2 : Int32) (l3 : Int32) : Option ((Int32 × Int32 × Int32) ⊕ Int32) :=
Option.bind (f_X12_people μ) fun t1 =>
if t1 ≤ l3 then
some (.inr l1)
else
Option.bind (f_X12_hangsOn μ l3) fun t2 =>
Option.bind (f_X12_amountOf μ t2) fun t3 =>
Option.bind (f_J9_max_7cf53 μ l2 t3) fun t5 =>
some (.inl ((if t3 ≤ l2 then (l1 : Int32) else l3), t5, (l3 + 1)))
def f_X12_trust_j55 (μ : Mem) (l1 : Int32) : Option (Int32 × Mem) :=
some (l1, μ)
def f_X12_trust_l11 (μ : Mem) (l1 : Int32) (l2 : Int32) (l3 : Int32) : Option (Int32 × Mem) := Option.bind (loopN 10000 (fun z : (Int32 × Int32 × Int32) => f_X12_trust_b11 μ z.1 z.2.1 z.2.2) (l1, l2, l3)) fun t : Int32 => f_X12_trust_j55 μ t
def f_X12_trust (μ : Mem) : Option (Int32 × Mem) :=
f_X12_trust_l11 (mset μ 264 0 0) (-1) 0 0
def f_X12_isNeeded_j77_4 (μ : Mem) (l1 : Int32) (l2 : Bool) (l3 : Int32) : Option ((Bool × Int32) ⊕ Bool) :=
some (.inl (l2, (l3 + 1)))
def f_X12_isNeeded_j76_4 (μ : Mem) (l1 : Int32) (l3 : Int32) (k0 : Bool) : Option ((Bool × Int32) ⊕ Bool) :=
f_X12_isNeeded_j77_4 μ l1 k0 l3
def f_X12_isNeeded_j71_4 (μ : Mem) (l1 : Int32) (l3 : Int32) : Option ((Bool × Int32) ⊕ Bool) :=
f_X12_isNeeded_j76_4 μ l1 l3 true
def f_X12_isNeeded_j75_4 (μ : Mem) (l1 : Int32) (l3 : Int32) : Option ((Bool × Int32) ⊕ Bool) :=
f_X12_isNeeded_j76_4 μ l1 l3 false
def f_X12_isNeeded_b4 (μ : Mem) (l1 : Int32) (l2 : Bool) (l3 : Int32) : Option ((Bool × Int32) ⊕ Bool) :=
Option.bind (f_X12_laces μ) fun t1 =>
if t1 ≤ l3 then
some (.inr l2)
else
Option.bind (f_X12_isPledged μ l3) fun t2 =>
if t2 = true then
if l2 = true then
Option.bind (f_X12_ownerOf μ l3) fun t3 =>
Option.bind (f_X12_has μ l1 t3) fun t4 =>
if t4 = true then
f_X12_isNeeded_j71_4 μ l1 l3
else
Option.bind (f_X12_ofLace μ l3 1) fun t5 =>
Option.bind (f_X12_has μ l1 t5) fun t6 =>
if t6 = true then
f_X12_isNeeded_j71_4 μ l1 l3
else
Option.bind (f_X12_ofLace μ l3 5) fun t7 =>
if t7 = (-1) then
f_X12_isNeeded_j75_4 μ l1 l3
else
Option.bind (f_X12_ofLace μ l3 5) fun t8 =>
Option.bind (f_X12_has μ l1 t8) fun t9 =>
f_X12_isNeeded_j77_4 μ l1 (if t9 = true then (true : Bool) else false) l3
else
f_X12_isNeeded_j75_4 μ l1 l3
else
f_X12_isNeeded_j77_4 μ l1 l2 l3
def f_X12_isNeeded_j83 (μ : Mem) (l2 : Bool) : Option Bool :=
some l2
def f_X12_isNeeded_l4 (μ : Mem) (l1 : Int32) (l2 : Bool) (l3 : Int32) : Option Bool := Option.bind (loopN 10000 (fun z : (Bool × Int32) => f_X12_isNeeded_b4 μ l1 z.1 z.2) (l2, l3)) fun t : Bool => f_X12_isNeeded_j83 μ t
def f_X12_isNeeded (μ : Mem) (p1 : Int32) : Option Bool :=
f_X12_isNeeded_l4 μ p1 true 0
def f_X12_needed_j40_12 (μ : Mem) (l2 : Int32) (k0 : Int32) : Option ((Int32 × Int32) ⊕ Int32) :=
some (.inl (k0, (l2 + (-1))))
def f_X12_needed_j39_12 (μ : Mem) (l1 : Int32) (l2 : Int32) : Option ((Int32 × Int32) ⊕ Int32) :=
f_X12_needed_j40_12 μ l2 l1
def f_X12_needed_b12 (μ : Mem) (l1 : Int32) (l2 : Int32) : Option ((Int32 × Int32) ⊕ Int32) :=
if l2 < 0 then
some (.inr l1)
else
Option.bind (f_J6_bitCount_0f7a4 μ l2) fun t1 =>
Option.bind (f_J6_bitCount_0f7a4 μ l1) fun t2 =>
if t2 < t1 then
f_X12_needed_j39_12 μ l1 l2
else
Option.bind (f_X12_isNeeded μ l2) fun t3 =>
some (.inl ((if t3 = true then (l2 : Int32) else l1), (l2 + (-1))))
def f_X12_needed_j47 (μ : Mem) (l1 : Int32) : Option (Int32 × Mem) :=
some (l1, μ)
def f_X12_needed_l12 (μ : Mem) (l1 : Int32) (l2 : Int32) : Option (Int32 × Mem) := Option.bind (loopN 10000 (fun z : (Int32 × Int32) => f_X12_needed_b12 μ z.1 z.2) (l1, l2)) fun t : Int32 => f_X12_needed_j47 μ t
def f_X12_needed (μ : Mem) : Option (Int32 × Mem) :=
Option.bind (f_X12_everybody (mset μ 264 0 0)) fun t1 =>
f_X12_needed_l12 (mset μ 264 0 0) t1 t1
def f_X12_isTold_j88_26 (μ : Mem) (l2 : Int32) (k0 : Bool) : Option ((Bool × Int32) ⊕ Bool) :=
some (.inl (k0, (l2 + 3)))
def f_X12_isTold_j87_26 (μ : Mem) (l2 : Int32) : Option ((Bool × Int32) ⊕ Bool) :=
f_X12_isTold_j88_26 μ l2 false
def f_X12_isTold_b26 (μ : Mem) (l1 : Bool) (l2 : Int32) : Option ((Bool × Int32) ⊕ Bool) :=
if (μ 264 11) ≤ l2 then
some (.inr l1)
else
if l1 = true then
Option.bind (rd μ 270 400 l2) fun t1 =>
Option.bind (f_X12_noPerson μ t1) fun t2 =>
if t2 = true then
f_X12_isTold_j87_26 μ l2
else
Option.bind (rd μ 270 400 (l2 + 1)) fun t3 =>
Option.bind (f_X12_noPerson μ t3) fun t4 =>
if t4 = true then
f_X12_isTold_j87_26 μ l2
else
Option.bind (rd μ 270 400 l2) fun t5 =>
Option.bind (rd μ 270 400 (l2 + 1)) fun t6 =>
some (.inl ((if t6 < t5 then (false : Bool) else true), (l2 + 3)))
else
some (.inr l1)
def f_X12_isTold_j95 (μ : Mem) (l1 : Bool) : Option Bool :=
some l1
def f_X12_isTold_l26 (μ : Mem) (l1 : Bool) (l2 : Int32) : Option Bool := Option.bind (loopN 10000 (fun z : (Bool × Int32) => f_X12_isTold_b26 μ z.1 z.2) (l1, l2)) fun t : Bool => f_X12_isTold_j95 μ t
def f_X12_isTold (μ : Mem) : Option Bool :=
Option.bind (rm9 (μ 264 11) 3) fun t1 =>
f_X12_isTold_l26 μ (if t1 = 0 then ((if 36 < (μ 264 11) then (false : Bool) else true) : Bool) else false) 0
def f_X12_fits_j66_4 (μ : Mem) (l1 : Int32) (l3 : Int32) (k0 : Bool) : Option ((Bool × Int32) ⊕ Bool) :=
some (.inl (k0, (l3 + 3)))
def f_X12_fits_j65_4 (μ : Mem) (l1 : Int32) (l3 : Int32) : Option ((Bool × Int32) ⊕ Bool) :=
f_X12_fits_j66_4 μ l1 l3 false
def f_X12_fits_b4 (μ : Mem) (l1 : Int32) (l2 : Bool) (l3 : Int32) : Option ((Bool × Int32) ⊕ Bool) :=
if (μ 264 11) ≤ l3 then
some (.inr l2)
else
Option.bind (rd μ 270 400 (l3 + 1)) fun t1 =>
Option.bind (rd μ 270 400 l3) fun t2 =>
if l2 = true then
Option.bind (f_J6_bitCount_0f7a4 μ (l1 &&& ((1 <<< ((t1 + 1) &&& 31)) - (1 <<< (t2 &&& 31))))) fun t3 =>
Option.bind (rd μ 270 400 (l3 + 2)) fun t4 =>
some (.inl ((if t3 = (t4 &&& 255) then (true : Bool) else false), (l3 + 3)))
else
f_X12_fits_j65_4 μ l1 l3
def f_X12_fits_j73 (μ : Mem) (l2 : Bool) : Option Bool :=
some l2
def f_X12_fits_l4 (μ : Mem) (l1 : Int32) (l2 : Bool) (l3 : Int32) : Option Bool := Option.bind (loopN 10000 (fun z : (Bool × Int32) => f_X12_fits_b4 μ l1 z.1 z.2) (l2, l3)) fun t : Bool => f_X12_fits_j73 μ t
def f_X12_fits (μ : Mem) (p1 : Int32) : Option Bool :=
f_X12_fits_l4 μ p1 true 0
def f_X12_wear_j65_36 (μ : Mem) (l1 : Bool) (l2 : Int32) (l3 : Int32) (l4 : Int32) : Option ((Int32 × Int32 × Int32) ⊕ (Int32 × Int32)) :=
some (.inl (l2, l3, (l4 + 1)))
def f_X12_wear_b36 (μ : Mem) (l1 : Bool) (l2 : Int32) (l3 : Int32) (l4 : Int32) : Option ((Int32 × Int32 × Int32) ⊕ (Int32 × Int32)) :=
Option.bind (f_X12_everybody μ) fun t1 =>
if t1 < l4 then
some (.inr (l2, l3))
else
Option.bind (f_X12_fits μ l4) fun t2 =>
if t2 = true then
f_X12_wear_j65_36 μ l1 (l2 + 1) (l3 &&& l4) l4
else
f_X12_wear_j65_36 μ l1 l2 l3 l4
def f_X12_wear_j71 (μ : Mem) (l1 : Bool) (l2 : Int32) (l3 : Int32) : Option (Int32 × Mem) :=
some ((if l1 = true then ((if l2 = 0 then (0 : Int32) else l3) : Int32) else l2), μ)
def f_X12_wear_l36 (μ : Mem) (l1 : Bool) (l2 : Int32) (l3 : Int32) (l4 : Int32) : Option (Int32 × Mem) := Option.bind (loopN 10000 (fun z : (Int32 × Int32 × Int32) => f_X12_wear_b36 μ l1 z.1 z.2.1 z.2.2) (l2, l3, l4)) fun t : (Int32 × Int32) => f_X12_wear_j71 μ l1 t.1 t.2
def f_X12_wear (μ : Mem) (p1 : Bool) : Option (Int32 × Mem) :=
Option.bind (f_X12_uses μ) fun q1 =>
Option.bind (f_X12_isTold q1) fun t2 =>
Option.bind (f_X12_throwsIf q1 (if t2 = true then (false : Bool) else true) 1) fun q4 =>
if q4.1 = true then
some (0, q4.2)
else
Option.bind (f_X12_everybody q4.2) fun t5 =>
f_X12_wear_l36 q4.2 p1 0 t5 0
def f_X12_look_j86_51 (μ : Mem) (l1 : Int32) (l2 : Int32) (l3 : Int32) (l4 : Int32) (l5 : Int32) (l6 : Int32) : Option ((Int32 × Int32 × Int32) ⊕ (Int32 × Int32)) :=
some (.inl (l4, l5, (l6 + 1)))
def f_X12_look_b51 (μ : Mem) (l1 : Int32) (l2 : Int32) (l3 : Int32) (l4 : Int32) (l5 : Int32) (l6 : Int32) : Option ((Int32 × Int32 × Int32) ⊕ (Int32 × Int32)) :=
Option.bind (f_X12_everybody μ) fun t1 =>
if t1 < l6 then
some (.inr (l4, l5))
else
Option.bind (f_X12_fits μ l6) fun t2 =>
if t2 = true then
f_X12_look_j86_51 μ l1 l2 l3 (l4 + 1) (l5 + ((l6 >>> (l3 &&& 31)) &&& 1)) l6
else
f_X12_look_j86_51 μ l1 l2 l3 l4 l5 l6
def f_X12_look_j124_34 (μ : Mem) (l1 : Int32) (l2 : Int32) (l3 : Int32) : Option ((Int32 × Int32 × Int32) ⊕ Int32) :=
some (.inl (l1, l2, (l3 + 1)))
def f_X12_look_j92_34 (μ : Mem) (l1 : Int32) (l2 : Int32) (l3 : Int32) (l4 : Int32) (l5 : Int32) : Option ((Int32 × Int32 × Int32) ⊕ Int32) :=
Option.bind (f_J9_max_7cf53 μ l5 (l4 - l5)) fun t1 =>
if l4 < 2 then
f_X12_look_j124_34 μ l1 l2 l3
else
if t1 < l2 then
f_X12_look_j124_34 μ l3 t1 l3
else
f_X12_look_j124_34 μ l1 l2 l3
def f_X12_look_l51 (μ : Mem) (l1 : Int32) (l2 : Int32) (l3 : Int32) (l4 : Int32) (l5 : Int32) (l6 : Int32) : Option ((Int32 × Int32 × Int32) ⊕ Int32) := Option.bind (loopN 10000 (fun z : (Int32 × Int32 × Int32) => f_X12_look_b51 μ l1 l2 l3 z.1 z.2.1 z.2.2) (l4, l5, l6)) fun t : (Int32 × Int32) => f_X12_look_j92_34 μ l1 l2 l3 t.1 t.2
def f_X12_look_b34 (μ : Mem) (l1 : Int32) (l2 : Int32) (l3 : Int32) : Option ((Int32 × Int32 × Int32) ⊕ Int32) :=
Option.bind (f_X12_people μ) fun t1 =>
if t1 ≤ l3 then
some (.inr l1)
else
f_X12_look_l51 μ l1 l2 l3 0 0 0
def f_X12_look_j130 (μ : Mem) (l1 : Int32) : Option (Int32 × Mem) :=
some (l1, μ)
def f_X12_look_l34 (μ : Mem) (l1 : Int32) (l2 : Int32) (l3 : Int32) : Option (Int32 × Mem) := Option.bind (loopN 10000 (fun z : (Int32 × Int32 × Int32) => f_X12_look_b34 μ z.1 z.2.1 z.2.2) (l1, l2, l3)) fun t : Int32 => f_X12_look_j130 μ t
def f_X12_look (μ : Mem) : Option (Int32 × Mem) :=
Option.bind (f_X12_uses μ) fun q1 =>
Option.bind (f_X12_isTold q1) fun t2 =>
Option.bind (f_X12_throwsIf q1 (if t2 = true then (false : Bool) else true) 1) fun q4 =>
if q4.1 = true then
some (0, q4.2)
else
f_X12_look_l34 q4.2 (-1) 1000000 0
def f_X12_asFastAs_b4 (μ : Mem) (l1 : Int32) (l2 : Int32) (l3 : Int32) : Option ((Int32 × Int32 × Mem) ⊕ (Int32 × Mem)) :=
Option.bind (f_X12_people μ) fun t1 =>
if t1 ≤ l3 then
some (.inr (l2, μ))
else
Option.bind (f_X12_walksBy μ l3) fun q2 =>
some (.inl ((l2 ||| (if q2.1 = l1 then ((1 <<< (l3 &&& 31)) : Int32) else 0)), (l3 + 1), q2.2))
def f_X12_asFastAs_j37 (μ : Mem) (l2 : Int32) : Option (Int32 × Mem) :=
some (l2, μ)
def f_X12_asFastAs_l4 (μ : Mem) (l1 : Int32) (l2 : Int32) (l3 : Int32) : Option (Int32 × Mem) := Option.bind (loopN 10000 (fun z : (Int32 × Int32 × Mem) => f_X12_asFastAs_b4 z.2.2 l1 z.1 z.2.1) (l2, l3, μ)) fun t : (Int32 × Mem) => f_X12_asFastAs_j37 t.2 t.1
def f_X12_asFastAs (μ : Mem) (p1 : Int32) : Option (Int32 × Mem) :=
f_X12_asFastAs_l4 μ p1 0 0
def f_X12_race_j37 (μ : Mem) (k0 : Int32) : Option (Int32 × Mem) :=
some (k0, μ)
def f_X12_race (μ : Mem) (p1 : Int32) : Option (Int32 × Mem) :=
Option.bind (f_X12_noPerson (mset μ 264 0 0) p1) fun t1 =>
Option.bind (f_X12_throwsIf (mset μ 264 0 0) t1 1) fun q2 =>
if q2.1 = true then
f_X12_race_j37 q2.2 0
else
Option.bind (f_X12_walksBy q2.2 p1) fun q3 =>
Option.bind (f_X12_asFastAs q3.2 q3.1) fun q4 =>
f_X12_race_j37 q4.2 (q4.1 &&& ((1 <<< (p1 &&& 31)) ^^^ (-1)))
def f_X12_pairs_b9 (μ : Mem) (l1 : Int32) (l2 : Int32) : Option ((Int32 × Int32 × Mem) ⊕ (Int32 × Mem)) :=
if 9 < l2 then
some (.inr (l1, μ))
else
Option.bind (f_X12_asFastAs μ l2) fun q1 =>
Option.bind (f_J6_bitCount_0f7a4 q1.2 q1.1) fun t2 =>
Option.bind (dv t2 2) fun t3 =>
some (.inl ((l1 + t3), (l2 + 1), q1.2))
def f_X12_pairs_j34 (μ : Mem) (l1 : Int32) : Option (Int32 × Mem) :=
some (l1, μ)
def f_X12_pairs_l9 (μ : Mem) (l1 : Int32) (l2 : Int32) : Option (Int32 × Mem) := Option.bind (loopN 10000 (fun z : (Int32 × Int32 × Mem) => f_X12_pairs_b9 z.2.2 z.1 z.2.1) (l1, l2, μ)) fun t : (Int32 × Mem) => f_X12_pairs_j34 t.2 t.1
def f_X12_pairs (μ : Mem) : Option (Int32 × Mem) :=
f_X12_pairs_l9 (mset μ 264 0 0) 0 0
def f_X12_lends_j91_46 (μ : Mem) (l1 : Int32) (l3 : Int32) (l4 : Int32) (k0 : Int32) (k1 : Int32) : Option ((Int32 × Int32) ⊕ Int32) :=
some (.inl ((k0 ||| k1), (l4 + 1)))
def f_X12_lends_j90_46 (μ : Mem) (l1 : Int32) (l3 : Int32) (l4 : Int32) (k0 : Int32) : Option ((Int32 × Int32) ⊕ Int32) :=
f_X12_lends_j91_46 μ l1 l3 l4 k0 0
def f_X12_lends_b46 (μ : Mem) (l1 : Int32) (l2 : Int32) (l3 : Int32) (l4 : Int32) : Option ((Int32 × Int32) ⊕ Int32) :=
Option.bind (f_X12_laces μ) fun t1 =>
if t1 ≤ l4 then
some (.inr l2)
else
Option.bind (f_X12_ownerOf μ l4) fun t2 =>
if t2 = l3 then
f_X12_lends_j90_46 μ l1 l3 l4 l2
else
Option.bind (f_X12_isIn μ l4) fun t3 =>
if t3 = true then
Option.bind (f_X12_of μ l3 0) fun t4 =>
some (.inl ((l2 ||| (if t4 < l1 then (0 : Int32) else (1 <<< (l3 &&& 31)))), (l4 + 1)))
else
f_X12_lends_j90_46 μ l1 l3 l4 l2
def f_X12_lends_j99_35 (μ : Mem) (l1 : Int32) (l2 : Int32) (l3 : Int32) : Option ((Int32 × Int32) ⊕ Int32) :=
some (.inl (l2, (l3 + 1)))
def f_X12_lends_l46 (μ : Mem) (l1 : Int32) (l2 : Int32) (l3 : Int32) (l4 : Int32) : Option ((Int32 × Int32) ⊕ Int32) := Option.bind (loopN 10000 (fun z : (Int32 × Int32) => f_X12_lends_b46 μ l1 z.1 l3 z.2) (l2, l4)) fun t : Int32 => f_X12_lends_j99_35 μ l1 t l3
def f_X12_lends_b35 (μ : Mem) (l1 : Int32) (l2 : Int32) (l3 : Int32) : Option ((Int32 × Int32) ⊕ Int32) :=
Option.bind (f_X12_people μ) fun t1 =>
if t1 ≤ l3 then
some (.inr l2)
else
f_X12_lends_l46 μ l1 l2 l3 0
def f_X12_lends_j105 (μ : Mem) (l2 : Int32) : Option (Int32 × Mem) :=
some (l2, μ)
def f_X12_lends_l35 (μ : Mem) (l1 : Int32) (l2 : Int32) (l3 : Int32) : Option (Int32 × Mem) := Option.bind (loopN 10000 (fun z : (Int32 × Int32) => f_X12_lends_b35 μ l1 z.1 z.2) (l2, l3)) fun t : Int32 => f_X12_lends_j105 μ t
def f_X12_lends (μ : Mem) (p1 : Int32) : Option (Int32 × Mem) :=
Option.bind (f_X12_in (mset μ 264 0 0) p1 1 999) fun t1 =>
Option.bind (f_X12_throwsIf (mset μ 264 0 0) (if t1 = true then (false : Bool) else true) 1) fun q3 =>
if q3.1 = true then
some (0, q3.2)
else
f_X12_lends_l35 q3.2 p1 0 0
def f_X12_loose_j59_28 (μ : Mem) (l1 : Int32) (l3 : Int32) (k0 : Int32) : Option ((Int32 × Int32) ⊕ Int32) :=
some (.inl (k0, (l3 + 1)))
def f_X12_loose_b28 (μ : Mem) (l1 : Int32) (l2 : Int32) (l3 : Int32) : Option ((Int32 × Int32) ⊕ Int32) :=
if ((2 * l1) + 1) < l3 then
some (.inr l2)
else
Option.bind (f_X12_isPledged μ l3) fun t1 =>
if t1 = true then
Option.bind (f_X12_ofLace μ l3 2) fun t2 =>
Option.bind (f_J9_min_7cf53 μ l2 t2) fun t3 =>
f_X12_loose_j59_28 μ l1 l3 t3
else
f_X12_loose_j59_28 μ l1 l3 l2
def f_X12_loose_j66 (μ : Mem) (l2 : Int32) : Option (Int32 × Mem) :=
some ((if l2 < 1000000 then (l2 : Int32) else (-1)), μ)
def f_X12_loose_l28 (μ : Mem) (l1 : Int32) (l2 : Int32) (l3 : Int32) : Option (Int32 × Mem) := Option.bind (loopN 10000 (fun z : (Int32 × Int32) => f_X12_loose_b28 μ l1 z.1 z.2) (l2, l3)) fun t : Int32 => f_X12_loose_j66 μ t
def f_X12_loose (μ : Mem) (p1 : Int32) : Option (Int32 × Mem) :=
Option.bind (f_X12_noPerson (mset μ 264 0 0) p1) fun t1 =>
Option.bind (f_X12_throwsIf (mset μ 264 0 0) t1 1) fun q2 =>
if q2.1 = true then
some (0, q2.2)
else
f_X12_loose_l28 q2.2 p1 1000000 (2 * p1)
def f_X12_rail (μ : Mem) : Option (Int32 × Mem) :=
Option.bind (f_X12_lostOnes (mset μ 264 0 0)) fun t1 =>
some (t1, (mset μ 264 0 0))
def f_X12_trial_b36 (μ : Mem) (l1 : Int32) (l2 : Bool) (l3 : Int32) : Option ((Int32 × Mem) ⊕ Mem) :=
if l1 ≤ l3 then
some (.inr μ)
else
Option.bind (f_X12_oneDay μ false) fun q1 =>
some (.inl ((l3 + 1), q1))
def f_X12_trial_j76 (μ : Mem) (k0 : Int32) : Option (Int32 × Mem) :=
Option.bind (f_X12_bringsBack μ) fun q1 =>
some (k0, q1)
def f_X12_trial_j52 (μ : Mem) (l2 : Bool) : Option (Int32 × Mem) :=
if l2 = true then
Option.bind (f_X12_lostOnes μ) fun t3 =>
f_X12_trial_j76 μ t3
else
Option.bind (rd μ 265 2068 5) fun t1 =>
Option.bind (rd μ 268 370 5) fun t2 =>
f_X12_trial_j76 μ (t1 - t2)
def f_X12_trial_l36 (μ : Mem) (l1 : Int32) (l2 : Bool) (l3 : Int32) : Option (Int32 × Mem) := Option.bind (loopN 10000 (fun z : (Int32 × Mem) => f_X12_trial_b36 z.2 l1 l2 z.1) (l3, μ)) fun t : Mem => f_X12_trial_j52 t l2
def f_X12_trial (μ : Mem) (p1 : Int32) (p2 : Bool) : Option (Int32 × Mem) :=
Option.bind (f_X12_in (mset μ 264 0 0) p1 0 60) fun t1 =>
Option.bind (f_X12_throwsIf (mset μ 264 0 0) (if t1 = true then (false : Bool) else true) 1) fun q3 =>
if q3.1 = true then
some (0, q3.2)
else
Option.bind (f_X12_keepsAll q3.2) fun q4 =>
f_X12_trial_l36 q4 p1 p2 0
def f_X12_span_b58 (μ : Mem) (l1 : Int32) (l2 : Bool) (l3 : Int32) (l4 : Int32) (l5 : Int32) : Option ((Int32 × Mem) ⊕ Mem) :=
if l1 ≤ l5 then
some (.inr μ)
else
Option.bind (f_X12_oneDay μ false) fun q1 =>
some (.inl ((l5 + 1), q1))
def f_X12_span_j122_39 (μ : Mem) (l1 : Int32) (l2 : Bool) (l4 : Int32) (k0 : Int32) : Option ((Int32 × Int32 × Mem) ⊕ (Int32 × Mem)) :=
some (.inl (k0, (l4 + 1), μ))
def f_X12_span_j75_39 (μ : Mem) (l1 : Int32) (l2 : Bool) (l3 : Int32) (l4 : Int32) : Option ((Int32 × Int32 × Mem) ⊕ (Int32 × Mem)) :=
Option.bind (rd μ 265 2068 5) fun t1 =>
Option.bind (rd μ 268 370 5) fun t2 =>
Option.bind (f_X12_bringsBack μ) fun q3 =>
if 0 ≤ l3 then
if l2 = true then
Option.bind (f_J9_max_7cf53 q3 l3 (t1 - t2)) fun t5 =>
f_X12_span_j122_39 q3 l1 l2 l4 t5
else
Option.bind (f_J9_min_7cf53 q3 l3 (t1 - t2)) fun t4 =>
f_X12_span_j122_39 q3 l1 l2 l4 t4
else
f_X12_span_j122_39 q3 l1 l2 l4 (t1 - t2)
def f_X12_span_l58 (μ : Mem) (l1 : Int32) (l2 : Bool) (l3 : Int32) (l4 : Int32) (l5 : Int32) : Option ((Int32 × Int32 × Mem) ⊕ (Int32 × Mem)) := Option.bind (loopN 10000 (fun z : (Int32 × Mem) => f_X12_span_b58 z.2 l1 l2 l3 l4 z.1) (l5, μ)) fun t : Mem => f_X12_span_j75_39 t l1 l2 l3 l4
def f_X12_span_b39 (μ : Mem) (l1 : Int32) (l2 : Bool) (l3 : Int32) (l4 : Int32) : Option ((Int32 × Int32 × Mem) ⊕ (Int32 × Mem)) :=
if 6 < l4 then
some (.inr (l3, μ))
else
Option.bind (wr μ 265 2068 7 l4) fun μ1 =>
f_X12_span_l58 μ1 l1 l2 l3 l4 0
def f_X12_span_j129 (μ : Mem) (l3 : Int32) : Option (Int32 × Mem) :=
some (l3, μ)
def f_X12_span_l39 (μ : Mem) (l1 : Int32) (l2 : Bool) (l3 : Int32) (l4 : Int32) : Option (Int32 × Mem) := Option.bind (loopN 10000 (fun z : (Int32 × Int32 × Mem) => f_X12_span_b39 z.2.2 l1 l2 z.1 z.2.1) (l3, l4, μ)) fun t : (Int32 × Mem) => f_X12_span_j129 t.2 t.1
def f_X12_span (μ : Mem) (p1 : Int32) (p2 : Bool) : Option (Int32 × Mem) :=
Option.bind (f_X12_in (mset μ 264 0 0) p1 0 60) fun t1 =>
Option.bind (f_X12_throwsIf (mset μ 264 0 0) (if t1 = true then (false : Bool) else true) 1) fun q3 =>
if q3.1 = true then
some (0, q3.2)
else
Option.bind (f_X12_keepsAll q3.2) fun q4 =>
f_X12_span_l39 q4 p1 p2 (-1) 1
def f_X12_ofLog (μ : Mem) (p1 : Int32) (p2 : Int32) : Option Int32 :=
Option.bind (rd μ 265 2068 ((130 + (4 * p1)) + p2)) fun t1 =>
some t1
def f_X12_led_j67_36 (μ : Mem) (l1 : Int32) (l2 : Bool) (l3 : Int32) (l4 : Int32) (l5 : Int32) : Option ((Int32 × Int32 × Int32) ⊕ (Int32 × Int32)) :=
some (.inl (l3, l4, (l5 + (-1))))
def f_X12_led_b36 (μ : Mem) (l1 : Int32) (l2 : Bool) (l3 : Int32) (l4 : Int32) (l5 : Int32) : Option ((Int32 × Int32 × Int32) ⊕ (Int32 × Int32)) :=
if l5 < 0 then
some (.inr (l3, l4))
else
Option.bind (f_X12_ofLog μ l5 1) fun t1 =>
if t1 = l1 then
Option.bind (f_X12_ofLog μ l5 0) fun t2 =>
f_X12_led_j67_36 μ l1 l2 (l3 + 1) t2 l5
else
f_X12_led_j67_36 μ l1 l2 l3 l4 l5
def f_X12_led_j73 (μ : Mem) (l2 : Bool) (l3 : Int32) (l4 : Int32) : Option (Int32 × Mem) :=
some ((if l2 = true then (l4 : Int32) else l3), μ)
def f_X12_led_l36 (μ : Mem) (l1 : Int32) (l2 : Bool) (l3 : Int32) (l4 : Int32) (l5 : Int32) : Option (Int32 × Mem) := Option.bind (loopN 10000 (fun z : (Int32 × Int32 × Int32) => f_X12_led_b36 μ l1 l2 z.1 z.2.1 z.2.2) (l3, l4, l5)) fun t : (Int32 × Int32) => f_X12_led_j73 μ l2 t.1 t.2
def f_X12_led (μ : Mem) (p1 : Int32) (p2 : Bool) : Option (Int32 × Mem) :=
Option.bind (f_X12_noLace (mset μ 264 0 0) p1) fun t1 =>
Option.bind (f_X12_throwsIf (mset μ 264 0 0) t1 1) fun q2 =>
if q2.1 = true then
some (0, q2.2)
else
Option.bind (rd q2.2 265 2068 6) fun t3 =>
f_X12_led_l36 q2.2 p1 p2 0 (-1) (t3 - 1)
def f_X12_log_j56 (μ : Mem) (k0 : Int32) : Option (Int32 × Mem) :=
some (k0, μ)
def f_X12_log (μ : Mem) (p1 : Int32) (p2 : Int32) : Option (Int32 × Mem) :=
Option.bind (f_X12_in (mset μ 264 0 0) p2 0 3) fun t1 =>
Option.bind (f_X12_throwsIf (mset μ 264 0 0) (if t1 = true then (false : Bool) else true) 1) fun q3 =>
if q3.1 = true then
some (0, q3.2)
else
Option.bind (rd q3.2 265 2068 6) fun t4 =>
Option.bind (f_X12_in q3.2 p1 0 (t4 - 1)) fun t5 =>
if t5 = true then
Option.bind (f_X12_ofLog q3.2 p1 p2) fun t6 =>
f_X12_log_j56 q3.2 t6
else
f_X12_log_j56 q3.2 (-1)
def f_X12_seed (μ : Mem) (p1 : Int32) : Option (Int32 × Mem) :=
Option.bind (rd (mset μ 264 0 0) 265 2068 7) fun t1 =>
Option.bind (wr (mset μ 264 0 0) 265 2068 7 p1) fun μ2 =>
some (t1, μ2)
def f_X12_pursesOfAll_b4 (μ : Mem) (l1 : Int32) (l2 : Int32) : Option ((Int32 × Int32) ⊕ Int32) :=
Option.bind (f_X12_people μ) fun t1 =>
if t1 ≤ l2 then
some (.inr l1)
else
Option.bind (f_X12_of μ l2 0) fun t2 =>
some (.inl ((l1 + t2), (l2 + 1)))
def f_X12_pursesOfAll_j27 (μ : Mem) (l1 : Int32) : Option Int32 :=
some l1
def f_X12_pursesOfAll_l4 (μ : Mem) (l1 : Int32) (l2 : Int32) : Option Int32 := Option.bind (loopN 10000 (fun z : (Int32 × Int32) => f_X12_pursesOfAll_b4 μ z.1 z.2) (l1, l2)) fun t : Int32 => f_X12_pursesOfAll_j27 μ t
def f_X12_pursesOfAll (μ : Mem) : Option Int32 :=
f_X12_pursesOfAll_l4 μ 0 0
def f_X12_count_j75 (μ : Mem) (k0 : Int32) : Option (Int32 × Mem) :=
some (k0, μ)
def f_X12_count_j134 (μ : Mem) (k0 : Int32) : Option (Int32 × Mem) :=
some (k0, μ)
def f_X12_count_j115 (μ : Mem) (l1 : Int32) : Option (Int32 × Mem) :=
Option.bind (f_X12_in μ l1 0 4) fun t1 =>
if t1 = true then
Option.bind (rd μ 265 2068 l1) fun t2 =>
f_X12_count_j134 μ t2
else
f_X12_count_j134 μ (-1)
def f_X12_count (μ : Mem) (p1 : Int32) : Option (Int32 × Mem) :=
if p1 = 2 then
Option.bind (f_X12_hasLaw (mset μ 264 0 0)) fun t1 =>
if t1 = true then
Option.bind (rd (mset μ 264 0 0) 265 2068 370) fun t2 =>
f_X12_count_j75 (mset μ 264 0 0) t2
else
f_X12_count_j75 (mset μ 264 0 0) (-1)
else
if p1 = 3 then
f_X12_count_j115 (mset μ 264 0 0) p1
else
if p1 = 4 then
f_X12_count_j115 (mset μ 264 0 0) p1
else
if p1 = 5 then
Option.bind (f_X12_pledgedOnes (mset μ 264 0 0)) fun t3 =>
some (t3, (mset μ 264 0 0))
else
if p1 = 6 then
Option.bind (f_X12_pledgedOnes (mset μ 264 0 0)) fun t4 =>
Option.bind (f_X12_amountOf (mset μ 264 0 0) t4) fun t5 =>
some (t5, (mset μ 264 0 0))
else
if p1 = 7 then
Option.bind (f_X12_pursesOfAll (mset μ 264 0 0)) fun t6 =>
some (t6, (mset μ 264 0 0))
else
if p1 = 8 then
Option.bind (rd (mset μ 264 0 0) 265 2068 5) fun t7 =>
some (t7, (mset μ 264 0 0))
else
if p1 = 9 then
Option.bind (rd (mset μ 264 0 0) 265 2068 6) fun t8 =>
some (t8, (mset μ 264 0 0))
else
if p1 = 10 then
some (((mset μ 264 0 0) 264 7), (mset μ 264 0 0))
else
f_X12_count_j115 (mset μ 264 0 0) p1
def f_L_land (μ : Mem) : Option (Int32 × Mem) :=
Option.bind (f_X11_land μ) fun q1 =>
Sum.elim (fun e9 => if e9.1 = 1 then
(some (1, e9.2))
else
if e9.1 = 5 then
(some (2, e9.2))
else
none) (fun v2 => Option.bind (wr v2.2 275 1 0 v2.1) fun μ3 =>
some (0, μ3)) q1
def f_L_law (μ : Mem) : Option (Int32 × Mem) :=
Option.bind (f_X11_law μ) fun q1 =>
Sum.elim (fun e9 => if e9.1 = 1 then
(some (1, e9.2))
else
none) (fun v2 => Option.bind (wr v2.2 275 1 0 v2.1) fun μ3 =>
some (0, μ3)) q1
def f_L_person (μ : Mem) (p1 : Int32) (p2 : Int32) : Option (Int32 × Mem) :=
Option.bind (f_X11_person μ p1 p2) fun q1 =>
Sum.elim (fun e9 => if e9.1 = 2 then
(some (1, e9.2))
else
if e9.1 = 4 then
(some (2, e9.2))
else
none) (fun v2 => Option.bind (wr v2.2 275 1 0 v2.1) fun μ3 =>
some (0, μ3)) q1
def f_L_lace (μ : Mem) (p1 : Int32) (p2 : Int32) : Option (Int32 × Mem) :=
Option.bind (f_X11_lace μ p1 p2) fun q1 =>
Sum.elim (fun e9 => if e9.1 = 2 then
(some (1, e9.2))
else
if e9.1 = 4 then
(some (2, e9.2))
else
none) (fun v2 => Option.bind (wr v2.2 275 1 0 v2.1) fun μ3 =>
some (0, μ3)) q1
def f_L_mud (μ : Mem) (p1 : Int32) : Option (Int32 × Mem) :=
Option.bind (f_X11_mud μ p1) fun q1 =>
Sum.elim (fun e9 => if e9.1 = 2 then
(some (1, e9.2))
else
none) (fun v2 => Option.bind (wr v2.2 275 1 0 v2.1) fun μ3 =>
some (0, μ3)) q1
def f_L_walks (μ : Mem) (p1 : Int32) (p2 : Int32) : Option (Int32 × Mem) :=
Option.bind (f_X11_walks μ p1 p2) fun q1 =>
Sum.elim (fun e9 => if e9.1 = 2 then
(some (1, e9.2))
else
if e9.1 = 4 then
(some (2, e9.2))
else
none) (fun v2 => Option.bind (wr v2.2 275 1 0 v2.1) fun μ3 =>
some (0, μ3)) q1
def f_L_grows (μ : Mem) (p1 : Int32) : Option (Int32 × Mem) :=
Option.bind (f_X11_grows μ p1) fun q1 =>
Sum.elim (fun e9 => if e9.1 = 2 then
(some (1, e9.2))
else
none) (fun v2 => Option.bind (wr v2.2 275 1 0 v2.1) fun μ3 =>
some (0, μ3)) q1
def f_L_lend (μ : Mem) (p1 : Int32) (p2 : Int32) (p3 : Int32) (p4 : Int32) (p5 : Int32) : Option (Int32 × Mem) :=
Option.bind (f_X11_lend μ p1 p2 p3 p4 p5) fun q1 =>
Sum.elim (fun e9 => if e9.1 = 2 then
(some (1, e9.2))
else
if e9.1 = 1 then
(some (2, e9.2))
else
if e9.1 = 3 then
(some (3, e9.2))
else
none) (fun v2 => Option.bind (wr v2.2 275 1 0 v2.1) fun μ3 =>
some (0, μ3)) q1
def f_L_pay (μ : Mem) (p1 : Int32) : Option (Int32 × Mem) :=
Option.bind (f_X11_pay μ p1) fun q1 =>
Sum.elim (fun e9 => if e9.1 = 2 then
(some (1, e9.2))
else
if e9.1 = 3 then
(some (2, e9.2))
else
none) (fun v2 => Option.bind (wr v2.2 275 1 0 v2.1) fun μ3 =>
some (0, μ3)) q1
def f_L_surety (μ : Mem) (p1 : Int32) (p2 : Int32) : Option (Int32 × Mem) :=
Option.bind (f_X11_surety μ p1 p2) fun q1 =>
Sum.elim (fun e9 => if e9.1 = 2 then
(some (1, e9.2))
else
if e9.1 = 1 then
(some (2, e9.2))
else
if e9.1 = 3 then
(some (3, e9.2))
else
none) (fun v2 => Option.bind (wr v2.2 275 1 0 v2.1) fun μ3 =>
some (0, μ3)) q1
def f_L_give (μ : Mem) (p1 : Int32) (p2 : Int32) : Option (Int32 × Mem) :=
Option.bind (f_X11_give μ p1 p2) fun q1 =>
Sum.elim (fun e9 => if e9.1 = 2 then
(some (1, e9.2))
else
if e9.1 = 1 then
(some (2, e9.2))
else
if e9.1 = 3 then
(some (3, e9.2))
else
none) (fun v2 => Option.bind (wr v2.2 275 1 0 v2.1) fun μ3 =>
some (0, μ3)) q1
def f_L_goal (μ : Mem) (p1 : Int32) (p2 : Int32) : Option (Int32 × Mem) :=
Option.bind (f_X11_goal μ p1 p2) fun q1 =>
Sum.elim (fun e9 => if e9.1 = 2 then
(some (1, e9.2))
else
none) (fun v2 => Option.bind (wr v2.2 275 1 0 v2.1) fun μ3 =>
some (0, μ3)) q1
def f_L_rest (μ : Mem) (p1 : Int32) : Option (Int32 × Mem) :=
Option.bind (f_X11_rest μ p1) fun q1 =>
Sum.elim (fun e9 => if e9.1 = 2 then
(some (1, e9.2))
else
none) (fun v2 => Option.bind (wr v2.2 275 1 0 v2.1) fun μ3 =>
some (0, μ3)) q1
def f_L_days (μ : Mem) (p1 : Int32) : Option (Int32 × Mem) :=
Option.bind (f_X11_days μ p1) fun q1 =>
Sum.elim (fun e9 => if e9.1 = 1 then
(some (1, e9.2))
else
none) (fun v2 => Option.bind (wr v2.2 275 1 0 v2.1) fun μ3 =>
some (0, μ3)) q1
def f_L_comes (μ : Mem) (p1 : Int32) (p2 : Int32) : Option (Int32 × Mem) :=
Option.bind (f_X11_comes μ p1 p2) fun q1 =>
Sum.elim (fun e9 => if e9.1 = 2 then
(some (1, e9.2))
else
none) (fun v2 => Option.bind (wr v2.2 275 1 0 v2.1) fun μ3 =>
some (0, μ3)) q1
def f_L_soonest (μ : Mem) (p1 : Int32) : Option (Int32 × Mem) :=
Option.bind (f_X11_soonest μ p1) fun q1 =>
Sum.elim (fun e9 => if e9.1 = 2 then
(some (1, e9.2))
else
none) (fun v2 => Option.bind (wr v2.2 275 1 0 v2.1) fun μ3 =>
some (0, μ3)) q1
def f_L_carry (μ : Mem) (p1 : Int32) : Option (Int32 × Mem) :=
Option.bind (f_X11_carry μ p1) fun q1 =>
Sum.elim (fun e9 => if e9.1 = 2 then
(some (1, e9.2))
else
if e9.1 = 1 then
(some (2, e9.2))
else
none) (fun v2 => Option.bind (wr v2.2 275 1 0 v2.1) fun μ3 =>
some (0, μ3)) q1
def f_L_ahead (μ : Mem) (p1 : Int32) (p2 : Int32) (p3 : Bool) : Option (Int32 × Mem) :=
Option.bind (f_X11_ahead μ p1 p2 p3) fun q1 =>
Sum.elim (fun e9 => if e9.1 = 2 then
(some (1, e9.2))
else
if e9.1 = 1 then
(some (2, e9.2))
else
none) (fun v2 => Option.bind (wr v2.2 275 1 0 v2.1) fun μ3 =>
some (0, μ3)) q1
def f_L_owes_j16 (μ : Mem) (k1 : Int32) (k2 : Int32) : Option (Int32 × Mem) :=
Option.bind (wr μ 275 1 k1 k2) fun μ1 =>
some (0, μ1)
def f_L_owes (μ : Mem) (p1 : Int32) (p2 : Int32) : Option (Int32 × Mem) :=
Option.bind (f_X11_owes μ p1 p2) fun q1 =>
Sum.elim (fun e9 => if e9.1 = 2 then
(some (1, e9.2))
else
if e9.1 = 1 then
(some (2, e9.2))
else
none) (fun v2 => if v2.1 = true then
f_L_owes_j16 v2.2 0 1
else
f_L_owes_j16 v2.2 0 0) q1
def f_L_leads (μ : Mem) (p1 : Int32) : Option (Int32 × Mem) :=
Option.bind (f_X11_leads μ p1) fun q1 =>
Sum.elim (fun e9 => if e9.1 = 2 then
(some (1, e9.2))
else
none) (fun v2 => Option.bind (wr v2.2 275 1 0 v2.1) fun μ3 =>
some (0, μ3)) q1
def f_L_call (μ : Mem) (p1 : Int32) (p2 : Bool) : Option (Int32 × Mem) :=
Option.bind (f_X11_call μ p1 p2) fun q1 =>
Sum.elim (fun e9 => if e9.1 = 2 then
(some (1, e9.2))
else
none) (fun v2 => Option.bind (wr v2.2 275 1 0 v2.1) fun μ3 =>
some (0, μ3)) q1
def f_L_breaks (μ : Mem) (p1 : Int32) : Option (Int32 × Mem) :=
Option.bind (f_X11_breaks μ p1) fun q1 =>
Sum.elim (fun e9 => if e9.1 = 1 then
(some (1, e9.2))
else
none) (fun v2 => Option.bind (wr v2.2 275 1 0 v2.1) fun μ3 =>
some (0, μ3)) q1
def f_L_mercy (μ : Mem) (p1 : Int32) : Option (Int32 × Mem) :=
Option.bind (f_X11_mercy μ p1) fun q1 =>
Sum.elim (fun e9 => if e9.1 = 2 then
(some (1, e9.2))
else
none) (fun v2 => Option.bind (wr v2.2 275 1 0 v2.1) fun μ3 =>
some (0, μ3)) q1
def f_L_hangs (μ : Mem) (p1 : Int32) : Option (Int32 × Mem) :=
Option.bind (f_X11_hangs μ p1) fun q1 =>
Sum.elim (fun e9 => if e9.1 = 2 then
(some (1, e9.2))
else
none) (fun v2 => Option.bind (wr v2.2 275 1 0 v2.1) fun μ3 =>
some (0, μ3)) q1
def f_L_wear (μ : Mem) (p1 : Bool) : Option (Int32 × Mem) :=
Option.bind (f_X11_wear μ p1) fun q1 =>
Sum.elim (fun e9 => if e9.1 = 1 then
(some (1, e9.2))
else
none) (fun v2 => Option.bind (wr v2.2 275 1 0 v2.1) fun μ3 =>
some (0, μ3)) q1
def f_L_look (μ : Mem) : Option (Int32 × Mem) :=
Option.bind (f_X11_look μ) fun q1 =>
Sum.elim (fun e9 => if e9.1 = 1 then
(some (1, e9.2))
else
none) (fun v2 => Option.bind (wr v2.2 275 1 0 v2.1) fun μ3 =>
some (0, μ3)) q1
def f_L_race (μ : Mem) (p1 : Int32) : Option (Int32 × Mem) :=
Option.bind (f_X11_race μ p1) fun q1 =>
Sum.elim (fun e9 => if e9.1 = 2 then
(some (1, e9.2))
else
none) (fun v2 => Option.bind (wr v2.2 275 1 0 v2.1) fun μ3 =>
some (0, μ3)) q1
def f_L_lends (μ : Mem) (p1 : Int32) : Option (Int32 × Mem) :=
Option.bind (f_X11_lends μ p1) fun q1 =>
Sum.elim (fun e9 => if e9.1 = 1 then
(some (1, e9.2))
else
none) (fun v2 => Option.bind (wr v2.2 275 1 0 v2.1) fun μ3 =>
some (0, μ3)) q1
def f_L_loose (μ : Mem) (p1 : Int32) : Option (Int32 × Mem) :=
Option.bind (f_X11_loose μ p1) fun q1 =>
Sum.elim (fun e9 => if e9.1 = 2 then
(some (1, e9.2))
else
none) (fun v2 => Option.bind (wr v2.2 275 1 0 v2.1) fun μ3 =>
some (0, μ3)) q1
def f_L_trial (μ : Mem) (p1 : Int32) (p2 : Bool) : Option (Int32 × Mem) :=
Option.bind (f_X11_trial μ p1 p2) fun q1 =>
Sum.elim (fun e9 => if e9.1 = 1 then
(some (1, e9.2))
else
none) (fun v2 => Option.bind (wr v2.2 275 1 0 v2.1) fun μ3 =>
some (0, μ3)) q1
def f_L_span (μ : Mem) (p1 : Int32) (p2 : Bool) : Option (Int32 × Mem) :=
Option.bind (f_X11_span μ p1 p2) fun q1 =>
Sum.elim (fun e9 => if e9.1 = 1 then
(some (1, e9.2))
else
none) (fun v2 => Option.bind (wr v2.2 275 1 0 v2.1) fun μ3 =>
some (0, μ3)) q1
def f_L_led (μ : Mem) (p1 : Int32) (p2 : Bool) : Option (Int32 × Mem) :=
Option.bind (f_X11_led μ p1 p2) fun q1 =>
Sum.elim (fun e9 => if e9.1 = 2 then
(some (1, e9.2))
else
none) (fun v2 => Option.bind (wr v2.2 275 1 0 v2.1) fun μ3 =>
some (0, μ3)) q1
def f_L_log (μ : Mem) (p1 : Int32) (p2 : Int32) : Option (Int32 × Mem) :=
Option.bind (f_X11_log μ p1 p2) fun q1 =>
Sum.elim (fun e9 => if e9.1 = 4 then
(some (1, e9.2))
else
none) (fun v2 => Option.bind (wr v2.2 275 1 0 v2.1) fun μ3 =>
some (0, μ3)) q1
