/-! the law as a pure function -/
def sc9 (L : Nat) (xs : Nat → Int32) (i : Int32) : Option Int32 := if i < 0 ∨ L ≤ i.toNatClampNeg then none else some (xs i.toNatClampNeg)
def f_L_law__j248 (μ : Mem) (b9L : Nat) (xs : (Nat → Int32)) (l4 : Int32) : Option Mem :=
Option.bind (sc9 b9L xs (l4 + 1)) fun t1 =>
Option.bind (sc9 b9L xs (l4 + 2)) fun t2 =>
Option.bind (sc9 b9L xs (l4 + 3)) fun t3 =>
Option.bind (sc9 b9L xs (l4 + 4)) fun t4 =>
Option.bind (sc9 b9L xs (l4 + 5)) fun t5 =>
Option.bind (f_X11_feed μ t1 t2 t3 t4 t5) fun q6 =>
Option.bind (sc9 b9L xs (l4 + 1)) fun t7 =>
Option.bind (sc9 b9L xs (l4 + 2)) fun t8 =>
Option.bind (sc9 b9L xs (l4 + 3)) fun t9 =>
Option.bind (sc9 b9L xs (l4 + 4)) fun t10 =>
Option.bind (sc9 b9L xs (l4 + 5)) fun t11 =>
Option.bind (f_X12_feed q6.2 t7 t8 t9 t10 t11) fun q12 =>
if q6.1 = q12.1 then
some q12.2
else
none
def f_L_law__j321 (μ : Mem) (b9L : Nat) (xs : (Nat → Int32)) (l4 : Int32) : Option Mem :=
Option.bind (sc9 b9L xs (l4 + 1)) fun t1 =>
Option.bind (f_X11_end μ t1) fun q2 =>
Option.bind (sc9 b9L xs (l4 + 1)) fun t3 =>
Option.bind (f_X12_end q2.2 t3) fun q4 =>
if (b2i q2.1) = (b2i q4.1) then
some q4.2
else
none
def f_L_law__j387 (μ : Mem) (b9L : Nat) (xs : (Nat → Int32)) (l4 : Int32) : Option Mem :=
some μ
def f_L_law__j346 (μ : Mem) (b9L : Nat) (xs : (Nat → Int32)) (l4 : Int32) : Option Mem :=
Option.bind (f_L_land μ) fun q1 =>
Option.bind (f_X12_land q1.2) fun q2 =>
Option.bind (f_X12_thrown q2.2) fun t3 =>
if t3 = q1.1 then
if q1.1 = 0 then
Option.bind (rd q2.2 275 1 0) fun t4 =>
if (if (Int32.toInt64 q2.1) < (Int32.toInt64 t4) then 1 else if (Int32.toInt64 t4) = (Int32.toInt64 q2.1) then 0 else -1) = 0 then
f_L_law__j387 q2.2 b9L xs l4
else
none
else
f_L_law__j387 q2.2 b9L xs l4
else
none
def f_L_law__j431 (μ : Mem) (b9L : Nat) (xs : (Nat → Int32)) (l4 : Int32) : Option Mem :=
some μ
def f_L_law__j390 (μ : Mem) (b9L : Nat) (xs : (Nat → Int32)) (l4 : Int32) : Option Mem :=
Option.bind (f_L_law μ) fun q1 =>
Option.bind (f_X12_law q1.2) fun q2 =>
Option.bind (f_X12_thrown q2.2) fun t3 =>
if t3 = q1.1 then
if q1.1 = 0 then
Option.bind (rd q2.2 275 1 0) fun t4 =>
if (if (Int32.toInt64 q2.1) < (Int32.toInt64 t4) then 1 else if (Int32.toInt64 t4) = (Int32.toInt64 q2.1) then 0 else -1) = 0 then
f_L_law__j431 q2.2 b9L xs l4
else
none
else
f_L_law__j431 q2.2 b9L xs l4
else
none
def f_L_law__j434 (μ : Mem) (b9L : Nat) (xs : (Nat → Int32)) (l4 : Int32) : Option Mem :=
Option.bind (f_X11_fault μ) fun t1 =>
Option.bind (f_X12_fault μ) fun q2 =>
if t1 = q2.1 then
some q2.2
else
none
def f_L_law__j512 (μ : Mem) (b9L : Nat) (xs : (Nat → Int32)) (l4 : Int32) : Option Mem :=
some μ
def f_L_law__j447 (μ : Mem) (b9L : Nat) (xs : (Nat → Int32)) (l4 : Int32) : Option Mem :=
Option.bind (sc9 b9L xs (l4 + 1)) fun t1 =>
Option.bind (sc9 b9L xs (l4 + 2)) fun t2 =>
Option.bind (f_L_person μ t1 t2) fun q3 =>
Option.bind (sc9 b9L xs (l4 + 1)) fun t4 =>
Option.bind (sc9 b9L xs (l4 + 2)) fun t5 =>
Option.bind (f_X12_person q3.2 t4 t5) fun q6 =>
Option.bind (f_X12_thrown q6.2) fun t7 =>
if t7 = q3.1 then
if q3.1 = 0 then
Option.bind (rd q6.2 275 1 0) fun t8 =>
if (if (Int32.toInt64 q6.1) < (Int32.toInt64 t8) then 1 else if (Int32.toInt64 t8) = (Int32.toInt64 q6.1) then 0 else -1) = 0 then
f_L_law__j512 q6.2 b9L xs l4
else
none
else
f_L_law__j512 q6.2 b9L xs l4
else
none
def f_L_law__j580 (μ : Mem) (b9L : Nat) (xs : (Nat → Int32)) (l4 : Int32) : Option Mem :=
some μ
def f_L_law__j515 (μ : Mem) (b9L : Nat) (xs : (Nat → Int32)) (l4 : Int32) : Option Mem :=
Option.bind (sc9 b9L xs (l4 + 1)) fun t1 =>
Option.bind (sc9 b9L xs (l4 + 2)) fun t2 =>
Option.bind (f_L_lace μ t1 t2) fun q3 =>
Option.bind (sc9 b9L xs (l4 + 1)) fun t4 =>
Option.bind (sc9 b9L xs (l4 + 2)) fun t5 =>
Option.bind (f_X12_lace q3.2 t4 t5) fun q6 =>
Option.bind (f_X12_thrown q6.2) fun t7 =>
if t7 = q3.1 then
if q3.1 = 0 then
Option.bind (rd q6.2 275 1 0) fun t8 =>
if (if (Int32.toInt64 q6.1) < (Int32.toInt64 t8) then 1 else if (Int32.toInt64 t8) = (Int32.toInt64 q6.1) then 0 else -1) = 0 then
f_L_law__j580 q6.2 b9L xs l4
else
none
else
f_L_law__j580 q6.2 b9L xs l4
else
none
def f_L_law__j636 (μ : Mem) (b9L : Nat) (xs : (Nat → Int32)) (l4 : Int32) : Option Mem :=
some μ
def f_L_law__j583 (μ : Mem) (b9L : Nat) (xs : (Nat → Int32)) (l4 : Int32) : Option Mem :=
Option.bind (sc9 b9L xs (l4 + 1)) fun t1 =>
Option.bind (f_L_mud μ t1) fun q2 =>
Option.bind (sc9 b9L xs (l4 + 1)) fun t3 =>
Option.bind (f_X12_mud q2.2 t3) fun q4 =>
Option.bind (f_X12_thrown q4.2) fun t5 =>
if t5 = q2.1 then
if q2.1 = 0 then
Option.bind (rd q4.2 275 1 0) fun t6 =>
if (if (Int32.toInt64 q4.1) < (Int32.toInt64 t6) then 1 else if (Int32.toInt64 t6) = (Int32.toInt64 q4.1) then 0 else -1) = 0 then
f_L_law__j636 q4.2 b9L xs l4
else
none
else
f_L_law__j636 q4.2 b9L xs l4
else
none
def f_L_law__j704 (μ : Mem) (b9L : Nat) (xs : (Nat → Int32)) (l4 : Int32) : Option Mem :=
some μ
def f_L_law__j639 (μ : Mem) (b9L : Nat) (xs : (Nat → Int32)) (l4 : Int32) : Option Mem :=
Option.bind (sc9 b9L xs (l4 + 1)) fun t1 =>
Option.bind (sc9 b9L xs (l4 + 2)) fun t2 =>
Option.bind (f_L_walks μ t1 t2) fun q3 =>
Option.bind (sc9 b9L xs (l4 + 1)) fun t4 =>
Option.bind (sc9 b9L xs (l4 + 2)) fun t5 =>
Option.bind (f_X12_walks q3.2 t4 t5) fun q6 =>
Option.bind (f_X12_thrown q6.2) fun t7 =>
if t7 = q3.1 then
if q3.1 = 0 then
Option.bind (rd q6.2 275 1 0) fun t8 =>
if (if (Int32.toInt64 q6.1) < (Int32.toInt64 t8) then 1 else if (Int32.toInt64 t8) = (Int32.toInt64 q6.1) then 0 else -1) = 0 then
f_L_law__j704 q6.2 b9L xs l4
else
none
else
f_L_law__j704 q6.2 b9L xs l4
else
none
def f_L_law__j760 (μ : Mem) (b9L : Nat) (xs : (Nat → Int32)) (l4 : Int32) : Option Mem :=
some μ
def f_L_law__j707 (μ : Mem) (b9L : Nat) (xs : (Nat → Int32)) (l4 : Int32) : Option Mem :=
Option.bind (sc9 b9L xs (l4 + 1)) fun t1 =>
Option.bind (f_L_grows μ t1) fun q2 =>
Option.bind (sc9 b9L xs (l4 + 1)) fun t3 =>
Option.bind (f_X12_grows q2.2 t3) fun q4 =>
Option.bind (f_X12_thrown q4.2) fun t5 =>
if t5 = q2.1 then
if q2.1 = 0 then
Option.bind (rd q4.2 275 1 0) fun t6 =>
if (if (Int32.toInt64 q4.1) < (Int32.toInt64 t6) then 1 else if (Int32.toInt64 t6) = (Int32.toInt64 q4.1) then 0 else -1) = 0 then
f_L_law__j760 q4.2 b9L xs l4
else
none
else
f_L_law__j760 q4.2 b9L xs l4
else
none
def f_L_law__j864 (μ : Mem) (b9L : Nat) (xs : (Nat → Int32)) (l4 : Int32) : Option Mem :=
some μ
def f_L_law__j763 (μ : Mem) (b9L : Nat) (xs : (Nat → Int32)) (l4 : Int32) : Option Mem :=
Option.bind (sc9 b9L xs (l4 + 1)) fun t1 =>
Option.bind (sc9 b9L xs (l4 + 2)) fun t2 =>
Option.bind (sc9 b9L xs (l4 + 3)) fun t3 =>
Option.bind (sc9 b9L xs (l4 + 4)) fun t4 =>
Option.bind (sc9 b9L xs (l4 + 5)) fun t5 =>
Option.bind (f_L_lend μ t1 t2 t3 t4 t5) fun q6 =>
Option.bind (sc9 b9L xs (l4 + 1)) fun t7 =>
Option.bind (sc9 b9L xs (l4 + 2)) fun t8 =>
Option.bind (sc9 b9L xs (l4 + 3)) fun t9 =>
Option.bind (sc9 b9L xs (l4 + 4)) fun t10 =>
Option.bind (sc9 b9L xs (l4 + 5)) fun t11 =>
Option.bind (f_X12_lend q6.2 t7 t8 t9 t10 t11) fun q12 =>
Option.bind (f_X12_thrown q12.2) fun t13 =>
if t13 = q6.1 then
if q6.1 = 0 then
Option.bind (rd q12.2 275 1 0) fun t14 =>
if (if (Int32.toInt64 q12.1) < (Int32.toInt64 t14) then 1 else if (Int32.toInt64 t14) = (Int32.toInt64 q12.1) then 0 else -1) = 0 then
f_L_law__j864 q12.2 b9L xs l4
else
none
else
f_L_law__j864 q12.2 b9L xs l4
else
none
def f_L_law__j920 (μ : Mem) (b9L : Nat) (xs : (Nat → Int32)) (l4 : Int32) : Option Mem :=
some μ
def f_L_law__j867 (μ : Mem) (b9L : Nat) (xs : (Nat → Int32)) (l4 : Int32) : Option Mem :=
Option.bind (sc9 b9L xs (l4 + 1)) fun t1 =>
Option.bind (f_L_pay μ t1) fun q2 =>
Option.bind (sc9 b9L xs (l4 + 1)) fun t3 =>
Option.bind (f_X12_pay q2.2 t3) fun q4 =>
Option.bind (f_X12_thrown q4.2) fun t5 =>
if t5 = q2.1 then
if q2.1 = 0 then
Option.bind (rd q4.2 275 1 0) fun t6 =>
if (if (Int32.toInt64 q4.1) < (Int32.toInt64 t6) then 1 else if (Int32.toInt64 t6) = (Int32.toInt64 q4.1) then 0 else -1) = 0 then
f_L_law__j920 q4.2 b9L xs l4
else
none
else
f_L_law__j920 q4.2 b9L xs l4
else
none
def f_L_law__j988 (μ : Mem) (b9L : Nat) (xs : (Nat → Int32)) (l4 : Int32) : Option Mem :=
some μ
def f_L_law__j923 (μ : Mem) (b9L : Nat) (xs : (Nat → Int32)) (l4 : Int32) : Option Mem :=
Option.bind (sc9 b9L xs (l4 + 1)) fun t1 =>
Option.bind (sc9 b9L xs (l4 + 2)) fun t2 =>
Option.bind (f_L_surety μ t1 t2) fun q3 =>
Option.bind (sc9 b9L xs (l4 + 1)) fun t4 =>
Option.bind (sc9 b9L xs (l4 + 2)) fun t5 =>
Option.bind (f_X12_surety q3.2 t4 t5) fun q6 =>
Option.bind (f_X12_thrown q6.2) fun t7 =>
if t7 = q3.1 then
if q3.1 = 0 then
Option.bind (rd q6.2 275 1 0) fun t8 =>
if (if (Int32.toInt64 q6.1) < (Int32.toInt64 t8) then 1 else if (Int32.toInt64 t8) = (Int32.toInt64 q6.1) then 0 else -1) = 0 then
f_L_law__j988 q6.2 b9L xs l4
else
none
else
f_L_law__j988 q6.2 b9L xs l4
else
none
def f_L_law__j1056 (μ : Mem) (b9L : Nat) (xs : (Nat → Int32)) (l4 : Int32) : Option Mem :=
some μ
def f_L_law__j991 (μ : Mem) (b9L : Nat) (xs : (Nat → Int32)) (l4 : Int32) : Option Mem :=
Option.bind (sc9 b9L xs (l4 + 1)) fun t1 =>
Option.bind (sc9 b9L xs (l4 + 2)) fun t2 =>
Option.bind (f_L_give μ t1 t2) fun q3 =>
Option.bind (sc9 b9L xs (l4 + 1)) fun t4 =>
Option.bind (sc9 b9L xs (l4 + 2)) fun t5 =>
Option.bind (f_X12_give q3.2 t4 t5) fun q6 =>
Option.bind (f_X12_thrown q6.2) fun t7 =>
if t7 = q3.1 then
if q3.1 = 0 then
Option.bind (rd q6.2 275 1 0) fun t8 =>
if (if (Int32.toInt64 q6.1) < (Int32.toInt64 t8) then 1 else if (Int32.toInt64 t8) = (Int32.toInt64 q6.1) then 0 else -1) = 0 then
f_L_law__j1056 q6.2 b9L xs l4
else
none
else
f_L_law__j1056 q6.2 b9L xs l4
else
none
def f_L_law__j1124 (μ : Mem) (b9L : Nat) (xs : (Nat → Int32)) (l4 : Int32) : Option Mem :=
some μ
def f_L_law__j1059 (μ : Mem) (b9L : Nat) (xs : (Nat → Int32)) (l4 : Int32) : Option Mem :=
Option.bind (sc9 b9L xs (l4 + 1)) fun t1 =>
Option.bind (sc9 b9L xs (l4 + 2)) fun t2 =>
Option.bind (f_L_goal μ t1 t2) fun q3 =>
Option.bind (sc9 b9L xs (l4 + 1)) fun t4 =>
Option.bind (sc9 b9L xs (l4 + 2)) fun t5 =>
Option.bind (f_X12_goal q3.2 t4 t5) fun q6 =>
Option.bind (f_X12_thrown q6.2) fun t7 =>
if t7 = q3.1 then
if q3.1 = 0 then
Option.bind (rd q6.2 275 1 0) fun t8 =>
if (if (Int32.toInt64 q6.1) < (Int32.toInt64 t8) then 1 else if (Int32.toInt64 t8) = (Int32.toInt64 q6.1) then 0 else -1) = 0 then
f_L_law__j1124 q6.2 b9L xs l4
else
none
else
f_L_law__j1124 q6.2 b9L xs l4
else
none
def f_L_law__j1180 (μ : Mem) (b9L : Nat) (xs : (Nat → Int32)) (l4 : Int32) : Option Mem :=
some μ
def f_L_law__j1127 (μ : Mem) (b9L : Nat) (xs : (Nat → Int32)) (l4 : Int32) : Option Mem :=
Option.bind (sc9 b9L xs (l4 + 1)) fun t1 =>
Option.bind (f_L_rest μ t1) fun q2 =>
Option.bind (sc9 b9L xs (l4 + 1)) fun t3 =>
Option.bind (f_X12_rest q2.2 t3) fun q4 =>
Option.bind (f_X12_thrown q4.2) fun t5 =>
if t5 = q2.1 then
if q2.1 = 0 then
Option.bind (rd q4.2 275 1 0) fun t6 =>
if (if (Int32.toInt64 q4.1) < (Int32.toInt64 t6) then 1 else if (Int32.toInt64 t6) = (Int32.toInt64 q4.1) then 0 else -1) = 0 then
f_L_law__j1180 q4.2 b9L xs l4
else
none
else
f_L_law__j1180 q4.2 b9L xs l4
else
none
def f_L_law__j1236 (μ : Mem) (b9L : Nat) (xs : (Nat → Int32)) (l4 : Int32) : Option Mem :=
some μ
def f_L_law__j1183 (μ : Mem) (b9L : Nat) (xs : (Nat → Int32)) (l4 : Int32) : Option Mem :=
Option.bind (sc9 b9L xs (l4 + 1)) fun t1 =>
Option.bind (f_L_days μ t1) fun q2 =>
Option.bind (sc9 b9L xs (l4 + 1)) fun t3 =>
Option.bind (f_X12_days q2.2 t3) fun q4 =>
Option.bind (f_X12_thrown q4.2) fun t5 =>
if t5 = q2.1 then
if q2.1 = 0 then
Option.bind (rd q4.2 275 1 0) fun t6 =>
if (if (Int32.toInt64 q4.1) < (Int32.toInt64 t6) then 1 else if (Int32.toInt64 t6) = (Int32.toInt64 q4.1) then 0 else -1) = 0 then
f_L_law__j1236 q4.2 b9L xs l4
else
none
else
f_L_law__j1236 q4.2 b9L xs l4
else
none
def f_L_law__j1239 (μ : Mem) (b9L : Nat) (xs : (Nat → Int32)) (l4 : Int32) : Option Mem :=
Option.bind (f_X11_solvent μ) fun t1 =>
Option.bind (f_X12_solvent μ) fun q2 =>
if t1 = q2.1 then
some q2.2
else
none
def f_L_law__j1317 (μ : Mem) (b9L : Nat) (xs : (Nat → Int32)) (l4 : Int32) : Option Mem :=
some μ
def f_L_law__j1252 (μ : Mem) (b9L : Nat) (xs : (Nat → Int32)) (l4 : Int32) : Option Mem :=
Option.bind (sc9 b9L xs (l4 + 1)) fun t1 =>
Option.bind (sc9 b9L xs (l4 + 2)) fun t2 =>
Option.bind (f_L_comes μ t1 t2) fun q3 =>
Option.bind (sc9 b9L xs (l4 + 1)) fun t4 =>
Option.bind (sc9 b9L xs (l4 + 2)) fun t5 =>
Option.bind (f_X12_comes q3.2 t4 t5) fun q6 =>
Option.bind (f_X12_thrown q6.2) fun t7 =>
if t7 = q3.1 then
if q3.1 = 0 then
Option.bind (rd q6.2 275 1 0) fun t8 =>
if (if (Int32.toInt64 q6.1) < (Int32.toInt64 t8) then 1 else if (Int32.toInt64 t8) = (Int32.toInt64 q6.1) then 0 else -1) = 0 then
f_L_law__j1317 q6.2 b9L xs l4
else
none
else
f_L_law__j1317 q6.2 b9L xs l4
else
none
def f_L_law__j1373 (μ : Mem) (b9L : Nat) (xs : (Nat → Int32)) (l4 : Int32) : Option Mem :=
some μ
def f_L_law__j1320 (μ : Mem) (b9L : Nat) (xs : (Nat → Int32)) (l4 : Int32) : Option Mem :=
Option.bind (sc9 b9L xs (l4 + 1)) fun t1 =>
Option.bind (f_L_soonest μ t1) fun q2 =>
Option.bind (sc9 b9L xs (l4 + 1)) fun t3 =>
Option.bind (f_X12_soonest q2.2 t3) fun q4 =>
Option.bind (f_X12_thrown q4.2) fun t5 =>
if t5 = q2.1 then
if q2.1 = 0 then
Option.bind (rd q4.2 275 1 0) fun t6 =>
if (if (Int32.toInt64 q4.1) < (Int32.toInt64 t6) then 1 else if (Int32.toInt64 t6) = (Int32.toInt64 q4.1) then 0 else -1) = 0 then
f_L_law__j1373 q4.2 b9L xs l4
else
none
else
f_L_law__j1373 q4.2 b9L xs l4
else
none
def f_L_law__j1429 (μ : Mem) (b9L : Nat) (xs : (Nat → Int32)) (l4 : Int32) : Option Mem :=
some μ
def f_L_law__j1376 (μ : Mem) (b9L : Nat) (xs : (Nat → Int32)) (l4 : Int32) : Option Mem :=
Option.bind (sc9 b9L xs (l4 + 1)) fun t1 =>
Option.bind (f_L_carry μ t1) fun q2 =>
Option.bind (sc9 b9L xs (l4 + 1)) fun t3 =>
Option.bind (f_X12_carry q2.2 t3) fun q4 =>
Option.bind (f_X12_thrown q4.2) fun t5 =>
if t5 = q2.1 then
if q2.1 = 0 then
Option.bind (rd q4.2 275 1 0) fun t6 =>
if (if (Int32.toInt64 q4.1) < (Int32.toInt64 t6) then 1 else if (Int32.toInt64 t6) = (Int32.toInt64 q4.1) then 0 else -1) = 0 then
f_L_law__j1429 q4.2 b9L xs l4
else
none
else
f_L_law__j1429 q4.2 b9L xs l4
else
none
def f_L_law__j1525 (μ : Mem) (b9L : Nat) (xs : (Nat → Int32)) (l4 : Int32) : Option Mem :=
some μ
def f_L_law__j1432 (μ : Mem) (b9L : Nat) (xs : (Nat → Int32)) (l4 : Int32) : Option Mem :=
Option.bind (sc9 b9L xs (l4 + 1)) fun t1 =>
Option.bind (sc9 b9L xs (l4 + 2)) fun t2 =>
Option.bind (sc9 b9L xs (l4 + 3)) fun t3 =>
Option.bind (f_L_ahead μ t1 t2 (if t3 = 0 then (false : Bool) else true)) fun q5 =>
Option.bind (sc9 b9L xs (l4 + 1)) fun t6 =>
Option.bind (sc9 b9L xs (l4 + 2)) fun t7 =>
Option.bind (sc9 b9L xs (l4 + 3)) fun t8 =>
Option.bind (f_X12_ahead q5.2 t6 t7 (if t8 = 0 then (false : Bool) else true)) fun q10 =>
Option.bind (f_X12_thrown q10.2) fun t11 =>
if t11 = q5.1 then
if q5.1 = 0 then
Option.bind (rd q10.2 275 1 0) fun t12 =>
if (if (Int32.toInt64 q10.1) < (Int32.toInt64 t12) then 1 else if (Int32.toInt64 t12) = (Int32.toInt64 q10.1) then 0 else -1) = 0 then
f_L_law__j1525 q10.2 b9L xs l4
else
none
else
f_L_law__j1525 q10.2 b9L xs l4
else
none
def f_L_law__j1528 (μ : Mem) (b9L : Nat) (xs : (Nat → Int32)) (l4 : Int32) : Option Mem :=
Option.bind (f_X11_rings μ) fun q1 =>
Option.bind (f_X12_rings q1.2) fun q2 =>
if q1.1 = q2.1 then
some q2.2
else
none
def f_L_law__j1541 (μ : Mem) (b9L : Nat) (xs : (Nat → Int32)) (l4 : Int32) : Option Mem :=
Option.bind (sc9 b9L xs (l4 + 1)) fun t1 =>
Option.bind (f_X11_untie μ (if t1 = 0 then (false : Bool) else true)) fun q3 =>
Option.bind (sc9 b9L xs (l4 + 1)) fun t4 =>
Option.bind (f_X12_untie q3.2 (if t4 = 0 then (false : Bool) else true)) fun q6 =>
if q3.1 = q6.1 then
some q6.2
else
none
def f_L_law__j1654 (μ : Mem) (b9L : Nat) (xs : (Nat → Int32)) (l4 : Int32) : Option Mem :=
some μ
def f_L_law__j1648 (μ : Mem) (b9L : Nat) (xs : (Nat → Int32)) (l4 : Int32) (k0 : Int32) (k1 : Int32) : Option Mem :=
if (if (Int32.toInt64 k1) < (Int32.toInt64 k0) then 1 else if (Int32.toInt64 k0) = (Int32.toInt64 k1) then 0 else -1) = 0 then
f_L_law__j1654 μ b9L xs l4
else
none
def f_L_law__j1582 (μ : Mem) (b9L : Nat) (xs : (Nat → Int32)) (l4 : Int32) : Option Mem :=
Option.bind (sc9 b9L xs (l4 + 1)) fun t1 =>
Option.bind (sc9 b9L xs (l4 + 2)) fun t2 =>
Option.bind (f_L_owes μ t1 t2) fun q3 =>
Option.bind (sc9 b9L xs (l4 + 1)) fun t4 =>
Option.bind (sc9 b9L xs (l4 + 2)) fun t5 =>
Option.bind (f_X12_owes q3.2 t4 t5) fun q6 =>
Option.bind (f_X12_thrown q6.2) fun t7 =>
if t7 = q3.1 then
if q3.1 = 0 then
Option.bind (rd q6.2 275 1 0) fun t8 =>
if q6.1 = true then
f_L_law__j1648 q6.2 b9L xs l4 t8 1
else
f_L_law__j1648 q6.2 b9L xs l4 t8 0
else
f_L_law__j1654 q6.2 b9L xs l4
else
none
def f_L_law__j1710 (μ : Mem) (b9L : Nat) (xs : (Nat → Int32)) (l4 : Int32) : Option Mem :=
some μ
def f_L_law__j1657 (μ : Mem) (b9L : Nat) (xs : (Nat → Int32)) (l4 : Int32) : Option Mem :=
Option.bind (sc9 b9L xs (l4 + 1)) fun t1 =>
Option.bind (f_L_leads μ t1) fun q2 =>
Option.bind (sc9 b9L xs (l4 + 1)) fun t3 =>
Option.bind (f_X12_leads q2.2 t3) fun q4 =>
Option.bind (f_X12_thrown q4.2) fun t5 =>
if t5 = q2.1 then
if q2.1 = 0 then
Option.bind (rd q4.2 275 1 0) fun t6 =>
if (if (Int32.toInt64 q4.1) < (Int32.toInt64 t6) then 1 else if (Int32.toInt64 t6) = (Int32.toInt64 q4.1) then 0 else -1) = 0 then
f_L_law__j1710 q4.2 b9L xs l4
else
none
else
f_L_law__j1710 q4.2 b9L xs l4
else
none
def f_L_law__j1794 (μ : Mem) (b9L : Nat) (xs : (Nat → Int32)) (l4 : Int32) : Option Mem :=
some μ
def f_L_law__j1713 (μ : Mem) (b9L : Nat) (xs : (Nat → Int32)) (l4 : Int32) : Option Mem :=
Option.bind (sc9 b9L xs (l4 + 1)) fun t1 =>
Option.bind (sc9 b9L xs (l4 + 2)) fun t2 =>
Option.bind (f_L_call μ t1 (if t2 = 0 then (false : Bool) else true)) fun q4 =>
Option.bind (sc9 b9L xs (l4 + 1)) fun t5 =>
Option.bind (sc9 b9L xs (l4 + 2)) fun t6 =>
Option.bind (f_X12_call q4.2 t5 (if t6 = 0 then (false : Bool) else true)) fun q8 =>
Option.bind (f_X12_thrown q8.2) fun t9 =>
if t9 = q4.1 then
if q4.1 = 0 then
Option.bind (rd q8.2 275 1 0) fun t10 =>
if (if (Int32.toInt64 q8.1) < (Int32.toInt64 t10) then 1 else if (Int32.toInt64 t10) = (Int32.toInt64 q8.1) then 0 else -1) = 0 then
f_L_law__j1794 q8.2 b9L xs l4
else
none
else
f_L_law__j1794 q8.2 b9L xs l4
else
none
def f_L_law__j1850 (μ : Mem) (b9L : Nat) (xs : (Nat → Int32)) (l4 : Int32) : Option Mem :=
some μ
def f_L_law__j1797 (μ : Mem) (b9L : Nat) (xs : (Nat → Int32)) (l4 : Int32) : Option Mem :=
Option.bind (sc9 b9L xs (l4 + 1)) fun t1 =>
Option.bind (f_L_breaks μ t1) fun q2 =>
Option.bind (sc9 b9L xs (l4 + 1)) fun t3 =>
Option.bind (f_X12_breaks q2.2 t3) fun q4 =>
Option.bind (f_X12_thrown q4.2) fun t5 =>
if t5 = q2.1 then
if q2.1 = 0 then
Option.bind (rd q4.2 275 1 0) fun t6 =>
if (if (Int32.toInt64 q4.1) < (Int32.toInt64 t6) then 1 else if (Int32.toInt64 t6) = (Int32.toInt64 q4.1) then 0 else -1) = 0 then
f_L_law__j1850 q4.2 b9L xs l4
else
none
else
f_L_law__j1850 q4.2 b9L xs l4
else
none
def f_L_law__j1906 (μ : Mem) (b9L : Nat) (xs : (Nat → Int32)) (l4 : Int32) : Option Mem :=
some μ
def f_L_law__j1853 (μ : Mem) (b9L : Nat) (xs : (Nat → Int32)) (l4 : Int32) : Option Mem :=
Option.bind (sc9 b9L xs (l4 + 1)) fun t1 =>
Option.bind (f_L_mercy μ t1) fun q2 =>
Option.bind (sc9 b9L xs (l4 + 1)) fun t3 =>
Option.bind (f_X12_mercy q2.2 t3) fun q4 =>
Option.bind (f_X12_thrown q4.2) fun t5 =>
if t5 = q2.1 then
if q2.1 = 0 then
Option.bind (rd q4.2 275 1 0) fun t6 =>
if (if (Int32.toInt64 q4.1) < (Int32.toInt64 t6) then 1 else if (Int32.toInt64 t6) = (Int32.toInt64 q4.1) then 0 else -1) = 0 then
f_L_law__j1906 q4.2 b9L xs l4
else
none
else
f_L_law__j1906 q4.2 b9L xs l4
else
none
def f_L_law__j1962 (μ : Mem) (b9L : Nat) (xs : (Nat → Int32)) (l4 : Int32) : Option Mem :=
some μ
def f_L_law__j1909 (μ : Mem) (b9L : Nat) (xs : (Nat → Int32)) (l4 : Int32) : Option Mem :=
Option.bind (sc9 b9L xs (l4 + 1)) fun t1 =>
Option.bind (f_L_hangs μ t1) fun q2 =>
Option.bind (sc9 b9L xs (l4 + 1)) fun t3 =>
Option.bind (f_X12_hangs q2.2 t3) fun q4 =>
Option.bind (f_X12_thrown q4.2) fun t5 =>
if t5 = q2.1 then
if q2.1 = 0 then
Option.bind (rd q4.2 275 1 0) fun t6 =>
if (if (Int32.toInt64 q4.1) < (Int32.toInt64 t6) then 1 else if (Int32.toInt64 t6) = (Int32.toInt64 q4.1) then 0 else -1) = 0 then
f_L_law__j1962 q4.2 b9L xs l4
else
none
else
f_L_law__j1962 q4.2 b9L xs l4
else
none
def f_L_law__j1965 (μ : Mem) (b9L : Nat) (xs : (Nat → Int32)) (l4 : Int32) : Option Mem :=
Option.bind (f_X11_trust μ) fun t1 =>
Option.bind (f_X12_trust μ) fun q2 =>
if t1 = q2.1 then
some q2.2
else
none
def f_L_law__j1978 (μ : Mem) (b9L : Nat) (xs : (Nat → Int32)) (l4 : Int32) : Option Mem :=
Option.bind (f_X11_needed μ) fun t1 =>
Option.bind (f_X12_needed μ) fun q2 =>
if t1 = q2.1 then
some q2.2
else
none
def f_L_law__j2060 (μ : Mem) (b9L : Nat) (xs : (Nat → Int32)) (l4 : Int32) : Option Mem :=
some μ
def f_L_law__j1991 (μ : Mem) (b9L : Nat) (xs : (Nat → Int32)) (l4 : Int32) : Option Mem :=
Option.bind (sc9 b9L xs (l4 + 1)) fun t1 =>
Option.bind (f_L_wear μ (if t1 = 0 then (false : Bool) else true)) fun q3 =>
Option.bind (sc9 b9L xs (l4 + 1)) fun t4 =>
Option.bind (f_X12_wear q3.2 (if t4 = 0 then (false : Bool) else true)) fun q6 =>
Option.bind (f_X12_thrown q6.2) fun t7 =>
if t7 = q3.1 then
if q3.1 = 0 then
Option.bind (rd q6.2 275 1 0) fun t8 =>
if (if (Int32.toInt64 q6.1) < (Int32.toInt64 t8) then 1 else if (Int32.toInt64 t8) = (Int32.toInt64 q6.1) then 0 else -1) = 0 then
f_L_law__j2060 q6.2 b9L xs l4
else
none
else
f_L_law__j2060 q6.2 b9L xs l4
else
none
def f_L_law__j2104 (μ : Mem) (b9L : Nat) (xs : (Nat → Int32)) (l4 : Int32) : Option Mem :=
some μ
def f_L_law__j2063 (μ : Mem) (b9L : Nat) (xs : (Nat → Int32)) (l4 : Int32) : Option Mem :=
Option.bind (f_L_look μ) fun q1 =>
Option.bind (f_X12_look q1.2) fun q2 =>
Option.bind (f_X12_thrown q2.2) fun t3 =>
if t3 = q1.1 then
if q1.1 = 0 then
Option.bind (rd q2.2 275 1 0) fun t4 =>
if (if (Int32.toInt64 q2.1) < (Int32.toInt64 t4) then 1 else if (Int32.toInt64 t4) = (Int32.toInt64 q2.1) then 0 else -1) = 0 then
f_L_law__j2104 q2.2 b9L xs l4
else
none
else
f_L_law__j2104 q2.2 b9L xs l4
else
none
def f_L_law__j2160 (μ : Mem) (b9L : Nat) (xs : (Nat → Int32)) (l4 : Int32) : Option Mem :=
some μ
def f_L_law__j2107 (μ : Mem) (b9L : Nat) (xs : (Nat → Int32)) (l4 : Int32) : Option Mem :=
Option.bind (sc9 b9L xs (l4 + 1)) fun t1 =>
Option.bind (f_L_race μ t1) fun q2 =>
Option.bind (sc9 b9L xs (l4 + 1)) fun t3 =>
Option.bind (f_X12_race q2.2 t3) fun q4 =>
Option.bind (f_X12_thrown q4.2) fun t5 =>
if t5 = q2.1 then
if q2.1 = 0 then
Option.bind (rd q4.2 275 1 0) fun t6 =>
if (if (Int32.toInt64 q4.1) < (Int32.toInt64 t6) then 1 else if (Int32.toInt64 t6) = (Int32.toInt64 q4.1) then 0 else -1) = 0 then
f_L_law__j2160 q4.2 b9L xs l4
else
none
else
f_L_law__j2160 q4.2 b9L xs l4
else
none
def f_L_law__j2163 (μ : Mem) (b9L : Nat) (xs : (Nat → Int32)) (l4 : Int32) : Option Mem :=
Option.bind (f_X11_pairs μ) fun q1 =>
Option.bind (f_X12_pairs q1.2) fun q2 =>
if q1.1 = q2.1 then
some q2.2
else
none
def f_L_law__j2229 (μ : Mem) (b9L : Nat) (xs : (Nat → Int32)) (l4 : Int32) : Option Mem :=
some μ
def f_L_law__j2176 (μ : Mem) (b9L : Nat) (xs : (Nat → Int32)) (l4 : Int32) : Option Mem :=
Option.bind (sc9 b9L xs (l4 + 1)) fun t1 =>
Option.bind (f_L_lends μ t1) fun q2 =>
Option.bind (sc9 b9L xs (l4 + 1)) fun t3 =>
Option.bind (f_X12_lends q2.2 t3) fun q4 =>
Option.bind (f_X12_thrown q4.2) fun t5 =>
if t5 = q2.1 then
if q2.1 = 0 then
Option.bind (rd q4.2 275 1 0) fun t6 =>
if (if (Int32.toInt64 q4.1) < (Int32.toInt64 t6) then 1 else if (Int32.toInt64 t6) = (Int32.toInt64 q4.1) then 0 else -1) = 0 then
f_L_law__j2229 q4.2 b9L xs l4
else
none
else
f_L_law__j2229 q4.2 b9L xs l4
else
none
def f_L_law__j2285 (μ : Mem) (b9L : Nat) (xs : (Nat → Int32)) (l4 : Int32) : Option Mem :=
some μ
def f_L_law__j2232 (μ : Mem) (b9L : Nat) (xs : (Nat → Int32)) (l4 : Int32) : Option Mem :=
Option.bind (sc9 b9L xs (l4 + 1)) fun t1 =>
Option.bind (f_L_loose μ t1) fun q2 =>
Option.bind (sc9 b9L xs (l4 + 1)) fun t3 =>
Option.bind (f_X12_loose q2.2 t3) fun q4 =>
Option.bind (f_X12_thrown q4.2) fun t5 =>
if t5 = q2.1 then
if q2.1 = 0 then
Option.bind (rd q4.2 275 1 0) fun t6 =>
if (if (Int32.toInt64 q4.1) < (Int32.toInt64 t6) then 1 else if (Int32.toInt64 t6) = (Int32.toInt64 q4.1) then 0 else -1) = 0 then
f_L_law__j2285 q4.2 b9L xs l4
else
none
else
f_L_law__j2285 q4.2 b9L xs l4
else
none
def f_L_law__j2288 (μ : Mem) (b9L : Nat) (xs : (Nat → Int32)) (l4 : Int32) : Option Mem :=
Option.bind (f_X11_rail μ) fun t1 =>
Option.bind (f_X12_rail μ) fun q2 =>
if t1 = q2.1 then
some q2.2
else
none
def f_L_law__j2382 (μ : Mem) (b9L : Nat) (xs : (Nat → Int32)) (l4 : Int32) : Option Mem :=
some μ
def f_L_law__j2301 (μ : Mem) (b9L : Nat) (xs : (Nat → Int32)) (l4 : Int32) : Option Mem :=
Option.bind (sc9 b9L xs (l4 + 1)) fun t1 =>
Option.bind (sc9 b9L xs (l4 + 2)) fun t2 =>
Option.bind (f_L_trial μ t1 (if t2 = 0 then (false : Bool) else true)) fun q4 =>
Option.bind (sc9 b9L xs (l4 + 1)) fun t5 =>
Option.bind (sc9 b9L xs (l4 + 2)) fun t6 =>
Option.bind (f_X12_trial q4.2 t5 (if t6 = 0 then (false : Bool) else true)) fun q8 =>
Option.bind (f_X12_thrown q8.2) fun t9 =>
if t9 = q4.1 then
if q4.1 = 0 then
Option.bind (rd q8.2 275 1 0) fun t10 =>
if (if (Int32.toInt64 q8.1) < (Int32.toInt64 t10) then 1 else if (Int32.toInt64 t10) = (Int32.toInt64 q8.1) then 0 else -1) = 0 then
f_L_law__j2382 q8.2 b9L xs l4
else
none
else
f_L_law__j2382 q8.2 b9L xs l4
else
none
def f_L_law__j2466 (μ : Mem) (b9L : Nat) (xs : (Nat → Int32)) (l4 : Int32) : Option Mem :=
some μ
def f_L_law__j2385 (μ : Mem) (b9L : Nat) (xs : (Nat → Int32)) (l4 : Int32) : Option Mem :=
Option.bind (sc9 b9L xs (l4 + 1)) fun t1 =>
Option.bind (sc9 b9L xs (l4 + 2)) fun t2 =>
Option.bind (f_L_span μ t1 (if t2 = 0 then (false : Bool) else true)) fun q4 =>
Option.bind (sc9 b9L xs (l4 + 1)) fun t5 =>
Option.bind (sc9 b9L xs (l4 + 2)) fun t6 =>
Option.bind (f_X12_span q4.2 t5 (if t6 = 0 then (false : Bool) else true)) fun q8 =>
Option.bind (f_X12_thrown q8.2) fun t9 =>
if t9 = q4.1 then
if q4.1 = 0 then
Option.bind (rd q8.2 275 1 0) fun t10 =>
if (if (Int32.toInt64 q8.1) < (Int32.toInt64 t10) then 1 else if (Int32.toInt64 t10) = (Int32.toInt64 q8.1) then 0 else -1) = 0 then
f_L_law__j2466 q8.2 b9L xs l4
else
none
else
f_L_law__j2466 q8.2 b9L xs l4
else
none
def f_L_law__j2550 (μ : Mem) (b9L : Nat) (xs : (Nat → Int32)) (l4 : Int32) : Option Mem :=
some μ
def f_L_law__j2469 (μ : Mem) (b9L : Nat) (xs : (Nat → Int32)) (l4 : Int32) : Option Mem :=
Option.bind (sc9 b9L xs (l4 + 1)) fun t1 =>
Option.bind (sc9 b9L xs (l4 + 2)) fun t2 =>
Option.bind (f_L_led μ t1 (if t2 = 0 then (false : Bool) else true)) fun q4 =>
Option.bind (sc9 b9L xs (l4 + 1)) fun t5 =>
Option.bind (sc9 b9L xs (l4 + 2)) fun t6 =>
Option.bind (f_X12_led q4.2 t5 (if t6 = 0 then (false : Bool) else true)) fun q8 =>
Option.bind (f_X12_thrown q8.2) fun t9 =>
if t9 = q4.1 then
if q4.1 = 0 then
Option.bind (rd q8.2 275 1 0) fun t10 =>
if (if (Int32.toInt64 q8.1) < (Int32.toInt64 t10) then 1 else if (Int32.toInt64 t10) = (Int32.toInt64 q8.1) then 0 else -1) = 0 then
f_L_law__j2550 q8.2 b9L xs l4
else
none
else
f_L_law__j2550 q8.2 b9L xs l4
else
none
def f_L_law__j2618 (μ : Mem) (b9L : Nat) (xs : (Nat → Int32)) (l4 : Int32) : Option Mem :=
some μ
def f_L_law__j2553 (μ : Mem) (b9L : Nat) (xs : (Nat → Int32)) (l4 : Int32) : Option Mem :=
Option.bind (sc9 b9L xs (l4 + 1)) fun t1 =>
Option.bind (sc9 b9L xs (l4 + 2)) fun t2 =>
Option.bind (f_L_log μ t1 t2) fun q3 =>
Option.bind (sc9 b9L xs (l4 + 1)) fun t4 =>
Option.bind (sc9 b9L xs (l4 + 2)) fun t5 =>
Option.bind (f_X12_log q3.2 t4 t5) fun q6 =>
Option.bind (f_X12_thrown q6.2) fun t7 =>
if t7 = q3.1 then
if q3.1 = 0 then
Option.bind (rd q6.2 275 1 0) fun t8 =>
if (if (Int32.toInt64 q6.1) < (Int32.toInt64 t8) then 1 else if (Int32.toInt64 t8) = (Int32.toInt64 q6.1) then 0 else -1) = 0 then
f_L_law__j2618 q6.2 b9L xs l4
else
none
else
f_L_law__j2618 q6.2 b9L xs l4
else
none
def f_L_law__j2621 (μ : Mem) (b9L : Nat) (xs : (Nat → Int32)) (l4 : Int32) : Option Mem :=
Option.bind (sc9 b9L xs (l4 + 1)) fun t1 =>
Option.bind (f_X11_seed μ t1) fun q2 =>
Option.bind (sc9 b9L xs (l4 + 1)) fun t3 =>
Option.bind (f_X12_seed q2.2 t3) fun q4 =>
if q2.1 = q4.1 then
some q4.2
else
none
def f_L_law__j2646 (μ : Mem) (b9L : Nat) (xs : (Nat → Int32)) (l4 : Int32) : Option Mem :=
Option.bind (f_X11_undo μ) fun q1 =>
Option.bind (f_X12_undo q1.2) fun q2 =>
if (b2i q1.1) = (b2i q2.1) then
some q2.2
else
none
def f_L_law__j2659 (μ : Mem) (b9L : Nat) (xs : (Nat → Int32)) (l4 : Int32) : Option Mem :=
Option.bind (f_X11_image μ) fun q1 =>
Option.bind (f_X12_image q1) fun q2 =>
some q2
def f_L_law__j2670 (μ : Mem) (b9L : Nat) (xs : (Nat → Int32)) (l4 : Int32) : Option Mem :=
Option.bind (f_X11_back μ) fun q1 =>
Option.bind (f_X12_back q1.2) fun q2 =>
if (b2i q1.1) = (b2i q2.1) then
some q2.2
else
none
def f_L_law__j2683 (μ : Mem) (b9L : Nat) (xs : (Nat → Int32)) (l4 : Int32) : Option Mem :=
Option.bind (sc9 b9L xs (l4 + 1)) fun t1 =>
Option.bind (f_X11_count μ t1) fun t2 =>
Option.bind (sc9 b9L xs (l4 + 1)) fun t3 =>
Option.bind (f_X12_count μ t3) fun q4 =>
if t2 = q4.1 then
some q4.2
else
none
def f_L_law__j33 (μ : Mem) (b9L : Nat) (xs : (Nat → Int32)) (l4 : Int32) : Option Mem :=
Option.bind (sc9 b9L xs l4) fun t1 =>
if (t1 &&& 63) = 0 then
f_L_law__j248 μ b9L xs l4
else
if (t1 &&& 63) = 1 then
f_L_law__j321 μ b9L xs l4
else
if (t1 &&& 63) = 2 then
f_L_law__j346 μ b9L xs l4
else
if (t1 &&& 63) = 3 then
f_L_law__j390 μ b9L xs l4
else
if (t1 &&& 63) = 4 then
f_L_law__j434 μ b9L xs l4
else
if (t1 &&& 63) = 5 then
f_L_law__j447 μ b9L xs l4
else
if (t1 &&& 63) = 6 then
f_L_law__j515 μ b9L xs l4
else
if (t1 &&& 63) = 7 then
f_L_law__j583 μ b9L xs l4
else
if (t1 &&& 63) = 8 then
f_L_law__j639 μ b9L xs l4
else
if (t1 &&& 63) = 9 then
f_L_law__j707 μ b9L xs l4
else
if (t1 &&& 63) = 10 then
f_L_law__j763 μ b9L xs l4
else
if (t1 &&& 63) = 11 then
f_L_law__j867 μ b9L xs l4
else
if (t1 &&& 63) = 12 then
f_L_law__j923 μ b9L xs l4
else
if (t1 &&& 63) = 13 then
f_L_law__j991 μ b9L xs l4
else
if (t1 &&& 63) = 14 then
f_L_law__j1059 μ b9L xs l4
else
if (t1 &&& 63) = 15 then
f_L_law__j1127 μ b9L xs l4
else
if (t1 &&& 63) = 16 then
f_L_law__j1183 μ b9L xs l4
else
if (t1 &&& 63) = 17 then
f_L_law__j1239 μ b9L xs l4
else
if (t1 &&& 63) = 18 then
f_L_law__j1252 μ b9L xs l4
else
if (t1 &&& 63) = 19 then
f_L_law__j1320 μ b9L xs l4
else
if (t1 &&& 63) = 20 then
f_L_law__j1376 μ b9L xs l4
else
if (t1 &&& 63) = 21 then
f_L_law__j1432 μ b9L xs l4
else
if (t1 &&& 63) = 22 then
f_L_law__j1528 μ b9L xs l4
else
if (t1 &&& 63) = 23 then
f_L_law__j1541 μ b9L xs l4
else
if (t1 &&& 63) = 24 then
f_L_law__j1582 μ b9L xs l4
else
if (t1 &&& 63) = 25 then
f_L_law__j1657 μ b9L xs l4
else
if (t1 &&& 63) = 26 then
f_L_law__j1713 μ b9L xs l4
else
if (t1 &&& 63) = 27 then
f_L_law__j1797 μ b9L xs l4
else
if (t1 &&& 63) = 28 then
f_L_law__j1853 μ b9L xs l4
else
if (t1 &&& 63) = 29 then
f_L_law__j1909 μ b9L xs l4
else
if (t1 &&& 63) = 30 then
f_L_law__j1965 μ b9L xs l4
else
if (t1 &&& 63) = 31 then
f_L_law__j1978 μ b9L xs l4
else
if (t1 &&& 63) = 32 then
f_L_law__j1991 μ b9L xs l4
else
if (t1 &&& 63) = 33 then
f_L_law__j2063 μ b9L xs l4
else
if (t1 &&& 63) = 34 then
f_L_law__j2107 μ b9L xs l4
else
if (t1 &&& 63) = 35 then
f_L_law__j2163 μ b9L xs l4
else
if (t1 &&& 63) = 36 then
f_L_law__j2176 μ b9L xs l4
else
if (t1 &&& 63) = 37 then
f_L_law__j2232 μ b9L xs l4
else
if (t1 &&& 63) = 38 then
f_L_law__j2288 μ b9L xs l4
else
if (t1 &&& 63) = 39 then
f_L_law__j2301 μ b9L xs l4
else
if (t1 &&& 63) = 40 then
f_L_law__j2385 μ b9L xs l4
else
if (t1 &&& 63) = 41 then
f_L_law__j2469 μ b9L xs l4
else
if (t1 &&& 63) = 42 then
f_L_law__j2553 μ b9L xs l4
else
if (t1 &&& 63) = 43 then
f_L_law__j2621 μ b9L xs l4
else
if (t1 &&& 63) = 44 then
f_L_law__j2646 μ b9L xs l4
else
if (t1 &&& 63) = 45 then
f_L_law__j2659 μ b9L xs l4
else
if (t1 &&& 63) = 46 then
f_L_law__j2670 μ b9L xs l4
else
if (t1 &&& 63) = 47 then
f_L_law__j2683 μ b9L xs l4
else
some μ
def f_L_law_loop (b9L : Nat) (xs : Nat → Int32) : Nat → Mem → Int32 → Option Unit
  | 0 => fun _ _ => none
  | k + 1 => fun μ l4 => if (Int32.ofNat b9L) - 6 < l4 then some () else Option.bind (f_L_law__j33 μ b9L xs l4) fun μ' => f_L_law_loop b9L xs k μ' (l4 + 6)
