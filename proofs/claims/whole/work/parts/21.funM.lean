/-! ===== the program as functions over the memory (printed by program out of the bytecode) ===== -/
def f_X9_init (K : Kn) (a0 : Nat) (m : Mem) : Option (Kn × Mem) :=
  bd (szm m) fun b1 =>
  bd (upK K b1 (.inr (0, 5))) fun K2 =>
  bd (bump m) fun m3 =>
  bd (sR m3 a0 0 (some b1)) fun m5 =>
  bd (szm m5) fun b6 =>
  bd (upK K2 b6 (.inr (0, 5))) fun K7 =>
  bd (bump m5) fun m8 =>
  bd (sR m8 a0 1 (some b6)) fun m10 =>
  bd (szm m10) fun b11 =>
  bd (upK K7 b11 (.inr (0, 5))) fun K12 =>
  bd (bump m10) fun m13 =>
  bd (sR m13 a0 2 (some b11)) fun m15 =>
  bd (szm m15) fun b16 =>
  bd (upK K12 b16 (.inr (0, 16000))) fun K17 =>
  bd (bump m15) fun m18 =>
  bd (sR m18 a0 3 (some b16)) fun m20 =>
  bd (szm m20) fun b21 =>
  bd (upK K17 b21 (.inr (0, 80))) fun K22 =>
  bd (bump m20) fun m23 =>
  bd (sR m23 a0 4 (some b21)) fun m25 =>
  bd (szm m25) fun b26 =>
  bd (upK K22 b26 (.inr (0, 80))) fun K27 =>
  bd (bump m25) fun m28 =>
  bd (sR m28 a0 5 (some b26)) fun m30 =>
  bd (szm m30) fun b31 =>
  bd (upK K27 b31 (.inr (2, 80))) fun K32 =>
  bd (bump m30) fun m33 =>
  bd (sR m33 a0 6 (some b31)) fun m35 =>
  bd (szm m35) fun b36 =>
  bd (upK K32 b36 (.inr (0, 80))) fun K37 =>
  bd (bump m35) fun m38 =>
  bd (sR m38 a0 7 (some b36)) fun m40 =>
  bd (szm m40) fun b41 =>
  bd (upK K37 b41 (.inr (0, 80))) fun K42 =>
  bd (bump m40) fun m43 =>
  bd (sR m43 a0 8 (some b41)) fun m45 =>
  bd (szm m45) fun b46 =>
  bd (upK K42 b46 (.inr (0, 5))) fun K47 =>
  bd (bump m45) fun m48 =>
  bd (sR m48 a0 9 (some b46)) fun m50 =>
  bd (szm m50) fun b51 =>
  bd (upK K47 b51 (.inr (0, 100))) fun K52 =>
  bd (bump m50) fun m53 =>
  bd (sR m53 a0 10 (some b51)) fun m55 =>
  bd (szm m55) fun b56 =>
  bd (upK K52 b56 (.inr (1, 100))) fun K57 =>
  bd (bump m55) fun m58 =>
  bd (sR m58 a0 11 (some b56)) fun m60 =>
  bd (szm m60) fun b61 =>
  bd (upK K57 b61 (.inr (0, 200))) fun K62 =>
  bd (bump m60) fun m63 =>
  bd (sR m63 a0 12 (some b61)) fun m65 =>
  bd (szm m65) fun b66 =>
  bd (upK K62 b66 (.inr (1, 800))) fun K67 =>
  bd (bump m65) fun m68 =>
  bd (sR m68 a0 21 (some b66)) fun m70 =>
  bd (szm m70) fun b71 =>
  bd (upK K67 b71 (.inr (1, 800))) fun K72 =>
  bd (bump m70) fun m73 =>
  bd (sR m73 a0 22 (some b71)) fun m75 =>
  bd (szm m75) fun b76 =>
  bd (upK K72 b76 (.inr (0, 800))) fun K77 =>
  bd (bump m75) fun m78 =>
  bd (sR m78 a0 23 (some b76)) fun m80 =>
  bd (szm m80) fun b81 =>
  bd (upK K77 b81 (.inr (0, 800))) fun K82 =>
  bd (bump m80) fun m83 =>
  bd (sR m83 a0 24 (some b81)) fun m85 =>
  bd (szm m85) fun b86 =>
  bd (upK K82 b86 (.inr (0, 800))) fun K87 =>
  bd (bump m85) fun m88 =>
  bd (sR m88 a0 25 (some b86)) fun m90 =>
  bd (szm m90) fun b91 =>
  bd (upK K87 b91 (.inr (1, 12040))) fun K92 =>
  bd (bump m90) fun m93 =>
  bd (sR m93 a0 30 (some b91)) fun m95 =>
  bd (szm m95) fun b96 =>
  bd (upK K92 b96 (.inr (1, 12040))) fun K97 =>
  bd (bump m95) fun m98 =>
  bd (sR m98 a0 31 (some b96)) fun m100 =>
  bd (szm m100) fun b101 =>
  bd (upK K97 b101 (.inr (0, 12040))) fun K102 =>
  bd (bump m100) fun m103 =>
  bd (sR m103 a0 32 (some b101)) fun m105 =>
  bd (szm m105) fun b106 =>
  bd (upK K102 b106 (.inr (1, 12040))) fun K107 =>
  bd (bump m105) fun m108 =>
  bd (sR m108 a0 38 (some b106)) fun m110 =>
  bd (szm m110) fun b111 =>
  bd (upK K107 b111 (.inr (1, 12040))) fun K112 =>
  bd (bump m110) fun m113 =>
  bd (sR m113 a0 39 (some b111)) fun m115 =>
  some (K112, m115)

def F_X9_init (K : Kn) (m : Mem) (a0 : Nat) : Option (Kn × Mem) := f_X9_init K a0 m

def f_X9_in_17 (x0 : Int64) (x2 : Int64) (x4 : Int64) : Option Int32 :=
  some (0 : Int32)

def f_X9_in (x0 : Int64) (x2 : Int64) (x4 : Int64) : Option Int32 :=
  if (lg_cmp x0 x2) < 0 then
    f_X9_in_17 x0 x2 x4
  else
    if 0 < (lg_cmp x0 x4) then
      f_X9_in_17 x0 x2 x4
    else
      some (1 : Int32)

def F_X9_in (x0 : Int64) (x2 : Int64) (x4 : Int64) : Option Int32 := f_X9_in x0 x2 x4

def f_X9_clears (K : Kn) (a0 : Nat) (x1 : Int32) (x2 : Int32) (m : Mem) : Option Mem :=
  (ldA K m a0 0 0).bind fun b1 =>
  (asI K m b1 x1 x2).bind fun m2 =>
  (ldA K m2 a0 1 0).bind fun b3 =>
  (asI K m2 b3 x1 (-1 : Int32)).bind fun m4 =>
  (ldA K m4 a0 2 0).bind fun b5 =>
  (asI K m4 b5 x1 (0 : Int32)).bind fun m6 =>
  (ldA K m6 a0 9 0).bind fun b7 =>
  (asI K m6 b7 x1 (0 : Int32)).bind fun m8 =>
  some m8

def F_X9_clears (K : Kn) (m : Mem) (a0 : Nat) (x1 : Int32) (x2 : Int32) : Option Mem := f_X9_clears K a0 x1 x2 m

def f_X9_begins (K : Kn) (a0 : Nat) (x1 : Int32) (x2 : Int32) (m : Mem) : Option (Int32 × Mem) :=
  (F_X9_in ((x1).toInt64) (0 : Int64) (3 : Int64)).bind fun q1 =>
  if q1 = 0 then
    some ((-2 : Int32), m)
  else
    (F_X9_in ((x2).toInt64) (24 : Int64) (200 : Int64)).bind fun q3 =>
    if q3 = 0 then
      some ((-2 : Int32), m)
    else
      (F_X9_clears K m a0 x1 x2).bind fun q5 =>
      some ((0 : Int32), q5)

def F_X9_begins (K : Kn) (m : Mem) (a0 : Nat) (x1 : Int32) (x2 : Int32) : Option (Int32 × Mem) := f_X9_begins K a0 x1 x2 m

def f_X9_isSeries_25 (K : Kn) (m : Mem) (a0 : Nat) (x1 : Int32) : Option Int32 :=
  some (0 : Int32)

def f_X9_isSeries (K : Kn) (m : Mem) (a0 : Nat) (x1 : Int32) : Option Int32 :=
  (F_X9_in ((x1).toInt64) (0 : Int64) (3 : Int64)).bind fun q1 =>
  if q1 = 0 then
    f_X9_isSeries_25 K m a0 x1
  else
    (ldA K m a0 0 0).bind fun b3 =>
    (alI K m b3 x1).bind fun r4 =>
    if r4 ≤ 0 then
      f_X9_isSeries_25 K m a0 x1
    else
      some (1 : Int32)

def F_X9_isSeries (K : Kn) (m : Mem) (a0 : Nat) (x1 : Int32) : Option Int32 := f_X9_isSeries K m a0 x1

def f_X9_isStamp (x0 : Int32) : Option Int32 :=
  (F_X9_in ((x0).toInt64) (0 : Int64) (2000000000 : Int64)).bind fun q1 =>
  gd (q1 = 0 ∨ q1 = 1) <|
  some q1

def F_X9_isStamp (x0 : Int32) : Option Int32 := f_X9_isStamp x0

def f_X9_isAbove_20 (K : Kn) (m : Mem) (a0 : Nat) (x1 : Int32) (x2 : Int32) : Option Int32 :=
  some (1 : Int32)

def f_X9_isAbove (K : Kn) (m : Mem) (a0 : Nat) (x1 : Int32) (x2 : Int32) : Option Int32 :=
  (ldA K m a0 1 0).bind fun b1 =>
  (alI K m b1 x1).bind fun r2 =>
  if r2 = (-1 : Int32) then
    f_X9_isAbove_20 K m a0 x1 x2
  else
    (ldA K m a0 1 0).bind fun b4 =>
    (alI K m b4 x1).bind fun r5 =>
    if x2 ≤ r5 then
      some (0 : Int32)
    else
      f_X9_isAbove_20 K m a0 x1 x2

def F_X9_isAbove (K : Kn) (m : Mem) (a0 : Nat) (x1 : Int32) (x2 : Int32) : Option Int32 := f_X9_isAbove K m a0 x1 x2

def f_X9_faults (K : Kn) (a0 : Nat) (x1 : Int32) (x2 : Int32) (m : Mem) : Option Mem :=
  bd (sI m a0 27 x1) fun m1 =>
  bd (sI m1 a0 28 x2) fun m2 =>
  some m2

def F_X9_faults (K : Kn) (m : Mem) (a0 : Nat) (x1 : Int32) (x2 : Int32) : Option Mem := f_X9_faults K a0 x1 x2 m

def f_X9_byteAt (K : Kn) (m : Mem) (a0 : Nat) (x1 : Int32) (x2 : Int32) : Option Int32 :=
  (ldA K m a0 3 0).bind fun b1 =>
  (alI K m b1 (((200 : Int32) * x1) + x2)).bind fun r2 =>
  some r2

def F_X9_byteAt (K : Kn) (m : Mem) (a0 : Nat) (x1 : Int32) (x2 : Int32) : Option Int32 := f_X9_byteAt K m a0 x1 x2

def f_X9_checkOf_6B (K : Kn) (m : Mem) (a0 : Nat) (x1 : Int32) (x2 : Int32) (k6 : Int32 → Int32 → Option Int32) (x3 : Int32) (x4 : Int32) : Option Int32 :=
  if x2 ≤ x4 then
    some x3
  else
    (F_X9_byteAt K m a0 x1 x4).bind fun q2 =>
    bd ((((31 : Int32) * x3) + q2) - (((31 : Int32) * x3) + q2) / (251 : Int32) * (251 : Int32)) fun z3 =>
    bd (x4 + (1 : Int32)) fun z4 =>
    k6 z3 z4

def f_X9_checkOf_6 (K : Kn) (m : Mem) (a0 : Nat) (x1 : Int32) (x2 : Int32) (n : Nat) : Int32 → Int32 → Option Int32 := lpM (fun _ _ => none) (f_X9_checkOf_6B K m a0 x1 x2) n

def f_X9_checkOf (K : Kn) (m : Mem) (a0 : Nat) (x1 : Int32) (x2 : Int32) : Option Int32 :=
  f_X9_checkOf_6 K m a0 x1 x2 FU (7 : Int32) (0 : Int32)

def F_X9_checkOf (K : Kn) (m : Mem) (a0 : Nat) (x1 : Int32) (x2 : Int32) : Option Int32 := f_X9_checkOf K m a0 x1 x2

def f_X9_headStamp_5B (K : Kn) (m : Mem) (a0 : Nat) (x1 : Int32) (k5 : Int64 → Int32 → Option Int64) (x2 : Int64) (x4 : Int32) : Option Int64 :=
  if (4 : Int32) ≤ x4 then
    some x2
  else
    (F_X9_byteAt K m a0 x1 x4).bind fun q2 =>
    bd ((lshl x2 (8 : Int32)) ||| ((q2).toInt64)) fun z3 =>
    bd (x4 + (1 : Int32)) fun z4 =>
    k5 z3 z4

def f_X9_headStamp_5 (K : Kn) (m : Mem) (a0 : Nat) (x1 : Int32) (n : Nat) : Int64 → Int32 → Option Int64 := lpM (fun _ _ => none) (f_X9_headStamp_5B K m a0 x1) n

def f_X9_headStamp (K : Kn) (m : Mem) (a0 : Nat) (x1 : Int32) : Option Int64 :=
  f_X9_headStamp_5 K m a0 x1 FU (0 : Int64) (0 : Int32)

def F_X9_headStamp (K : Kn) (m : Mem) (a0 : Nat) (x1 : Int32) : Option Int64 := f_X9_headStamp K m a0 x1

def f_X9_headBits_5B (K : Kn) (m : Mem) (a0 : Nat) (x1 : Int32) (k5 : Int64 → Int32 → Option Int64) (x2 : Int64) (x4 : Int32) : Option Int64 :=
  if (12 : Int32) ≤ x4 then
    some x2
  else
    (F_X9_byteAt K m a0 x1 x4).bind fun q2 =>
    bd ((lshl x2 (8 : Int32)) ||| ((q2).toInt64)) fun z3 =>
    bd (x4 + (1 : Int32)) fun z4 =>
    k5 z3 z4

def f_X9_headBits_5 (K : Kn) (m : Mem) (a0 : Nat) (x1 : Int32) (n : Nat) : Int64 → Int32 → Option Int64 := lpM (fun _ _ => none) (f_X9_headBits_5B K m a0 x1) n

def f_X9_headBits (K : Kn) (m : Mem) (a0 : Nat) (x1 : Int32) : Option Int64 :=
  f_X9_headBits_5 K m a0 x1 FU (0 : Int64) (4 : Int32)

def F_X9_headBits (K : Kn) (m : Mem) (a0 : Nat) (x1 : Int32) : Option Int64 := f_X9_headBits K m a0 x1

def f_X9_heads (K : Kn) (a0 : Nat) (x1 : Int64) (x3 : Int64) (m : Mem) : Option Mem :=
  bd (sJ m a0 14 x1) fun m1 =>
  bd (sJ m1 a0 15 (0 : Int64)) fun m2 =>
  bd (sJ m2 a0 16 x3) fun m3 =>
  bd (sI m3 a0 19 (0 : Int32)) fun m4 =>
  bd (sI m4 a0 17 (0 : Int32)) fun m5 =>
  bd (sI m5 a0 18 (0 : Int32)) fun m6 =>
  bd (sI m6 a0 20 (0 : Int32)) fun m7 =>
  some m7

def F_X9_heads (K : Kn) (m : Mem) (a0 : Nat) (x1 : Int64) (x3 : Int64) : Option Mem := f_X9_heads K a0 x1 x3 m

def f_X9_keepsOne (K : Kn) (a0 : Nat) (x1 : Int32) (m : Mem) : Option Mem :=
  (ldA K m a0 21 1).bind fun b1 =>
  (asJ K m b1 (gI m a0 26) (gJ m a0 14)).bind fun m2 =>
  (ldA K m2 a0 22 1).bind fun b3 =>
  (asJ K m2 b3 (gI m2 a0 26) (gJ m2 a0 16)).bind fun m4 =>
  (ldA K m4 a0 23 0).bind fun b5 =>
  (asI K m4 b5 (gI m4 a0 26) ((gI m4 a0 20) - x1)).bind fun m6 =>
  bd (sI m6 a0 26 ((gI m6 a0 26) + (1 : Int32))) fun m7 =>
  some m7

def F_X9_keepsOne (K : Kn) (m : Mem) (a0 : Nat) (x1 : Int32) : Option Mem := f_X9_keepsOne K a0 x1 m

def f_X9_bitAt (K : Kn) (m : Mem) (a0 : Nat) (x1 : Int32) (x2 : Int32) : Option Int32 :=
  (F_X9_byteAt K m a0 x1 ((14 : Int32) + (x2 / (8 : Int32)))).bind fun q1 =>
  some ((q1 >>> (((7 : Int32) - (x2 - x2 / (8 : Int32) * (8 : Int32))) &&& 31)) &&& (1 : Int32))

def F_X9_bitAt (K : Kn) (m : Mem) (a0 : Nat) (x1 : Int32) (x2 : Int32) : Option Int32 := f_X9_bitAt K m a0 x1 x2

def f_X9_gets_38 (K : Kn) (a0 : Nat) (x1 : Int32) (x2 : Int32) (k5 : Mem → Int64 → Int32 → Option (Int64 × Mem)) (m : Mem) (x5 : Int32) (s0 : Int64) (s1 : Int32) : Option (Int64 × Mem) :=
  bd (s0 ||| ((s1).toInt64)) fun z1 =>
  bd (sI m a0 20 ((gI m a0 20) + (1 : Int32))) fun m2 =>
  bd (x5 + (1 : Int32)) fun z3 =>
  k5 m2 z1 z3

def f_X9_gets_5B (K : Kn) (a0 : Nat) (x1 : Int32) (x2 : Int32) (k5 : Mem → Int64 → Int32 → Option (Int64 × Mem)) (m : Mem) (x3 : Int64) (x5 : Int32) : Option (Int64 × Mem) :=
  if x2 ≤ x5 then
    some (x3, m)
  else
    if (gI m a0 29) ≤ (gI m a0 20) then
      f_X9_gets_38 K a0 x1 x2 k5 m x5 (lshl x3 (1 : Int32)) (0 : Int32)
    else
      (F_X9_bitAt K m a0 x1 (gI m a0 20)).bind fun q3 =>
      f_X9_gets_38 K a0 x1 x2 k5 m x5 (lshl x3 (1 : Int32)) q3

def f_X9_gets_5 (K : Kn) (a0 : Nat) (x1 : Int32) (x2 : Int32) (n : Nat) : Mem → Int64 → Int32 → Option (Int64 × Mem) := lpM (fun _ _ _ => none) (f_X9_gets_5B K a0 x1 x2) n

def f_X9_gets (K : Kn) (a0 : Nat) (x1 : Int32) (x2 : Int32) (m : Mem) : Option (Int64 × Mem) :=
  f_X9_gets_5 K a0 x1 x2 FU m (0 : Int64) (0 : Int32)

def F_X9_gets (K : Kn) (m : Mem) (a0 : Nat) (x1 : Int32) (x2 : Int32) : Option (Int64 × Mem) := f_X9_gets K a0 x1 x2 m

def f_X9_wideOf (x0 : Int32) : Option Int32 :=
  if x0 = 0 then
    some (0 : Int32)
  else
    if x0 = (1 : Int32) then
      some (7 : Int32)
    else
      if x0 = (2 : Int32) then
        some (9 : Int32)
      else
        if x0 = (3 : Int32) then
          some (12 : Int32)
        else
          some (32 : Int32)

def F_X9_wideOf (x0 : Int32) : Option Int32 := f_X9_wideOf x0

def f_X9_signed_34 (x0 : Int64) (x2 : Int32) (s0 : Int64) : Option Int64 :=
  if (lg_cmp x0 s0) ≤ 0 then
    some x0
  else
    some (x0 - ((2 : Int64) * s0))

def f_X9_signed (x0 : Int64) (x2 : Int32) : Option Int64 :=
  if x2 = (4 : Int32) then
    some (((x0).toInt32).toInt64)
  else
    if x2 = (1 : Int32) then
      f_X9_signed_34 x0 x2 (64 : Int64)
    else
      if x2 = (2 : Int32) then
        f_X9_signed_34 x0 x2 (256 : Int64)
      else
        f_X9_signed_34 x0 x2 (2048 : Int64)

def F_X9_signed (x0 : Int64) (x2 : Int32) : Option Int64 := f_X9_signed x0 x2

def f_X9_classOf (x0 : Int64) : Option Int32 :=
  if (lg_cmp x0 (0 : Int64)) = 0 then
    some (0 : Int32)
  else
    (F_X9_in x0 (-63 : Int64) (64 : Int64)).bind fun q2 =>
    if q2 = 0 then
      (F_X9_in x0 (-255 : Int64) (256 : Int64)).bind fun q4 =>
      if q4 = 0 then
        (F_X9_in x0 (-2047 : Int64) (2048 : Int64)).bind fun q6 =>
        if q6 = 0 then
          some (4 : Int32)
        else
          some (3 : Int32)
      else
        some (2 : Int32)
    else
      some (1 : Int32)

def F_X9_classOf (x0 : Int64) : Option Int32 := f_X9_classOf x0

def f_X9_wayOf_73 (K : Kn) (m : Mem) (a0 : Nat) (x1 : Int64) (s0 : Int32) : Option Int32 :=
  if s0 = 0 then
    some (7 : Int32)
  else
    some (6 : Int32)

def f_X9_wayOf_72 (K : Kn) (m : Mem) (a0 : Nat) (x1 : Int64) : Option Int32 :=
  f_X9_wayOf_73 K m a0 x1 (0 : Int32)

def f_X9_wayOf (K : Kn) (m : Mem) (a0 : Nat) (x1 : Int64) : Option Int32 :=
  if (lg_cmp x1 (0 : Int64)) = 0 then
    some (5 : Int32)
  else
    (F_J13_numberOfLeadingZeros_95d88 x1).bind fun q2 =>
    (F_J13_numberOfTrailingZeros_95d88 x1).bind fun q3 =>
    if (gI m a0 19) = 0 then
      f_X9_wayOf_72 K m a0 x1
    else
      if q2 < (gI m a0 17) then
        f_X9_wayOf_72 K m a0 x1
      else
        if q3 < (gI m a0 18) then
          f_X9_wayOf_72 K m a0 x1
        else
          if ((((64 : Int32) - q2) - q3) + (11 : Int32)) < (((64 : Int32) - (gI m a0 17)) - (gI m a0 18)) then
            f_X9_wayOf_72 K m a0 x1
          else
            f_X9_wayOf_73 K m a0 x1 (1 : Int32)

def F_X9_wayOf (K : Kn) (m : Mem) (a0 : Nat) (x1 : Int64) : Option Int32 := f_X9_wayOf K m a0 x1

def f_X9_aheadOf (x0 : Int64) : Option Int32 :=
  (F_J13_numberOfLeadingZeros_95d88 x0).bind fun q1 =>
  (F_J9_min_7cf53 (31 : Int32) q1).bind fun q2 =>
  some q2

def F_X9_aheadOf (x0 : Int64) : Option Int32 := f_X9_aheadOf x0

def f_X9_readsOne_326 (K : Kn) (a0 : Nat) (x1 : Int32) (m : Mem) (x2 : Int32) (x6 : Int64) (x8 : Int32) (x11 : Int64) : Option (Int32 × Mem) :=
  bd (sJ m a0 15 (x11 - (gJ m a0 14))) fun m1 =>
  bd (sJ m1 a0 14 x11) fun m2 =>
  bd (sJ m2 a0 16 ((gJ m2 a0 16) ^^^ x6)) fun m3 =>
  (ldA K m3 a0 24 0).bind fun b4 =>
  (asI K m3 b4 (gI m3 a0 26) x2).bind fun m5 =>
  (ldA K m5 a0 25 0).bind fun b6 =>
  (asI K m5 b6 (gI m5 a0 26) x8).bind fun m7 =>
  some ((0 : Int32), m7)

def f_X9_readsOne_248 (K : Kn) (a0 : Nat) (x1 : Int32) (m : Mem) (x2 : Int32) (x3 : Int64) (x5 : Int32) (x6 : Int64) (x8 : Int32) (x9 : Int32) (x10 : Int32) : Option (Int32 × Mem) :=
  if (gI m a0 20) ≤ (gI m a0 29) then
    bd (((gJ m a0 14) + (gJ m a0 15)) + x3) fun z2 =>
    if (lg_cmp z2 (gJ m a0 14)) ≤ 0 then
      some ((3 : Int32), m)
    else
      if (lg_cmp z2 (2000000000 : Int64)) ≤ 0 then
        if x5 = 0 then
          some ((4 : Int32), m)
        else
          if x8 = (7 : Int32) then
            bd (sI m a0 19 (1 : Int32)) fun m7 =>
            bd (sI m7 a0 17 x9) fun m8 =>
            bd (sI m8 a0 18 x10) fun m9 =>
            f_X9_readsOne_326 K a0 x1 m9 x2 x6 x8 z2
          else
            f_X9_readsOne_326 K a0 x1 m x2 x6 x8 z2
      else
        some ((3 : Int32), m)
  else
    some ((2 : Int32), m)

def f_X9_readsOne_246 (K : Kn) (a0 : Nat) (x1 : Int32) (m : Mem) (x2 : Int32) (x3 : Int64) (x6 : Int64) (x8 : Int32) (x9 : Int32) (x10 : Int32) (s0 : Int32) : Option (Int32 × Mem) :=
  f_X9_readsOne_248 K a0 x1 m x2 x3 s0 x6 x8 x9 x10

def f_X9_readsOne_241 (K : Kn) (a0 : Nat) (x1 : Int32) (m : Mem) (x2 : Int32) (x3 : Int64) (x6 : Int64) (x8 : Int32) (x9 : Int32) (x10 : Int32) : Option (Int32 × Mem) :=
  f_X9_readsOne_246 K a0 x1 m x2 x3 x6 x8 x9 x10 (1 : Int32)

def f_X9_readsOne_245 (K : Kn) (a0 : Nat) (x1 : Int32) (m : Mem) (x2 : Int32) (x3 : Int64) (x6 : Int64) (x8 : Int32) (x9 : Int32) (x10 : Int32) : Option (Int32 × Mem) :=
  f_X9_readsOne_246 K a0 x1 m x2 x3 x6 x8 x9 x10 (0 : Int32)

def f_X9_readsOne_196 (K : Kn) (a0 : Nat) (x1 : Int32) (m : Mem) (x2 : Int32) (x3 : Int64) (x5 : Int32) (x8 : Int32) (x9 : Int32) (x10 : Int32) (s0 : Int64) : Option (Int32 × Mem) :=
  if x5 = 0 then
    f_X9_readsOne_245 K a0 x1 m x2 x3 s0 x8 x9 x10
  else
    (F_X9_wayOf K m a0 s0).bind fun q2 =>
    if q2 = x8 then
      if x8 = (6 : Int32) then
        f_X9_readsOne_241 K a0 x1 m x2 x3 s0 x8 x9 x10
      else
        (F_X9_aheadOf s0).bind fun q5 =>
        if x9 = q5 then
          (F_J13_numberOfTrailingZeros_95d88 s0).bind fun q7 =>
          if x10 = q7 then
            f_X9_readsOne_241 K a0 x1 m x2 x3 s0 x8 x9 x10
          else
            f_X9_readsOne_245 K a0 x1 m x2 x3 s0 x8 x9 x10
        else
          f_X9_readsOne_245 K a0 x1 m x2 x3 s0 x8 x9 x10
    else
      f_X9_readsOne_245 K a0 x1 m x2 x3 s0 x8 x9 x10

def f_X9_readsOne_182 (K : Kn) (a0 : Nat) (x1 : Int32) (m : Mem) (x2 : Int32) (x3 : Int64) (x5 : Int32) (x6 : Int64) (x8 : Int32) (x9 : Int32) (x10 : Int32) : Option (Int32 × Mem) :=
  if 0 ≤ x10 then
    f_X9_readsOne_196 K a0 x1 m x2 x3 x5 x8 x9 x10 (lshl x6 x10)
  else
    f_X9_readsOne_196 K a0 x1 m x2 x3 x5 x8 x9 x10 (0 : Int64)

def f_X9_readsOne_108 (K : Kn) (a0 : Nat) (x1 : Int32) (m : Mem) (x2 : Int32) (x3 : Int64) (x5 : Int32) (x6 : Int64) (x9 : Int32) (x10 : Int32) (s0 : Int32) : Option (Int32 × Mem) :=
  if s0 = (7 : Int32) then
    (F_X9_gets K m a0 x1 (5 : Int32)).bind fun q2 =>
    bd ((q2.1).toInt32) fun z3 =>
    (F_X9_gets K q2.2 a0 x1 (6 : Int32)).bind fun q4 =>
    bd (((q4.1).toInt32) + (1 : Int32)) fun z5 =>
    bd (((64 : Int32) - z3) - z5) fun z6 =>
    (F_X9_gets K q4.2 a0 x1 z5).bind fun q7 =>
    bd (q7.1) fun z8 =>
    f_X9_readsOne_182 K a0 x1 q7.2 x2 x3 x5 z8 s0 z3 z6
  else
    if (gI m a0 19) = 0 then
      f_X9_readsOne_182 K a0 x1 m x2 x3 x5 x6 s0 x9 x10
    else
      (F_X9_gets K m a0 x1 (((64 : Int32) - x9) - x10)).bind fun q10 =>
      bd (q10.1) fun z11 =>
      f_X9_readsOne_182 K a0 x1 q10.2 x2 x3 x5 z11 s0 x9 x10

def f_X9_readsOne_59 (K : Kn) (a0 : Nat) (x1 : Int32) (m : Mem) (x2 : Int32) (x3 : Int64) (s0 : Int32) : Option (Int32 × Mem) :=
  bd (gI m a0 17) fun z1 =>
  bd (gI m a0 18) fun z2 =>
  (F_X9_gets K m a0 x1 (1 : Int32)).bind fun q3 =>
  if (lg_cmp q3.1 (1 : Int64)) = 0 then
    (F_X9_gets K q3.2 a0 x1 (1 : Int32)).bind fun q5 =>
    if (lg_cmp q5.1 (0 : Int64)) = 0 then
      f_X9_readsOne_108 K a0 x1 q5.2 x2 x3 s0 (0 : Int64) z1 z2 (6 : Int32)
    else
      f_X9_readsOne_108 K a0 x1 q5.2 x2 x3 s0 (0 : Int64) z1 z2 (7 : Int32)
  else
    f_X9_readsOne_248 K a0 x1 q3.2 x2 x3 s0 (0 : Int64) (5 : Int32) z1 z2

def f_X9_readsOne_45 (K : Kn) (a0 : Nat) (x1 : Int32) (m : Mem) (x2 : Int32) (s0 : Int64) : Option (Int32 × Mem) :=
  (F_X9_classOf s0).bind fun q1 =>
  if q1 = x2 then
    f_X9_readsOne_59 K a0 x1 m x2 s0 (1 : Int32)
  else
    f_X9_readsOne_59 K a0 x1 m x2 s0 (0 : Int32)

def f_X9_readsOne_24 (K : Kn) (a0 : Nat) (x1 : Int32) (m : Mem) (x2 : Int32) : Option (Int32 × Mem) :=
  if x2 = 0 then
    f_X9_readsOne_45 K a0 x1 m x2 (0 : Int64)
  else
    (F_X9_wideOf x2).bind fun q2 =>
    (F_X9_gets K m a0 x1 q2).bind fun q3 =>
    (F_X9_signed q3.1 x2).bind fun q4 =>
    f_X9_readsOne_45 K a0 x1 q3.2 x2 q4

def f_X9_readsOne_2B (K : Kn) (a0 : Nat) (x1 : Int32) (k2 : Mem → Int32 → Option (Int32 × Mem)) (m : Mem) (x2 : Int32) : Option (Int32 × Mem) :=
  if (4 : Int32) ≤ x2 then
    f_X9_readsOne_24 K a0 x1 m x2
  else
    (F_X9_gets K m a0 x1 (1 : Int32)).bind fun q2 =>
    if (lg_cmp q2.1 (1 : Int64)) = 0 then
      bd (x2 + (1 : Int32)) fun z4 =>
      k2 q2.2 z4
    else
      f_X9_readsOne_24 K a0 x1 q2.2 x2

def f_X9_readsOne_2 (K : Kn) (a0 : Nat) (x1 : Int32) (n : Nat) : Mem → Int32 → Option (Int32 × Mem) := lpM (fun _ _ => none) (f_X9_readsOne_2B K a0 x1) n

def f_X9_readsOne (K : Kn) (a0 : Nat) (x1 : Int32) (m : Mem) : Option (Int32 × Mem) :=
  f_X9_readsOne_2 K a0 x1 FU m (0 : Int32)

def F_X9_readsOne (K : Kn) (m : Mem) (a0 : Nat) (x1 : Int32) : Option (Int32 × Mem) := f_X9_readsOne K a0 x1 m

def f_X9_readsAll_73 (K : Kn) (a0 : Nat) (x1 : Int32) (m : Mem) : Option Mem :=
  (F_X9_faults K m a0 (1 : Int32) (-1 : Int32)).bind fun q1 =>
  some q1

def f_X9_readsAll_168 (K : Kn) (a0 : Nat) (x1 : Int32) (m : Mem) (sa0 : Nat) (s1 : Int32) : Option Mem :=
  (F_X9_faults K m sa0 s1 (0 : Int32)).bind fun q1 =>
  some q1

def f_X9_readsAll_158 (K : Kn) (a0 : Nat) (x1 : Int32) (m : Mem) (x3 : Int32) : Option Mem :=
  if x3 = 0 then
    f_X9_readsAll_168 K a0 x1 m a0 (5 : Int32)
  else
    f_X9_readsAll_168 K a0 x1 m a0 (3 : Int32)

def f_X9_readsAll_293 (K : Kn) (a0 : Nat) (x1 : Int32) (k263 : Mem → Int32 → Int32 → Option Mem) (m : Mem) (x5 : Int32) (s0 : Int32) : Option Mem :=
  bd (x5 + (1 : Int32)) fun z1 =>
  k263 m s0 z1

def f_X9_readsAll_316 (K : Kn) (a0 : Nat) (x1 : Int32) (m : Mem) : Option Mem :=
  (ldA K m a0 5 0).bind fun b1 =>
  (asI K m b1 x1 (gI m a0 20)).bind fun m2 =>
  some m2

def f_X9_readsAll_301 (K : Kn) (a0 : Nat) (x1 : Int32) (m : Mem) (x4 : Int32) : Option Mem :=
  if x4 = 0 then
    f_X9_readsAll_316 K a0 x1 m
  else
    (F_X9_faults K m a0 (6 : Int32) (gI m a0 20)).bind fun q2 =>
    f_X9_readsAll_316 K a0 x1 q2

def f_X9_readsAll_263B (K : Kn) (a0 : Nat) (x1 : Int32) (k263 : Mem → Int32 → Int32 → Option Mem) (m : Mem) (x4 : Int32) (x5 : Int32) : Option Mem :=
  if (gI m a0 29) ≤ x5 then
    f_X9_readsAll_301 K a0 x1 m x4
  else
    if x4 = 0 then
      (F_X9_bitAt K m a0 x1 x5).bind fun q3 =>
      if q3 = (1 : Int32) then
        f_X9_readsAll_293 K a0 x1 k263 m x5 (1 : Int32)
      else
        f_X9_readsAll_293 K a0 x1 k263 m x5 (0 : Int32)
    else
      f_X9_readsAll_301 K a0 x1 m x4

def f_X9_readsAll_263 (K : Kn) (a0 : Nat) (x1 : Int32) (n : Nat) : Mem → Int32 → Int32 → Option Mem := lpM (fun _ _ _ => none) (f_X9_readsAll_263B K a0 x1) n

def f_X9_readsAll_255 (K : Kn) (a0 : Nat) (x1 : Int32) (m : Mem) (s0 : Int32) : Option Mem :=
  bd (gI m a0 20) fun z1 =>
  f_X9_readsAll_263 K a0 x1 FU m s0 z1

def f_X9_readsAll_192B (K : Kn) (a0 : Nat) (x1 : Int32) (k192 : Mem → Int32 → Option Mem) (m : Mem) (x3 : Int32) : Option Mem :=
  if x3 ≤ (gI m a0 26) then
    if ((gI m a0 29) - (gI m a0 20)) ≤ (7 : Int32) then
      f_X9_readsAll_255 K a0 x1 m (0 : Int32)
    else
      f_X9_readsAll_255 K a0 x1 m (1 : Int32)
  else
    bd (gI m a0 20) fun z3 =>
    (F_X9_readsOne K m a0 x1).bind fun q4 =>
    bd (q4.1) fun z5 =>
    if z5 ≤ 0 then
      (F_X9_keepsOne K q4.2 a0 z3).bind fun q7 =>
      k192 q7 x3
    else
      (F_X9_faults K q4.2 a0 z5 z3).bind fun q8 =>
      some q8

def f_X9_readsAll_192 (K : Kn) (a0 : Nat) (x1 : Int32) (n : Nat) : Mem → Int32 → Option Mem := lpM (fun _ _ => none) (f_X9_readsAll_192B K a0 x1) n

def f_X9_readsAll_106 (K : Kn) (a0 : Nat) (x1 : Int32) (m : Mem) (sa0 : Nat) (s1 : Int32) : Option Mem :=
  bd (sI m sa0 29 s1) fun m1 =>
  (F_X9_byteAt K m1 a0 x1 (12 : Int32)).bind fun q2 =>
  (F_X9_byteAt K m1 a0 x1 (13 : Int32)).bind fun q3 =>
  bd ((q2 * (256 : Int32)) + q3) fun z4 =>
  (F_X9_headStamp K m1 a0 x1).bind fun q5 =>
  (F_X9_headBits K m1 a0 x1).bind fun q6 =>
  (F_X9_heads K m1 a0 q5 q6).bind fun q7 =>
  if z4 = 0 then
    f_X9_readsAll_158 K a0 x1 q7 z4
  else
    if (lg_cmp (gJ q7 a0 14) (2000000000 : Int64)) ≤ 0 then
      (ldA K q7 a0 25 0).bind fun b10 =>
      (asI K q7 b10 (0 : Int32) (-1 : Int32)).bind fun m11 =>
      (ldA K m11 a0 24 0).bind fun b12 =>
      (asI K m11 b12 (0 : Int32) (-1 : Int32)).bind fun m13 =>
      (F_X9_keepsOne K m13 a0 (0 : Int32)).bind fun q14 =>
      f_X9_readsAll_192 K a0 x1 FU q14 z4
    else
      f_X9_readsAll_158 K a0 x1 q7 z4

def f_X9_readsAll_80 (K : Kn) (a0 : Nat) (x1 : Int32) (m : Mem) (x2 : Int32) : Option Mem :=
  (ldA K m a0 6 2).bind fun b1 =>
  (alI K m b1 x1).bind fun r2 =>
  if r2 = 0 then
    (ldA K m a0 5 0).bind fun b4 =>
    (alI K m b4 x1).bind fun r5 =>
    f_X9_readsAll_106 K a0 x1 m a0 r5
  else
    f_X9_readsAll_106 K a0 x1 m a0 ((8 : Int32) * (x2 - (14 : Int32)))

def f_X9_readsAll_37 (K : Kn) (a0 : Nat) (x1 : Int32) (m : Mem) (s0 : Int32) : Option Mem :=
  (ldA K m a0 6 2).bind fun b1 =>
  (alI K m b1 x1).bind fun r2 =>
  if r2 = 0 then
    f_X9_readsAll_80 K a0 x1 m s0
  else
    (ldA K m a0 4 0).bind fun b4 =>
    (alI K m b4 x1).bind fun r5 =>
    if r5 < (15 : Int32) then
      f_X9_readsAll_73 K a0 x1 m
    else
      (F_X9_byteAt K m a0 x1 s0).bind fun q7 =>
      (F_X9_checkOf K m a0 x1 s0).bind fun q8 =>
      if q7 = q8 then
        f_X9_readsAll_80 K a0 x1 m s0
      else
        f_X9_readsAll_73 K a0 x1 m

def f_X9_readsAll (K : Kn) (a0 : Nat) (x1 : Int32) (m : Mem) : Option Mem :=
  (F_X9_faults K m a0 (0 : Int32) (-1 : Int32)).bind fun q1 =>
  bd (sI q1 a0 26 (0 : Int32)) fun m2 =>
  (ldA K m2 a0 6 2).bind fun b3 =>
  (alI K m2 b3 x1).bind fun r4 =>
  if r4 = 0 then
    (ldA K m2 a0 4 0).bind fun b6 =>
    (alI K m2 b6 x1).bind fun r7 =>
    f_X9_readsAll_37 K a0 x1 m2 r7
  else
    (ldA K m2 a0 4 0).bind fun b8 =>
    (alI K m2 b8 x1).bind fun r9 =>
    f_X9_readsAll_37 K a0 x1 m2 (r9 - (1 : Int32))

def F_X9_readsAll (K : Kn) (m : Mem) (a0 : Nat) (x1 : Int32) : Option Mem := f_X9_readsAll K a0 x1 m

def f_X9_reads_53 (K : Kn) (a0 : Nat) (x1 : Int32) (m : Mem) : Option Mem :=
  (F_X9_faults K m a0 (7 : Int32) (0 : Int32)).bind fun q1 =>
  some q1

def f_X9_reads (K : Kn) (a0 : Nat) (x1 : Int32) (m : Mem) : Option Mem :=
  (F_X9_readsAll K m a0 x1).bind fun q1 =>
  if (gI q1 a0 27) = 0 then
    (ldA K q1 a0 6 2).bind fun b3 =>
    (alI K q1 b3 x1).bind fun r4 =>
    if r4 = 0 then
      some q1
    else
      (ldA K q1 a0 21 1).bind fun b6 =>
      (alJ K q1 b6 (0 : Int32)).bind fun r7 =>
      (ldA K q1 a0 7 0).bind fun b8 =>
      (alI K q1 b8 x1).bind fun r9 =>
      if (lg_cmp r7 ((r9).toInt64)) = 0 then
        (ldA K q1 a0 8 0).bind fun b11 =>
        (alI K q1 b11 x1).bind fun r12 =>
        if (lg_cmp (gJ q1 a0 14) ((r12).toInt64)) = 0 then
          some q1
        else
          f_X9_reads_53 K a0 x1 q1
      else
        f_X9_reads_53 K a0 x1 q1
  else
    some q1

def F_X9_reads (K : Kn) (m : Mem) (a0 : Nat) (x1 : Int32) : Option Mem := f_X9_reads K a0 x1 m

def f_X9_opens (K : Kn) (a0 : Nat) (x1 : Int32) (m : Mem) : Option Mem :=
  (ldA K m a0 2 0).bind fun b1 =>
  (alI K m b1 x1).bind fun r2 =>
  if r2 ≤ 0 then
    some m
  else
    (ldA K m a0 6 2).bind fun b4 =>
    (ldA K m a0 2 0).bind fun b5 =>
    (alI K m b5 x1).bind fun r6 =>
    (alI K m b4 ((((16 : Int32) * x1) + r6) - (1 : Int32))).bind fun r7 =>
    if r7 = 0 then
      (ldA K m a0 2 0).bind fun b9 =>
      (alI K m b9 x1).bind fun r10 =>
      (F_X9_reads K m a0 ((((16 : Int32) * x1) + r10) - (1 : Int32))).bind fun q11 =>
      some q11
    else
      some m

def F_X9_opens (K : Kn) (m : Mem) (a0 : Nat) (x1 : Int32) : Option Mem := f_X9_opens K a0 x1 m

def f_X9_signsOf (x0 : Int32) : Option Int32 :=
  if x0 = 0 then
    some (1 : Int32)
  else
    if x0 = (4 : Int32) then
      some (4 : Int32)
    else
      some (x0 + (1 : Int32))

def F_X9_signsOf (x0 : Int32) : Option Int32 := f_X9_signsOf x0

def f_X9_wideAnew (x0 : Int64) : Option Int32 :=
  (F_X9_aheadOf x0).bind fun q1 =>
  (F_J13_numberOfTrailingZeros_95d88 x0).bind fun q2 =>
  some (((64 : Int32) - q1) - q2)

def F_X9_wideAnew (x0 : Int64) : Option Int32 := f_X9_wideAnew x0

def f_X9_takesBits_83 (K : Kn) (m : Mem) (a0 : Nat) (x1 : Int64) (x3 : Int64) (s0 : Int32) (s1 : Int32) : Option Int32 :=
  some (s0 + s1)

def f_X9_takesBits (K : Kn) (m : Mem) (a0 : Nat) (x1 : Int64) (x3 : Int64) : Option Int32 :=
  (F_X9_classOf ((x1 - (gJ m a0 14)) - (gJ m a0 15))).bind fun q1 =>
  bd (x3 ^^^ (gJ m a0 16)) fun z2 =>
  (F_X9_wayOf K m a0 z2).bind fun q3 =>
  (F_X9_signsOf q1).bind fun q4 =>
  (F_X9_wideOf q1).bind fun q5 =>
  if q3 = (5 : Int32) then
    f_X9_takesBits_83 K m a0 x1 x3 (q4 + q5) (1 : Int32)
  else
    if q3 = (6 : Int32) then
      f_X9_takesBits_83 K m a0 x1 x3 (q4 + q5) (((66 : Int32) - (gI m a0 17)) - (gI m a0 18))
    else
      (F_X9_wideAnew z2).bind fun q8 =>
      f_X9_takesBits_83 K m a0 x1 x3 (q4 + q5) ((13 : Int32) + q8)

def F_X9_takesBits (K : Kn) (m : Mem) (a0 : Nat) (x1 : Int64) (x3 : Int64) : Option Int32 := f_X9_takesBits K m a0 x1 x3

def f_X9_puts_47 (K : Kn) (a0 : Nat) (x1 : Int32) (x2 : Int64) (x4 : Int32) (k6 : Mem → Int32 → Option Mem) (m : Mem) (x5 : Int32) (x6 : Int32) : Option Mem :=
  (ldA K m a0 3 0).bind fun b1 =>
  (alI K m b1 x6).bind fun r2 =>
  (asI K m b1 x6 (r2 ||| ((((lshr x2 x5) &&& (1 : Int64)).toInt32) <<< (((7 : Int32) - ((gI m a0 20) - (gI m a0 20) / (8 : Int32) * (8 : Int32))) &&& 31)))).bind fun m3 =>
  bd (sI m3 a0 20 ((gI m3 a0 20) + (1 : Int32))) fun m4 =>
  bd (x5 + (-1 : Int32)) fun z5 =>
  k6 m4 z5

def f_X9_puts_6B (K : Kn) (a0 : Nat) (x1 : Int32) (x2 : Int64) (x4 : Int32) (k6 : Mem → Int32 → Option Mem) (m : Mem) (x5 : Int32) : Option Mem :=
  if x5 < 0 then
    some m
  else
    bd ((((200 : Int32) * x1) + (14 : Int32)) + ((gI m a0 20) / (8 : Int32))) fun z2 =>
    if ((gI m a0 20) - (gI m a0 20) / (8 : Int32) * (8 : Int32)) = 0 then
      (ldA K m a0 3 0).bind fun b4 =>
      (asI K m b4 z2 (0 : Int32)).bind fun m5 =>
      f_X9_puts_47 K a0 x1 x2 x4 k6 m5 x5 z2
    else
      f_X9_puts_47 K a0 x1 x2 x4 k6 m x5 z2

def f_X9_puts_6 (K : Kn) (a0 : Nat) (x1 : Int32) (x2 : Int64) (x4 : Int32) (n : Nat) : Mem → Int32 → Option Mem := lpM (fun _ _ => none) (f_X9_puts_6B K a0 x1 x2 x4) n

def f_X9_puts (K : Kn) (a0 : Nat) (x1 : Int32) (x2 : Int64) (x4 : Int32) (m : Mem) : Option Mem :=
  bd (x4 - (1 : Int32)) fun z1 =>
  f_X9_puts_6 K a0 x1 x2 x4 FU m z1

def F_X9_puts (K : Kn) (m : Mem) (a0 : Nat) (x1 : Int32) (x2 : Int64) (x4 : Int32) : Option Mem := f_X9_puts K a0 x1 x2 x4 m

def f_X9_writes_241 (K : Kn) (a0 : Nat) (x1 : Int32) (x2 : Int64) (x4 : Int64) (m : Mem) : Option Mem :=
  bd (sJ m a0 15 (x2 - (gJ m a0 14))) fun m1 =>
  bd (sJ m1 a0 14 x2) fun m2 =>
  bd (sJ m2 a0 16 x4) fun m3 =>
  (F_X9_byteAt K m3 a0 x1 (12 : Int32)).bind fun q4 =>
  (F_X9_byteAt K m3 a0 x1 (13 : Int32)).bind fun q5 =>
  bd (((q4 * (256 : Int32)) + q5) + (1 : Int32)) fun z6 =>
  (ldA K m3 a0 3 0).bind fun b7 =>
  (asI K m3 b7 (((200 : Int32) * x1) + (12 : Int32)) (z6 / (256 : Int32))).bind fun m8 =>
  (ldA K m8 a0 3 0).bind fun b9 =>
  (asI K m8 b9 (((200 : Int32) * x1) + (13 : Int32)) (z6 - z6 / (256 : Int32) * (256 : Int32))).bind fun m10 =>
  (ldA K m10 a0 5 0).bind fun b11 =>
  (asI K m10 b11 x1 (gI m10 a0 20)).bind fun m12 =>
  (ldA K m12 a0 4 0).bind fun b13 =>
  (asI K m12 b13 x1 ((14 : Int32) + (((gI m12 a0 20) + (7 : Int32)) / (8 : Int32)))).bind fun m14 =>
  some m14

def f_X9_writes_70 (K : Kn) (a0 : Nat) (x1 : Int32) (x2 : Int64) (x4 : Int64) (m : Mem) (x6 : Int64) (x8 : Int32) (sa0 : Nat) (s1 : Int32) (s2 : Int64) : Option Mem :=
  (F_X9_signsOf x8).bind fun q1 =>
  (F_X9_puts K m sa0 s1 s2 q1).bind fun q2 =>
  (F_X9_wideOf x8).bind fun q3 =>
  (F_X9_puts K q2 a0 x1 x6 q3).bind fun q4 =>
  bd (x4 ^^^ (gJ q4 a0 16)) fun z5 =>
  (F_X9_wayOf K q4 a0 z5).bind fun q6 =>
  if q6 = (5 : Int32) then
    (F_X9_puts K q4 a0 x1 (0 : Int64) (1 : Int32)).bind fun q8 =>
    f_X9_writes_241 K a0 x1 x2 x4 q8
  else
    if q6 = (6 : Int32) then
      (F_X9_puts K q4 a0 x1 (2 : Int64) (2 : Int32)).bind fun q10 =>
      (F_X9_puts K q10 a0 x1 (lushr z5 (gI q10 a0 18)) (((64 : Int32) - (gI q10 a0 17)) - (gI q10 a0 18))).bind fun q11 =>
      f_X9_writes_241 K a0 x1 x2 x4 q11
    else
      (F_X9_puts K q4 a0 x1 (3 : Int64) (2 : Int32)).bind fun q12 =>
      (F_X9_aheadOf z5).bind fun q13 =>
      bd (sI q12 a0 17 q13) fun m14 =>
      (F_J13_numberOfTrailingZeros_95d88 z5).bind fun q15 =>
      bd (sI m14 a0 18 q15) fun m16 =>
      bd (sI m16 a0 19 (1 : Int32)) fun m17 =>
      (F_X9_puts K m17 a0 x1 ((gI m17 a0 17).toInt64) (5 : Int32)).bind fun q18 =>
      (F_X9_wideAnew z5).bind fun q19 =>
      (F_X9_puts K q18 a0 x1 ((q19 - (1 : Int32)).toInt64) (6 : Int32)).bind fun q20 =>
      (F_X9_wideAnew z5).bind fun q21 =>
      (F_X9_puts K q20 a0 x1 (lushr z5 (gI q20 a0 18)) q21).bind fun q22 =>
      f_X9_writes_241 K a0 x1 x2 x4 q22

def f_X9_writes (K : Kn) (a0 : Nat) (x1 : Int32) (x2 : Int64) (x4 : Int64) (m : Mem) : Option Mem :=
  bd ((x2 - (gJ m a0 14)) - (gJ m a0 15)) fun z1 =>
  (F_X9_classOf z1).bind fun q2 =>
  if q2 = 0 then
    f_X9_writes_70 K a0 x1 x2 x4 m z1 q2 a0 x1 (0 : Int64)
  else
    if q2 = (1 : Int32) then
      f_X9_writes_70 K a0 x1 x2 x4 m z1 q2 a0 x1 (2 : Int64)
    else
      if q2 = (2 : Int32) then
        f_X9_writes_70 K a0 x1 x2 x4 m z1 q2 a0 x1 (6 : Int64)
      else
        if q2 = (3 : Int32) then
          f_X9_writes_70 K a0 x1 x2 x4 m z1 q2 a0 x1 (14 : Int64)
        else
          f_X9_writes_70 K a0 x1 x2 x4 m z1 q2 a0 x1 (15 : Int64)

def F_X9_writes (K : Kn) (m : Mem) (a0 : Nat) (x1 : Int32) (x2 : Int64) (x4 : Int64) : Option Mem := f_X9_writes K a0 x1 x2 x4 m

def f_X9_seals0 (K : Kn) (a0 : Nat) (x1 : Int32) (m : Mem) : Option Mem :=
  (ldA K m a0 7 0).bind fun b1 =>
  (F_X9_headStamp K m a0 x1).bind fun q2 =>
  (asI K m b1 x1 ((q2).toInt32)).bind fun m3 =>
  (ldA K m3 a0 8 0).bind fun b4 =>
  (asI K m3 b4 x1 ((gJ m3 a0 14).toInt32)).bind fun m5 =>
  (ldA K m5 a0 3 0).bind fun b6 =>
  (ldA K m5 a0 4 0).bind fun b7 =>
  (alI K m5 b7 x1).bind fun r8 =>
  (ldA K m5 a0 4 0).bind fun b9 =>
  (alI K m5 b9 x1).bind fun r10 =>
  (F_X9_checkOf K m5 a0 x1 r10).bind fun q11 =>
  (asI K m5 b6 (((200 : Int32) * x1) + r8) q11).bind fun m12 =>
  (ldA K m12 a0 4 0).bind fun b13 =>
  (alI K m12 b13 x1).bind fun r14 =>
  (asI K m12 b13 x1 (r14 + (1 : Int32))).bind fun m15 =>
  (ldA K m15 a0 6 2).bind fun b16 =>
  (asZ K m15 b16 x1 (1 : Int32)).bind fun m17 =>
  some m17

def F_X9_seals0 (K : Kn) (m : Mem) (a0 : Nat) (x1 : Int32) : Option Mem := f_X9_seals0 K a0 x1 m

def f_X9_writesHead_46B (K : Kn) (a0 : Nat) (x1 : Int32) (x2 : Int64) (x4 : Int64) (k46 : Mem → Int32 → Option Mem) (m : Mem) (x6 : Int32) : Option Mem :=
  if (8 : Int32) ≤ x6 then
    (ldA K m a0 3 0).bind fun b2 =>
    (asI K m b2 (((200 : Int32) * x1) + (12 : Int32)) (0 : Int32)).bind fun m3 =>
    (ldA K m3 a0 3 0).bind fun b4 =>
    (asI K m3 b4 (((200 : Int32) * x1) + (13 : Int32)) (1 : Int32)).bind fun m5 =>
    (ldA K m5 a0 5 0).bind fun b6 =>
    (asI K m5 b6 x1 (0 : Int32)).bind fun m7 =>
    (ldA K m7 a0 4 0).bind fun b8 =>
    (asI K m7 b8 x1 (14 : Int32)).bind fun m9 =>
    (ldA K m9 a0 6 2).bind fun b10 =>
    (asZ K m9 b10 x1 (0 : Int32)).bind fun m11 =>
    (F_X9_heads K m11 a0 x2 x4).bind fun q12 =>
    some q12
  else
    (ldA K m a0 3 0).bind fun b13 =>
    (asI K m b13 ((((200 : Int32) * x1) + (4 : Int32)) + x6) (((lshr x4 ((56 : Int32) - ((8 : Int32) * x6))) &&& (255 : Int64)).toInt32)).bind fun m14 =>
    bd (x6 + (1 : Int32)) fun z15 =>
    k46 m14 z15

def f_X9_writesHead_46 (K : Kn) (a0 : Nat) (x1 : Int32) (x2 : Int64) (x4 : Int64) (n : Nat) : Mem → Int32 → Option Mem := lpM (fun _ _ => none) (f_X9_writesHead_46B K a0 x1 x2 x4) n

def f_X9_writesHead_3B (K : Kn) (a0 : Nat) (x1 : Int32) (x2 : Int64) (x4 : Int64) (k3 : Mem → Int32 → Option Mem) (m : Mem) (x6 : Int32) : Option Mem :=
  if (4 : Int32) ≤ x6 then
    f_X9_writesHead_46 K a0 x1 x2 x4 FU m (0 : Int32)
  else
    (ldA K m a0 3 0).bind fun b2 =>
    (asI K m b2 (((200 : Int32) * x1) + x6) (((lshr x2 ((24 : Int32) - ((8 : Int32) * x6))) &&& (255 : Int64)).toInt32)).bind fun m3 =>
    bd (x6 + (1 : Int32)) fun z4 =>
    k3 m3 z4

def f_X9_writesHead_3 (K : Kn) (a0 : Nat) (x1 : Int32) (x2 : Int64) (x4 : Int64) (n : Nat) : Mem → Int32 → Option Mem := lpM (fun _ _ => none) (f_X9_writesHead_3B K a0 x1 x2 x4) n

def f_X9_writesHead (K : Kn) (a0 : Nat) (x1 : Int32) (x2 : Int64) (x4 : Int64) (m : Mem) : Option Mem :=
  f_X9_writesHead_3 K a0 x1 x2 x4 FU m (0 : Int32)

def F_X9_writesHead (K : Kn) (m : Mem) (a0 : Nat) (x1 : Int32) (x2 : Int64) (x4 : Int64) : Option Mem := f_X9_writesHead K a0 x1 x2 x4 m

def f_X9_comes_113 (K : Kn) (a0 : Nat) (x1 : Int32) (x2 : Int64) (x4 : Int64) (m : Mem) : Option (Int32 × Mem) :=
  (ldA K m a0 2 0).bind fun b1 =>
  (alI K m b1 x1).bind fun r2 =>
  (asI K m b1 x1 (r2 + (1 : Int32))).bind fun m3 =>
  (ldA K m3 a0 2 0).bind fun b4 =>
  (alI K m3 b4 x1).bind fun r5 =>
  (F_X9_writesHead K m3 a0 ((((16 : Int32) * x1) + r5) - (1 : Int32)) x2 x4).bind fun q6 =>
  some ((1 : Int32), q6)

def f_X9_comes_89 (K : Kn) (a0 : Nat) (x1 : Int32) (x2 : Int64) (x4 : Int64) (m : Mem) (x6 : Int32) (x7 : Int32) : Option (Int32 × Mem) :=
  (ldA K m a0 2 0).bind fun b1 =>
  (alI K m b1 x1).bind fun r2 =>
  if r2 = (16 : Int32) then
    some ((0 : Int32), m)
  else
    if x7 = 0 then
      f_X9_comes_113 K a0 x1 x2 x4 m
    else
      (F_X9_seals0 K m a0 x6).bind fun q5 =>
      f_X9_comes_113 K a0 x1 x2 x4 q5

def f_X9_comes_39 (K : Kn) (a0 : Nat) (x1 : Int32) (x2 : Int64) (x4 : Int64) (m : Mem) (x6 : Int32) (s0 : Int32) : Option (Int32 × Mem) :=
  if s0 = 0 then
    f_X9_comes_89 K a0 x1 x2 x4 m x6 s0
  else
    (F_X9_takesBits K m a0 x2 x4).bind fun q2 =>
    (ldA K m a0 0 0).bind fun b3 =>
    (alI K m b3 x1).bind fun r4 =>
    if r4 < (((14 : Int32) + ((((gI m a0 20) + q2) + (7 : Int32)) / (8 : Int32))) + (1 : Int32)) then
      f_X9_comes_89 K a0 x1 x2 x4 m x6 s0
    else
      (F_X9_writes K m a0 x6 x2 x4).bind fun q6 =>
      some ((1 : Int32), q6)

def f_X9_comes_38 (K : Kn) (a0 : Nat) (x1 : Int32) (x2 : Int64) (x4 : Int64) (m : Mem) (x6 : Int32) : Option (Int32 × Mem) :=
  f_X9_comes_39 K a0 x1 x2 x4 m x6 (0 : Int32)

def f_X9_comes (K : Kn) (a0 : Nat) (x1 : Int32) (x2 : Int64) (x4 : Int64) (m : Mem) : Option (Int32 × Mem) :=
  (ldA K m a0 2 0).bind fun b1 =>
  (alI K m b1 x1).bind fun r2 =>
  bd ((((16 : Int32) * x1) + r2) - (1 : Int32)) fun z3 =>
  (ldA K m a0 2 0).bind fun b4 =>
  (alI K m b4 x1).bind fun r5 =>
  if r5 ≤ 0 then
    f_X9_comes_38 K a0 x1 x2 x4 m z3
  else
    (ldA K m a0 6 2).bind fun b7 =>
    (alI K m b7 z3).bind fun r8 =>
    if r8 = 0 then
      f_X9_comes_39 K a0 x1 x2 x4 m z3 (1 : Int32)
    else
      f_X9_comes_38 K a0 x1 x2 x4 m z3

def F_X9_comes (K : Kn) (m : Mem) (a0 : Nat) (x1 : Int32) (x2 : Int64) (x4 : Int64) : Option (Int32 × Mem) := f_X9_comes K a0 x1 x2 x4 m

def f_X9_add (K : Kn) (a0 : Nat) (x1 : Int32) (x2 : Int32) (x3 : Int64) (m : Mem) : Option (Int32 × Mem) :=
  (F_X9_isSeries K m a0 x1).bind fun q1 =>
  if q1 = 0 then
    some ((-2 : Int32), m)
  else
    (F_X9_isStamp x2).bind fun q3 =>
    if q3 = 0 then
      some ((-2 : Int32), m)
    else
      (F_X9_isAbove K m a0 x1 x2).bind fun q5 =>
      if q5 = 0 then
        some ((-5 : Int32), m)
      else
        (F_X9_opens K m a0 x1).bind fun q7 =>
        (F_X9_comes K q7 a0 x1 ((x2).toInt64) x3).bind fun q8 =>
        if q8.1 = 0 then
          some ((-4 : Int32), q8.2)
        else
          (ldA K q8.2 a0 1 0).bind fun b10 =>
          (asI K q8.2 b10 x1 x2).bind fun m11 =>
          (ldA K m11 a0 2 0).bind fun b12 =>
          (alI K m11 b12 x1).bind fun r13 =>
          some (r13 - (1 : Int32), m11)

def F_X9_add (K : Kn) (m : Mem) (a0 : Nat) (x1 : Int32) (x2 : Int32) (x3 : Int64) : Option (Int32 × Mem) := f_X9_add K a0 x1 x2 x3 m

def f_X9_late_77 (K : Kn) (a0 : Nat) (x1 : Int32) (x2 : Int32) (x3 : Int64) (m : Mem) (x5 : Int32) : Option (Int32 × Mem) :=
  if x5 = (20 : Int32) then
    some ((-4 : Int32), m)
  else
    (ldA K m a0 10 0).bind fun b2 =>
    (asI K m b2 (((20 : Int32) * x1) + x5) x2).bind fun m3 =>
    (ldA K m3 a0 11 1).bind fun b4 =>
    (asJ K m3 b4 (((20 : Int32) * x1) + x5) x3).bind fun m5 =>
    (ldA K m5 a0 9 0).bind fun b6 =>
    (ldA K m5 a0 9 0).bind fun b7 =>
    (alI K m5 b7 x1).bind fun r8 =>
    (F_J9_max_7cf53 r8 (x5 + (1 : Int32))).bind fun q9 =>
    (asI K m5 b6 x1 q9).bind fun m10 =>
    (ldA K m10 a0 9 0).bind fun b11 =>
    (alI K m10 b11 x1).bind fun r12 =>
    some (r12, m10)

def f_X9_late_44B (K : Kn) (a0 : Nat) (x1 : Int32) (x2 : Int32) (x3 : Int64) (k44 : Mem → Int32 → Option (Int32 × Mem)) (m : Mem) (x5 : Int32) : Option (Int32 × Mem) :=
  (ldA K m a0 9 0).bind fun b1 =>
  (alI K m b1 x1).bind fun r2 =>
  if r2 ≤ x5 then
    f_X9_late_77 K a0 x1 x2 x3 m x5
  else
    (ldA K m a0 10 0).bind fun b4 =>
    (alI K m b4 (((20 : Int32) * x1) + x5)).bind fun r5 =>
    if r5 = x2 then
      f_X9_late_77 K a0 x1 x2 x3 m x5
    else
      bd (x5 + (1 : Int32)) fun z7 =>
      k44 m z7

def f_X9_late_44 (K : Kn) (a0 : Nat) (x1 : Int32) (x2 : Int32) (x3 : Int64) (n : Nat) : Mem → Int32 → Option (Int32 × Mem) := lpM (fun _ _ => none) (f_X9_late_44B K a0 x1 x2 x3) n

def f_X9_late (K : Kn) (a0 : Nat) (x1 : Int32) (x2 : Int32) (x3 : Int64) (m : Mem) : Option (Int32 × Mem) :=
  (F_X9_isSeries K m a0 x1).bind fun q1 =>
  if q1 = 0 then
    some ((-2 : Int32), m)
  else
    (F_X9_isStamp x2).bind fun q3 =>
    if q3 = 0 then
      some ((-2 : Int32), m)
    else
      (ldA K m a0 1 0).bind fun b5 =>
      (alI K m b5 x1).bind fun r6 =>
      if r6 = (-1 : Int32) then
        some ((-5 : Int32), m)
      else
        (ldA K m a0 1 0).bind fun b8 =>
        (alI K m b8 x1).bind fun r9 =>
        if x2 ≤ r9 then
          f_X9_late_44 K a0 x1 x2 x3 FU m (0 : Int32)
        else
          some ((-5 : Int32), m)

def F_X9_late (K : Kn) (m : Mem) (a0 : Nat) (x1 : Int32) (x2 : Int32) (x3 : Int64) : Option (Int32 × Mem) := f_X9_late K a0 x1 x2 x3 m

def f_X9_would_127 (K : Kn) (a0 : Nat) (x1 : Int32) (x2 : Int32) (x3 : Int64) (m : Mem) : Option (Int32 × Mem) :=
  some ((0 : Int32), m)

def f_X9_would_88 (K : Kn) (a0 : Nat) (x1 : Int32) (x2 : Int32) (x3 : Int64) (m : Mem) (x5 : Int32) (s0 : Int32) : Option (Int32 × Mem) :=
  if x5 = 0 then
    f_X9_would_127 K a0 x1 x2 x3 m
  else
    (ldA K m a0 0 0).bind fun b2 =>
    (alI K m b2 x1).bind fun r3 =>
    if r3 < (((14 : Int32) + ((((gI m a0 20) + s0) + (7 : Int32)) / (8 : Int32))) + (1 : Int32)) then
      f_X9_would_127 K a0 x1 x2 x3 m
    else
      some (s0, m)

def f_X9_would_70 (K : Kn) (a0 : Nat) (x1 : Int32) (x2 : Int32) (x3 : Int64) (m : Mem) (s0 : Int32) : Option (Int32 × Mem) :=
  if s0 = 0 then
    f_X9_would_88 K a0 x1 x2 x3 m s0 (0 : Int32)
  else
    (F_X9_takesBits K m a0 ((x2).toInt64) x3).bind fun q2 =>
    f_X9_would_88 K a0 x1 x2 x3 m s0 q2

def f_X9_would_69 (K : Kn) (a0 : Nat) (x1 : Int32) (x2 : Int32) (x3 : Int64) (m : Mem) : Option (Int32 × Mem) :=
  f_X9_would_70 K a0 x1 x2 x3 m (0 : Int32)

def f_X9_would (K : Kn) (a0 : Nat) (x1 : Int32) (x2 : Int32) (x3 : Int64) (m : Mem) : Option (Int32 × Mem) :=
  (F_X9_isSeries K m a0 x1).bind fun q1 =>
  if q1 = 0 then
    some ((-2 : Int32), m)
  else
    (F_X9_isStamp x2).bind fun q3 =>
    if q3 = 0 then
      some ((-2 : Int32), m)
    else
      (F_X9_isAbove K m a0 x1 x2).bind fun q5 =>
      if q5 = 0 then
        some ((-5 : Int32), m)
      else
        (F_X9_opens K m a0 x1).bind fun q7 =>
        (ldA K q7 a0 2 0).bind fun b8 =>
        (alI K q7 b8 x1).bind fun r9 =>
        if r9 ≤ 0 then
          f_X9_would_69 K a0 x1 x2 x3 q7
        else
          (ldA K q7 a0 6 2).bind fun b11 =>
          (ldA K q7 a0 2 0).bind fun b12 =>
          (alI K q7 b12 x1).bind fun r13 =>
          (alI K q7 b11 ((((16 : Int32) * x1) + r13) - (1 : Int32))).bind fun r14 =>
          if r14 = 0 then
            f_X9_would_70 K a0 x1 x2 x3 q7 (1 : Int32)
          else
            f_X9_would_69 K a0 x1 x2 x3 q7

def F_X9_would (K : Kn) (m : Mem) (a0 : Nat) (x1 : Int32) (x2 : Int32) (x3 : Int64) : Option (Int32 × Mem) := f_X9_would K a0 x1 x2 x3 m

def f_X9_isBroken (K : Kn) (a0 : Nat) (x1 : Int32) (m : Mem) : Option (Int32 × Mem) :=
  (F_X9_reads K m a0 x1).bind fun q1 =>
  if (gI q1 a0 27) ≤ 0 then
    some ((0 : Int32), q1)
  else
    some ((1 : Int32), q1)

def F_X9_isBroken (K : Kn) (m : Mem) (a0 : Nat) (x1 : Int32) : Option (Int32 × Mem) := f_X9_isBroken K a0 x1 m

def f_X9_hasBroken_2B (K : Kn) (a0 : Nat) (x1 : Int32) (k2 : Mem → Int32 → Option (Int32 × Mem)) (m : Mem) (x2 : Int32) : Option (Int32 × Mem) :=
  (ldA K m a0 2 0).bind fun b1 =>
  (alI K m b1 x1).bind fun r2 =>
  if r2 ≤ x2 then
    some ((0 : Int32), m)
  else
    (F_X9_isBroken K m a0 (((16 : Int32) * x1) + x2)).bind fun q4 =>
    if q4.1 = 0 then
      bd (x2 + (1 : Int32)) fun z6 =>
      k2 q4.2 z6
    else
      some ((1 : Int32), q4.2)

def f_X9_hasBroken_2 (K : Kn) (a0 : Nat) (x1 : Int32) (n : Nat) : Mem → Int32 → Option (Int32 × Mem) := lpM (fun _ _ => none) (f_X9_hasBroken_2B K a0 x1) n

def f_X9_hasBroken (K : Kn) (a0 : Nat) (x1 : Int32) (m : Mem) : Option (Int32 × Mem) :=
  f_X9_hasBroken_2 K a0 x1 FU m (0 : Int32)

def F_X9_hasBroken (K : Kn) (m : Mem) (a0 : Nat) (x1 : Int32) : Option (Int32 × Mem) := f_X9_hasBroken K a0 x1 m

def f_X9_firstNot_46 (K : Kn) (m : Mem) (a0 : Nat) (x1 : Int64) (k8 : Int32 → Int32 → Option Int32) (x3 : Int32) (x4 : Int32) : Option Int32 :=
  k8 x3 x4

def f_X9_firstNot_8B (K : Kn) (m : Mem) (a0 : Nat) (x1 : Int64) (k8 : Int32 → Int32 → Option Int32) (x3 : Int32) (x4 : Int32) : Option Int32 :=
  if x4 ≤ x3 then
    some x3
  else
    bd ((x3 + x4) / (2 : Int32)) fun z2 =>
    (ldA K m a0 30 1).bind fun b3 =>
    (alJ K m b3 z2).bind fun r4 =>
    if 0 ≤ (lg_cmp r4 x1) then
      f_X9_firstNot_46 K m a0 x1 k8 x3 z2
    else
      bd (z2 + (1 : Int32)) fun z6 =>
      f_X9_firstNot_46 K m a0 x1 k8 z6 x4

def f_X9_firstNot_8 (K : Kn) (m : Mem) (a0 : Nat) (x1 : Int64) (n : Nat) : Int32 → Int32 → Option Int32 := lpM (fun _ _ => none) (f_X9_firstNot_8B K m a0 x1) n

def f_X9_firstNot (K : Kn) (m : Mem) (a0 : Nat) (x1 : Int64) : Option Int32 :=
  bd (gI m a0 33) fun z1 =>
  f_X9_firstNot_8 K m a0 x1 FU (0 : Int32) z1

def F_X9_firstNot (K : Kn) (m : Mem) (a0 : Nat) (x1 : Int64) : Option Int32 := f_X9_firstNot K m a0 x1

def f_X9_gathers_99 (K : Kn) (a0 : Nat) (x1 : Int32) (k7 : Mem → Int32 → Option Mem) (m : Mem) (x2 : Int32) : Option Mem :=
  bd (x2 + (1 : Int32)) fun z1 =>
  k7 m z1

def f_X9_gathers_35B (K : Kn) (a0 : Nat) (x1 : Int32) (k7 : Mem → Int32 → Option Mem) (k35 : Mem → Int32 → Int32 → Option Mem) (m : Mem) (x2 : Int32) (x3 : Int32) : Option Mem :=
  if (gI m a0 26) ≤ x3 then
    f_X9_gathers_99 K a0 x1 k7 m x2
  else
    (ldA K m a0 30 1).bind fun b2 =>
    (ldA K m a0 21 1).bind fun b3 =>
    (alJ K m b3 x3).bind fun r4 =>
    (asJ K m b2 (gI m a0 33) r4).bind fun m5 =>
    (ldA K m5 a0 31 1).bind fun b6 =>
    (ldA K m5 a0 22 1).bind fun b7 =>
    (alJ K m5 b7 x3).bind fun r8 =>
    (asJ K m5 b6 (gI m5 a0 33) r8).bind fun m9 =>
    (ldA K m9 a0 32 0).bind fun b10 =>
    (asI K m9 b10 (gI m9 a0 33) x2).bind fun m11 =>
    bd (sI m11 a0 33 ((gI m11 a0 33) + (1 : Int32))) fun m12 =>
    bd (x3 + (1 : Int32)) fun z13 =>
    k35 m12 x2 z13

def f_X9_gathers_35 (K : Kn) (a0 : Nat) (x1 : Int32) (k7 : Mem → Int32 → Option Mem) (n : Nat) : Mem → Int32 → Int32 → Option Mem := lpM (fun _ _ _ => none) (fun k => f_X9_gathers_35B K a0 x1 k7 k) n

def f_X9_gathers_238 (K : Kn) (a0 : Nat) (x1 : Int32) (k110 : Mem → Int32 → Option Mem) (m : Mem) (x2 : Int32) (x3 : Int32) : Option Mem :=
  (ldA K m a0 30 1).bind fun b1 =>
  (ldA K m a0 10 0).bind fun b2 =>
  (alI K m b2 x2).bind fun r3 =>
  (asJ K m b1 x3 ((r3).toInt64)).bind fun m4 =>
  (ldA K m4 a0 31 1).bind fun b5 =>
  (ldA K m4 a0 11 1).bind fun b6 =>
  (alJ K m4 b6 x2).bind fun r7 =>
  (asJ K m4 b5 x3 r7).bind fun m8 =>
  (ldA K m8 a0 32 0).bind fun b9 =>
  (asI K m8 b9 x3 (-1 : Int32)).bind fun m10 =>
  bd (x2 + (1 : Int32)) fun z11 =>
  k110 m10 z11

def f_X9_gathers_168B (K : Kn) (a0 : Nat) (x1 : Int32) (k110 : Mem → Int32 → Option Mem) (k168 : Mem → Int32 → Int32 → Int32 → Option Mem) (m : Mem) (x2 : Int32) (x3 : Int32) (x4 : Int32) : Option Mem :=
  if x4 ≤ x3 then
    bd (sI m a0 33 ((gI m a0 33) + (1 : Int32))) fun m2 =>
    f_X9_gathers_238 K a0 x1 k110 m2 x2 x3
  else
    (ldA K m a0 30 1).bind fun b3 =>
    (ldA K m a0 30 1).bind fun b4 =>
    (alJ K m b4 (x4 - (1 : Int32))).bind fun r5 =>
    (asJ K m b3 x4 r5).bind fun m6 =>
    (ldA K m6 a0 31 1).bind fun b7 =>
    (ldA K m6 a0 31 1).bind fun b8 =>
    (alJ K m6 b8 (x4 - (1 : Int32))).bind fun r9 =>
    (asJ K m6 b7 x4 r9).bind fun m10 =>
    (ldA K m10 a0 32 0).bind fun b11 =>
    (ldA K m10 a0 32 0).bind fun b12 =>
    (alI K m10 b12 (x4 - (1 : Int32))).bind fun r13 =>
    (asI K m10 b11 x4 r13).bind fun m14 =>
    bd (x4 + (-1 : Int32)) fun z15 =>
    k168 m14 x2 x3 z15

def f_X9_gathers_168 (K : Kn) (a0 : Nat) (x1 : Int32) (k110 : Mem → Int32 → Option Mem) (n : Nat) : Mem → Int32 → Int32 → Int32 → Option Mem := lpM (fun _ _ _ _ => none) (fun k => f_X9_gathers_168B K a0 x1 k110 k) n

def f_X9_gathers_162 (K : Kn) (a0 : Nat) (x1 : Int32) (k110 : Mem → Int32 → Option Mem) (m : Mem) (x2 : Int32) (x3 : Int32) : Option Mem :=
  bd (gI m a0 33) fun z1 =>
  f_X9_gathers_168 K a0 x1 k110 FU m x2 x3 z1

def f_X9_gathers_110B (K : Kn) (a0 : Nat) (x1 : Int32) (k110 : Mem → Int32 → Option Mem) (m : Mem) (x2 : Int32) : Option Mem :=
  (ldA K m a0 9 0).bind fun b1 =>
  (alI K m b1 x1).bind fun r2 =>
  if (((20 : Int32) * x1) + r2) ≤ x2 then
    some m
  else
    (ldA K m a0 10 0).bind fun b4 =>
    (alI K m b4 x2).bind fun r5 =>
    (F_X9_firstNot K m a0 ((r5).toInt64)).bind fun q6 =>
    if q6 = (gI m a0 33) then
      f_X9_gathers_162 K a0 x1 k110 m x2 q6
    else
      (ldA K m a0 30 1).bind fun b8 =>
      (alJ K m b8 q6).bind fun r9 =>
      (ldA K m a0 10 0).bind fun b10 =>
      (alI K m b10 x2).bind fun r11 =>
      if (lg_cmp r9 ((r11).toInt64)) = 0 then
        f_X9_gathers_238 K a0 x1 k110 m x2 q6
      else
        f_X9_gathers_162 K a0 x1 k110 m x2 q6

def f_X9_gathers_110 (K : Kn) (a0 : Nat) (x1 : Int32) (n : Nat) : Mem → Int32 → Option Mem := lpM (fun _ _ => none) (f_X9_gathers_110B K a0 x1) n

def f_X9_gathers_7B (K : Kn) (a0 : Nat) (x1 : Int32) (k7 : Mem → Int32 → Option Mem) (m : Mem) (x2 : Int32) : Option Mem :=
  (ldA K m a0 2 0).bind fun b1 =>
  (alI K m b1 x1).bind fun r2 =>
  if r2 ≤ x2 then
    bd ((20 : Int32) * x1) fun z4 =>
    f_X9_gathers_110 K a0 x1 FU m z4
  else
    (F_X9_isBroken K m a0 (((16 : Int32) * x1) + x2)).bind fun q5 =>
    if q5.1 = 0 then
      f_X9_gathers_35 K a0 x1 k7 FU q5.2 x2 (0 : Int32)
    else
      f_X9_gathers_99 K a0 x1 k7 q5.2 x2

def f_X9_gathers_7 (K : Kn) (a0 : Nat) (x1 : Int32) (n : Nat) : Mem → Int32 → Option Mem := lpM (fun _ _ => none) (f_X9_gathers_7B K a0 x1) n

def f_X9_gathers (K : Kn) (a0 : Nat) (x1 : Int32) (m : Mem) : Option Mem :=
  bd (sI m a0 33 (0 : Int32)) fun m1 =>
  f_X9_gathers_7 K a0 x1 FU m1 (0 : Int32)

def F_X9_gathers (K : Kn) (m : Mem) (a0 : Nat) (x1 : Int32) : Option Mem := f_X9_gathers K a0 x1 m

def f_X9_packs_8B (K : Kn) (a0 : Nat) (x1 : Int32) (k8 : Mem → Int32 → Option (Int32 × Mem)) (m : Mem) (x2 : Int32) : Option (Int32 × Mem) :=
  if (gI m a0 33) ≤ x2 then
    some ((1 : Int32), m)
  else
    (ldA K m a0 30 1).bind fun b2 =>
    (alJ K m b2 x2).bind fun r3 =>
    (ldA K m a0 31 1).bind fun b4 =>
    (alJ K m b4 x2).bind fun r5 =>
    (F_X9_comes K m a0 (4 : Int32) r3 r5).bind fun q6 =>
    if q6.1 = 0 then
      some ((0 : Int32), q6.2)
    else
      bd (x2 + (1 : Int32)) fun z8 =>
      k8 q6.2 z8

def f_X9_packs_8 (K : Kn) (a0 : Nat) (x1 : Int32) (n : Nat) : Mem → Int32 → Option (Int32 × Mem) := lpM (fun _ _ => none) (f_X9_packs_8B K a0 x1) n

def f_X9_packs (K : Kn) (a0 : Nat) (x1 : Int32) (m : Mem) : Option (Int32 × Mem) :=
  (F_X9_clears K m a0 (4 : Int32) x1).bind fun q1 =>
  f_X9_packs_8 K a0 x1 FU q1 (0 : Int32)

def F_X9_packs (K : Kn) (m : Mem) (a0 : Nat) (x1 : Int32) : Option (Int32 × Mem) := f_X9_packs K a0 x1 m

def f_X9_copiesTo_213B (K : Kn) (a0 : Nat) (x1 : Int32) (x2 : Int32) (k213 : Mem → Int32 → Option Mem) (m : Mem) (x3 : Int32) : Option Mem :=
  if (20 : Int32) ≤ x3 then
    some m
  else
    (ldA K m a0 10 0).bind fun b2 =>
    (ldA K m a0 10 0).bind fun b3 =>
    (alI K m b3 (((20 : Int32) * x1) + x3)).bind fun r4 =>
    (asI K m b2 (((20 : Int32) * x2) + x3) r4).bind fun m5 =>
    (ldA K m5 a0 11 1).bind fun b6 =>
    (ldA K m5 a0 11 1).bind fun b7 =>
    (alJ K m5 b7 (((20 : Int32) * x1) + x3)).bind fun r8 =>
    (asJ K m5 b6 (((20 : Int32) * x2) + x3) r8).bind fun m9 =>
    bd (x3 + (1 : Int32)) fun z10 =>
    k213 m9 z10

def f_X9_copiesTo_213 (K : Kn) (a0 : Nat) (x1 : Int32) (x2 : Int32) (n : Nat) : Mem → Int32 → Option Mem := lpM (fun _ _ => none) (f_X9_copiesTo_213B K a0 x1 x2) n

def f_X9_copiesTo_89B (K : Kn) (a0 : Nat) (x1 : Int32) (x2 : Int32) (k89 : Mem → Int32 → Option Mem) (m : Mem) (x3 : Int32) : Option Mem :=
  if (16 : Int32) ≤ x3 then
    f_X9_copiesTo_213 K a0 x1 x2 FU m (0 : Int32)
  else
    (ldA K m a0 4 0).bind fun b2 =>
    (ldA K m a0 4 0).bind fun b3 =>
    (alI K m b3 (((16 : Int32) * x1) + x3)).bind fun r4 =>
    (asI K m b2 (((16 : Int32) * x2) + x3) r4).bind fun m5 =>
    (ldA K m5 a0 5 0).bind fun b6 =>
    (ldA K m5 a0 5 0).bind fun b7 =>
    (alI K m5 b7 (((16 : Int32) * x1) + x3)).bind fun r8 =>
    (asI K m5 b6 (((16 : Int32) * x2) + x3) r8).bind fun m9 =>
    (ldA K m9 a0 6 2).bind fun b10 =>
    (ldA K m9 a0 6 2).bind fun b11 =>
    (alI K m9 b11 (((16 : Int32) * x1) + x3)).bind fun r12 =>
    (asZ K m9 b10 (((16 : Int32) * x2) + x3) r12).bind fun m13 =>
    (ldA K m13 a0 7 0).bind fun b14 =>
    (ldA K m13 a0 7 0).bind fun b15 =>
    (alI K m13 b15 (((16 : Int32) * x1) + x3)).bind fun r16 =>
    (asI K m13 b14 (((16 : Int32) * x2) + x3) r16).bind fun m17 =>
    (ldA K m17 a0 8 0).bind fun b18 =>
    (ldA K m17 a0 8 0).bind fun b19 =>
    (alI K m17 b19 (((16 : Int32) * x1) + x3)).bind fun r20 =>
    (asI K m17 b18 (((16 : Int32) * x2) + x3) r20).bind fun m21 =>
    bd (x3 + (1 : Int32)) fun z22 =>
    k89 m21 z22

def f_X9_copiesTo_89 (K : Kn) (a0 : Nat) (x1 : Int32) (x2 : Int32) (n : Nat) : Mem → Int32 → Option Mem := lpM (fun _ _ => none) (f_X9_copiesTo_89B K a0 x1 x2) n

def f_X9_copiesTo_50B (K : Kn) (a0 : Nat) (x1 : Int32) (x2 : Int32) (k50 : Mem → Int32 → Option Mem) (m : Mem) (x3 : Int32) : Option Mem :=
  if (3200 : Int32) ≤ x3 then
    f_X9_copiesTo_89 K a0 x1 x2 FU m (0 : Int32)
  else
    (ldA K m a0 3 0).bind fun b2 =>
    (ldA K m a0 3 0).bind fun b3 =>
    (alI K m b3 (((3200 : Int32) * x1) + x3)).bind fun r4 =>
    (asI K m b2 (((3200 : Int32) * x2) + x3) r4).bind fun m5 =>
    bd (x3 + (1 : Int32)) fun z6 =>
    k50 m5 z6

def f_X9_copiesTo_50 (K : Kn) (a0 : Nat) (x1 : Int32) (x2 : Int32) (n : Nat) : Mem → Int32 → Option Mem := lpM (fun _ _ => none) (f_X9_copiesTo_50B K a0 x1 x2) n

def f_X9_copiesTo (K : Kn) (a0 : Nat) (x1 : Int32) (x2 : Int32) (m : Mem) : Option Mem :=
  (ldA K m a0 0 0).bind fun b1 =>
  (ldA K m a0 0 0).bind fun b2 =>
  (alI K m b2 x1).bind fun r3 =>
  (asI K m b1 x2 r3).bind fun m4 =>
  (ldA K m4 a0 1 0).bind fun b5 =>
  (ldA K m4 a0 1 0).bind fun b6 =>
  (alI K m4 b6 x1).bind fun r7 =>
  (asI K m4 b5 x2 r7).bind fun m8 =>
  (ldA K m8 a0 2 0).bind fun b9 =>
  (ldA K m8 a0 2 0).bind fun b10 =>
  (alI K m8 b10 x1).bind fun r11 =>
  (asI K m8 b9 x2 r11).bind fun m12 =>
  (ldA K m12 a0 9 0).bind fun b13 =>
  (ldA K m12 a0 9 0).bind fun b14 =>
  (alI K m12 b14 x1).bind fun r15 =>
  (asI K m12 b13 x2 r15).bind fun m16 =>
  f_X9_copiesTo_50 K a0 x1 x2 FU m16 (0 : Int32)

def F_X9_copiesTo (K : Kn) (m : Mem) (a0 : Nat) (x1 : Int32) (x2 : Int32) : Option Mem := f_X9_copiesTo K a0 x1 x2 m

def f_X9_lays_39 (K : Kn) (a0 : Nat) (x1 : Int32) (x2 : Int32) (m : Mem) (sa0 : Nat) (s1 : Int32) (s2 : Int32) : Option (Int32 × Mem) :=
  (asI K m sa0 s1 s2).bind fun m1 =>
  (F_X9_copiesTo K m1 a0 (4 : Int32) x1).bind fun q2 =>
  (ldA K q2 a0 2 0).bind fun b3 =>
  (alI K q2 b3 x1).bind fun r4 =>
  some (r4, q2)

def f_X9_lays (K : Kn) (a0 : Nat) (x1 : Int32) (x2 : Int32) (m : Mem) : Option (Int32 × Mem) :=
  (F_X9_packs K m a0 x2).bind fun q1 =>
  if q1.1 = 0 then
    some ((-4 : Int32), q1.2)
  else
    (ldA K q1.2 a0 1 0).bind fun b3 =>
    if (gI q1.2 a0 33) = 0 then
      f_X9_lays_39 K a0 x1 x2 q1.2 b3 (4 : Int32) (-1 : Int32)
    else
      (ldA K q1.2 a0 30 1).bind fun b5 =>
      (alJ K q1.2 b5 ((gI q1.2 a0 33) - (1 : Int32))).bind fun r6 =>
      f_X9_lays_39 K a0 x1 x2 q1.2 b3 (4 : Int32) ((r6).toInt32)

def F_X9_lays (K : Kn) (m : Mem) (a0 : Nat) (x1 : Int32) (x2 : Int32) : Option (Int32 × Mem) := f_X9_lays K a0 x1 x2 m

def f_X9_repack (K : Kn) (a0 : Nat) (x1 : Int32) (x2 : Int32) (m : Mem) : Option (Int32 × Mem) :=
  (F_X9_isSeries K m a0 x1).bind fun q1 =>
  if q1 = 0 then
    some ((-2 : Int32), m)
  else
    (F_X9_in ((x2).toInt64) (24 : Int64) (200 : Int64)).bind fun q3 =>
    if q3 = 0 then
      some ((-2 : Int32), m)
    else
      (F_X9_hasBroken K m a0 x1).bind fun q5 =>
      if q5.1 = 0 then
        (F_X9_gathers K q5.2 a0 x1).bind fun q7 =>
        (F_X9_lays K q7 a0 x1 x2).bind fun q8 =>
        some (q8.1, q8.2)
      else
        some ((-6 : Int32), q5.2)

def F_X9_repack (K : Kn) (m : Mem) (a0 : Nat) (x1 : Int32) (x2 : Int32) : Option (Int32 × Mem) := f_X9_repack K a0 x1 x2 m

def f_X9_merge (K : Kn) (a0 : Nat) (x1 : Int32) (m : Mem) : Option (Int32 × Mem) :=
  (F_X9_isSeries K m a0 x1).bind fun q1 =>
  if q1 = 0 then
    some ((-2 : Int32), m)
  else
    (ldA K m a0 0 0).bind fun b3 =>
    (alI K m b3 x1).bind fun r4 =>
    (F_X9_repack K m a0 x1 r4).bind fun q5 =>
    some (q5.1, q5.2)

def F_X9_merge (K : Kn) (m : Mem) (a0 : Nat) (x1 : Int32) : Option (Int32 × Mem) := f_X9_merge K a0 x1 m

def f_X9_bytesOf_4B (K : Kn) (m : Mem) (a0 : Nat) (x1 : Int32) (k4 : Int32 → Int32 → Option Int32) (x2 : Int32) (x3 : Int32) : Option Int32 :=
  (ldA K m a0 2 0).bind fun b1 =>
  (alI K m b1 x1).bind fun r2 =>
  if r2 ≤ x3 then
    some x2
  else
    (ldA K m a0 4 0).bind fun b4 =>
    (alI K m b4 (((16 : Int32) * x1) + x3)).bind fun r5 =>
    bd (x2 + r5) fun z6 =>
    bd (x3 + (1 : Int32)) fun z7 =>
    k4 z6 z7

def f_X9_bytesOf_4 (K : Kn) (m : Mem) (a0 : Nat) (x1 : Int32) (n : Nat) : Int32 → Int32 → Option Int32 := lpM (fun _ _ => none) (f_X9_bytesOf_4B K m a0 x1) n

def f_X9_bytesOf (K : Kn) (m : Mem) (a0 : Nat) (x1 : Int32) : Option Int32 :=
  f_X9_bytesOf_4 K m a0 x1 FU (0 : Int32) (0 : Int32)

def F_X9_bytesOf (K : Kn) (m : Mem) (a0 : Nat) (x1 : Int32) : Option Int32 := f_X9_bytesOf K m a0 x1

def f_X9_count_74 (K : Kn) (a0 : Nat) (x1 : Int32) (x2 : Int32) (k19 : Mem → Int32 → Int32 → Int32 → Option (Int32 × Mem)) (m : Mem) (x3 : Int32) (x5 : Int32) (s0 : Int32) (s1 : Int32) : Option (Int32 × Mem) :=
  bd (s0 ||| s1) fun z1 =>
  bd (x5 + (1 : Int32)) fun z2 =>
  k19 m x3 z1 z2

def f_X9_count_57 (K : Kn) (a0 : Nat) (x1 : Int32) (x2 : Int32) (k19 : Mem → Int32 → Int32 → Int32 → Option (Int32 × Mem)) (m : Mem) (x4 : Int32) (x5 : Int32) (x6 : Int32) (s0 : Int32) (s1 : Int32) : Option (Int32 × Mem) :=
  bd (s0 + s1) fun z1 =>
  if x6 = 0 then
    f_X9_count_74 K a0 x1 x2 k19 m z1 x5 x4 (0 : Int32)
  else
    f_X9_count_74 K a0 x1 x2 k19 m z1 x5 x4 ((1 : Int32) <<< (x5 &&& 31))

def f_X9_count_136 (K : Kn) (a0 : Nat) (x1 : Int32) (x2 : Int32) (m : Mem) : Option (Int32 × Mem) :=
  (ldA K m a0 0 0).bind fun b1 =>
  (alI K m b1 x1).bind fun r2 =>
  some (r2, m)

def f_X9_count_143 (K : Kn) (a0 : Nat) (x1 : Int32) (x2 : Int32) (m : Mem) (x3 : Int32) : Option (Int32 × Mem) :=
  some (x3, m)

def f_X9_count_145 (K : Kn) (a0 : Nat) (x1 : Int32) (x2 : Int32) (m : Mem) : Option (Int32 × Mem) :=
  (ldA K m a0 2 0).bind fun b1 =>
  (alI K m b1 x1).bind fun r2 =>
  some (r2, m)

def f_X9_count_152 (K : Kn) (a0 : Nat) (x1 : Int32) (x2 : Int32) (m : Mem) : Option (Int32 × Mem) :=
  (ldA K m a0 9 0).bind fun b1 =>
  (alI K m b1 x1).bind fun r2 =>
  some (r2, m)

def f_X9_count_159 (K : Kn) (a0 : Nat) (x1 : Int32) (x2 : Int32) (m : Mem) : Option (Int32 × Mem) :=
  (F_X9_bytesOf K m a0 x1).bind fun q1 =>
  some (q1, m)

def f_X9_count_165 (K : Kn) (a0 : Nat) (x1 : Int32) (x2 : Int32) (m : Mem) (x4 : Int32) : Option (Int32 × Mem) :=
  some (x4, m)

def f_X9_count_168 (K : Kn) (a0 : Nat) (x1 : Int32) (x2 : Int32) (m : Mem) : Option (Int32 × Mem) :=
  some (gI m a0 33, m)

def f_X9_count_173 (K : Kn) (a0 : Nat) (x1 : Int32) (x2 : Int32) (m : Mem) : Option (Int32 × Mem) :=
  (ldA K m a0 1 0).bind fun b1 =>
  (alI K m b1 x1).bind fun r2 =>
  some (r2, m)

def f_X9_count_19B (K : Kn) (a0 : Nat) (x1 : Int32) (x2 : Int32) (k19 : Mem → Int32 → Int32 → Int32 → Option (Int32 × Mem)) (m : Mem) (x3 : Int32) (x4 : Int32) (x5 : Int32) : Option (Int32 × Mem) :=
  (ldA K m a0 2 0).bind fun b1 =>
  (alI K m b1 x1).bind fun r2 =>
  if r2 ≤ x5 then
    (F_X9_gathers K m a0 x1).bind fun q4 =>
    if x2 = 0 then
      f_X9_count_136 K a0 x1 x2 q4
    else
    if x2 = 1 then
      f_X9_count_143 K a0 x1 x2 q4 x3
    else
    if x2 = 2 then
      f_X9_count_145 K a0 x1 x2 q4
    else
    if x2 = 3 then
      f_X9_count_152 K a0 x1 x2 q4
    else
    if x2 = 4 then
      f_X9_count_159 K a0 x1 x2 q4
    else
    if x2 = 5 then
      f_X9_count_165 K a0 x1 x2 q4 x4
    else
    if x2 = 6 then
      f_X9_count_168 K a0 x1 x2 q4
    else
    if x2 = 7 then
      f_X9_count_173 K a0 x1 x2 q4
    else
    some ((-2 : Int32), q4)
  else
    (F_X9_isBroken K m a0 (((16 : Int32) * x1) + x5)).bind fun q13 =>
    bd (q13.1) fun z14 =>
    if z14 = 0 then
      f_X9_count_57 K a0 x1 x2 k19 q13.2 x4 x5 z14 x3 (gI q13.2 a0 26)
    else
      f_X9_count_57 K a0 x1 x2 k19 q13.2 x4 x5 z14 x3 (0 : Int32)

def f_X9_count_19 (K : Kn) (a0 : Nat) (x1 : Int32) (x2 : Int32) (n : Nat) : Mem → Int32 → Int32 → Int32 → Option (Int32 × Mem) := lpM (fun _ _ _ _ => none) (f_X9_count_19B K a0 x1 x2) n

def f_X9_count (K : Kn) (a0 : Nat) (x1 : Int32) (x2 : Int32) (m : Mem) : Option (Int32 × Mem) :=
  (F_X9_isSeries K m a0 x1).bind fun q1 =>
  if q1 = 0 then
    some ((-2 : Int32), m)
  else
    f_X9_count_19 K a0 x1 x2 FU m (0 : Int32) (0 : Int32) (0 : Int32)

def F_X9_count (K : Kn) (m : Mem) (a0 : Nat) (x1 : Int32) (x2 : Int32) : Option (Int32 × Mem) := f_X9_count K a0 x1 x2 m

def f_X9_isBlock_30 (K : Kn) (m : Mem) (a0 : Nat) (x1 : Int32) (x2 : Int32) : Option Int32 :=
  some (0 : Int32)

def f_X9_isBlock (K : Kn) (m : Mem) (a0 : Nat) (x1 : Int32) (x2 : Int32) : Option Int32 :=
  (F_X9_isSeries K m a0 x1).bind fun q1 =>
  if q1 = 0 then
    f_X9_isBlock_30 K m a0 x1 x2
  else
    (ldA K m a0 2 0).bind fun b3 =>
    (alI K m b3 x1).bind fun r4 =>
    (F_X9_in ((x2).toInt64) (0 : Int64) ((r4 - (1 : Int32)).toInt64)).bind fun q5 =>
    if q5 = 0 then
      f_X9_isBlock_30 K m a0 x1 x2
    else
      some (1 : Int32)

def F_X9_isBlock (K : Kn) (m : Mem) (a0 : Nat) (x1 : Int32) (x2 : Int32) : Option Int32 := f_X9_isBlock K m a0 x1 x2

def f_X9_block_42 (K : Kn) (a0 : Nat) (x1 : Int32) (x2 : Int32) (x3 : Int32) (m : Mem) (x4 : Int32) : Option (Int32 × Mem) :=
  if x3 = (3 : Int32) then
    (ldA K m a0 4 0).bind fun b2 =>
    (alI K m b2 x4).bind fun r3 =>
    some (r3, m)
  else
    (ldA K m a0 6 2).bind fun b4 =>
    (alI K m b4 x4).bind fun r5 =>
    if r5 = 0 then
      some ((0 : Int32), m)
    else
      some ((1 : Int32), m)

def f_X9_block_131 (K : Kn) (a0 : Nat) (x1 : Int32) (x2 : Int32) (x3 : Int32) (m : Mem) (s0 : Int64) : Option (Int32 × Mem) :=
  some ((s0).toInt32, m)

def f_X9_block (K : Kn) (a0 : Nat) (x1 : Int32) (x2 : Int32) (x3 : Int32) (m : Mem) : Option (Int32 × Mem) :=
  (F_X9_isBlock K m a0 x1 x2).bind fun q1 =>
  if q1 = 0 then
    some ((-2 : Int32), m)
  else
    (F_X9_in ((x3).toInt64) (0 : Int64) (5 : Int64)).bind fun q3 =>
    if q3 = 0 then
      some ((-2 : Int32), m)
    else
      bd (((16 : Int32) * x1) + x2) fun z5 =>
      if x3 = (3 : Int32) then
        f_X9_block_42 K a0 x1 x2 x3 m z5
      else
        if x3 = (5 : Int32) then
          f_X9_block_42 K a0 x1 x2 x3 m z5
        else
          (F_X9_isBroken K m a0 z5).bind fun q8 =>
          if q8.1 = 0 then
            if x3 = 0 then
              (ldA K q8.2 a0 21 1).bind fun b11 =>
              (alJ K q8.2 b11 (0 : Int32)).bind fun r12 =>
              f_X9_block_131 K a0 x1 x2 x3 q8.2 r12
            else
              if x3 = (1 : Int32) then
                f_X9_block_131 K a0 x1 x2 x3 q8.2 (gJ q8.2 a0 14)
              else
                if x3 = (2 : Int32) then
                  f_X9_block_131 K a0 x1 x2 x3 q8.2 ((gI q8.2 a0 26).toInt64)
                else
                  (ldA K q8.2 a0 5 0).bind fun b15 =>
                  (alI K q8.2 b15 z5).bind fun r16 =>
                  f_X9_block_131 K a0 x1 x2 x3 q8.2 ((r16).toInt64)
          else
            some ((-6 : Int32), q8.2)

def F_X9_block (K : Kn) (m : Mem) (a0 : Nat) (x1 : Int32) (x2 : Int32) (x3 : Int32) : Option (Int32 × Mem) := f_X9_block K a0 x1 x2 x3 m

def f_X9_octet (K : Kn) (m : Mem) (a0 : Nat) (x1 : Int32) (x2 : Int32) (x3 : Int32) : Option Int32 :=
  (F_X9_isBlock K m a0 x1 x2).bind fun q1 =>
  if q1 = 0 then
    some (-2 : Int32)
  else
    (ldA K m a0 4 0).bind fun b3 =>
    (alI K m b3 (((16 : Int32) * x1) + x2)).bind fun r4 =>
    (F_X9_in ((x3).toInt64) (0 : Int64) ((r4 - (1 : Int32)).toInt64)).bind fun q5 =>
    if q5 = 0 then
      some (-1 : Int32)
    else
      (F_X9_byteAt K m a0 (((16 : Int32) * x1) + x2) x3).bind fun q7 =>
      some q7

def F_X9_octet (K : Kn) (m : Mem) (a0 : Nat) (x1 : Int32) (x2 : Int32) (x3 : Int32) : Option Int32 := f_X9_octet K m a0 x1 x2 x3

def f_X9_fault (K : Kn) (a0 : Nat) (x1 : Int32) (x2 : Int32) (x3 : Int32) (m : Mem) : Option (Int32 × Mem) :=
  (F_X9_isBlock K m a0 x1 x2).bind fun q1 =>
  if q1 = 0 then
    some ((-2 : Int32), m)
  else
    (F_X9_in ((x3).toInt64) (0 : Int64) (1 : Int64)).bind fun q3 =>
    if q3 = 0 then
      some ((-2 : Int32), m)
    else
      (F_X9_reads K m a0 (((16 : Int32) * x1) + x2)).bind fun q5 =>
      if x3 = 0 then
        some (gI q5 a0 27, q5)
      else
        some (gI q5 a0 28, q5)

def F_X9_fault (K : Kn) (m : Mem) (a0 : Nat) (x1 : Int32) (x2 : Int32) (x3 : Int32) : Option (Int32 × Mem) := f_X9_fault K a0 x1 x2 x3 m

def f_X9_damage (K : Kn) (a0 : Nat) (x1 : Int32) (x2 : Int32) (x3 : Int32) (x4 : Int32) (m : Mem) : Option (Int32 × Mem) :=
  (F_X9_isBlock K m a0 x1 x2).bind fun q1 =>
  if q1 = 0 then
    some ((-2 : Int32), m)
  else
    (F_X9_in ((x4).toInt64) (0 : Int64) (255 : Int64)).bind fun q3 =>
    if q3 = 0 then
      some ((-2 : Int32), m)
    else
      (ldA K m a0 4 0).bind fun b5 =>
      (alI K m b5 (((16 : Int32) * x1) + x2)).bind fun r6 =>
      (F_X9_in ((x3).toInt64) (0 : Int64) ((r6 - (1 : Int32)).toInt64)).bind fun q7 =>
      if q7 = 0 then
        some ((-2 : Int32), m)
      else
        bd (((16 : Int32) * x1) + x2) fun z9 =>
        (ldA K m a0 6 2).bind fun b10 =>
        (alI K m b10 z9).bind fun r11 =>
        if r11 = 0 then
          some ((-5 : Int32), m)
        else
          (F_X9_byteAt K m a0 z9 x3).bind fun q13 =>
          (ldA K m a0 3 0).bind fun b14 =>
          (asI K m b14 (((200 : Int32) * z9) + x3) x4).bind fun m15 =>
          some (q13, m15)

def F_X9_damage (K : Kn) (m : Mem) (a0 : Nat) (x1 : Int32) (x2 : Int32) (x3 : Int32) (x4 : Int32) : Option (Int32 × Mem) := f_X9_damage K a0 x1 x2 x3 x4 m

def f_X9_isAsked_19 (K : Kn) (m : Mem) (a0 : Nat) (x1 : Int32) (x2 : Int32) : Option Int32 :=
  some (0 : Int32)

def f_X9_isAsked (K : Kn) (m : Mem) (a0 : Nat) (x1 : Int32) (x2 : Int32) : Option Int32 :=
  (F_X9_isSeries K m a0 x1).bind fun q1 =>
  if q1 = 0 then
    f_X9_isAsked_19 K m a0 x1 x2
  else
    (F_X9_isStamp x2).bind fun q3 =>
    if q3 = 0 then
      f_X9_isAsked_19 K m a0 x1 x2
    else
      some (1 : Int32)

def F_X9_isAsked (K : Kn) (m : Mem) (a0 : Nat) (x1 : Int32) (x2 : Int32) : Option Int32 := f_X9_isAsked K m a0 x1 x2

def f_X9_placeOf_31 (K : Kn) (m : Mem) (a0 : Nat) (x1 : Int32) : Option Int32 :=
  some (-1 : Int32)

def f_X9_placeOf (K : Kn) (m : Mem) (a0 : Nat) (x1 : Int32) : Option Int32 :=
  (F_X9_firstNot K m a0 ((x1).toInt64)).bind fun q1 =>
  if (gI m a0 33) ≤ q1 then
    f_X9_placeOf_31 K m a0 x1
  else
    (ldA K m a0 30 1).bind fun b3 =>
    (alJ K m b3 q1).bind fun r4 =>
    if (lg_cmp r4 ((x1).toInt64)) = 0 then
      some q1
    else
      f_X9_placeOf_31 K m a0 x1

def F_X9_placeOf (K : Kn) (m : Mem) (a0 : Nat) (x1 : Int32) : Option Int32 := f_X9_placeOf K m a0 x1

def f_X9_has (K : Kn) (a0 : Nat) (x1 : Int32) (x2 : Int32) (m : Mem) : Option (Int32 × Mem) :=
  (F_X9_isAsked K m a0 x1 x2).bind fun q1 =>
  if q1 = 0 then
    some ((-2 : Int32), m)
  else
    (F_X9_gathers K m a0 x1).bind fun q3 =>
    (F_X9_placeOf K q3 a0 x2).bind fun q4 =>
    if q4 = (-1 : Int32) then
      some ((0 : Int32), q3)
    else
      some ((1 : Int32), q3)

def F_X9_has (K : Kn) (m : Mem) (a0 : Nat) (x1 : Int32) (x2 : Int32) : Option (Int32 × Mem) := f_X9_has K a0 x1 x2 m

def f_X9_at (K : Kn) (a0 : Nat) (x1 : Int32) (x2 : Int32) (m : Mem) : Option (Int64 × Mem) :=
  (F_X9_isAsked K m a0 x1 x2).bind fun q1 =>
  if q1 = 0 then
    some ((0 : Int64), m)
  else
    (F_X9_gathers K m a0 x1).bind fun q3 =>
    (F_X9_placeOf K q3 a0 x2).bind fun q4 =>
    if q4 = (-1 : Int32) then
      some ((0 : Int64), q3)
    else
      (ldA K q3 a0 31 1).bind fun b6 =>
      (alJ K q3 b6 q4).bind fun r7 =>
      some (r7, q3)

def F_X9_at (K : Kn) (m : Mem) (a0 : Nat) (x1 : Int32) (x2 : Int32) : Option (Int64 × Mem) := f_X9_at K a0 x1 x2 m

def f_X9_nearest_88 (K : Kn) (a0 : Nat) (x1 : Int32) (x2 : Int32) (k24 : Mem → Int64 → Int32 → Option (Int32 × Mem)) (m : Mem) (x5 : Int32) (s0 : Int64) : Option (Int32 × Mem) :=
  bd (x5 + (1 : Int32)) fun z1 =>
  k24 m s0 z1

def f_X9_nearest_70 (K : Kn) (a0 : Nat) (x1 : Int32) (x2 : Int32) (k24 : Mem → Int64 → Int32 → Option (Int32 × Mem)) (m : Mem) (x3 : Int64) (x5 : Int32) (s0 : Int32) : Option (Int32 × Mem) :=
  if s0 = 0 then
    f_X9_nearest_88 K a0 x1 x2 k24 m x5 x3
  else
    (ldA K m a0 30 1).bind fun b2 =>
    (alJ K m b2 x5).bind fun r3 =>
    f_X9_nearest_88 K a0 x1 x2 k24 m x5 r3

def f_X9_nearest_65 (K : Kn) (a0 : Nat) (x1 : Int32) (x2 : Int32) (k24 : Mem → Int64 → Int32 → Option (Int32 × Mem)) (m : Mem) (x3 : Int64) (x5 : Int32) : Option (Int32 × Mem) :=
  f_X9_nearest_70 K a0 x1 x2 k24 m x3 x5 (1 : Int32)

def f_X9_nearest_24B (K : Kn) (a0 : Nat) (x1 : Int32) (x2 : Int32) (k24 : Mem → Int64 → Int32 → Option (Int32 × Mem)) (m : Mem) (x3 : Int64) (x5 : Int32) : Option (Int32 × Mem) :=
  if (gI m a0 33) ≤ x5 then
    some ((x3).toInt32, m)
  else
    if (lg_cmp x3 (-1 : Int64)) = 0 then
      f_X9_nearest_65 K a0 x1 x2 k24 m x3 x5
    else
      (ldA K m a0 30 1).bind fun b3 =>
      (alJ K m b3 x5).bind fun r4 =>
      (F_J9_abs_067f4 (r4 - ((x2).toInt64))).bind fun q5 =>
      (F_J9_abs_067f4 (x3 - ((x2).toInt64))).bind fun q6 =>
      if 0 ≤ (lg_cmp q5 q6) then
        f_X9_nearest_70 K a0 x1 x2 k24 m x3 x5 (0 : Int32)
      else
        f_X9_nearest_65 K a0 x1 x2 k24 m x3 x5

def f_X9_nearest_24 (K : Kn) (a0 : Nat) (x1 : Int32) (x2 : Int32) (n : Nat) : Mem → Int64 → Int32 → Option (Int32 × Mem) := lpM (fun _ _ _ => none) (f_X9_nearest_24B K a0 x1 x2) n

def f_X9_nearest (K : Kn) (a0 : Nat) (x1 : Int32) (x2 : Int32) (m : Mem) : Option (Int32 × Mem) :=
  (F_X9_isAsked K m a0 x1 x2).bind fun q1 =>
  if q1 = 0 then
    some ((-2 : Int32), m)
  else
    (F_X9_gathers K m a0 x1).bind fun q3 =>
    f_X9_nearest_24 K a0 x1 x2 FU q3 (-1 : Int64) (0 : Int32)

def F_X9_nearest (K : Kn) (m : Mem) (a0 : Nat) (x1 : Int32) (x2 : Int32) : Option (Int32 × Mem) := f_X9_nearest K a0 x1 x2 m

def f_X9_point (K : Kn) (a0 : Nat) (x1 : Int32) (x2 : Int32) (x3 : Int32) (m : Mem) : Option (Int64 × Mem) :=
  (F_X9_isSeries K m a0 x1).bind fun q1 =>
  if q1 = 0 then
    some ((-1 : Int64), m)
  else
    if x2 < 0 then
      some ((-1 : Int64), m)
    else
      (F_X9_in ((x3).toInt64) (0 : Int64) (1 : Int64)).bind fun q4 =>
      if q4 = 0 then
        some ((-1 : Int64), m)
      else
        (F_X9_gathers K m a0 x1).bind fun q6 =>
        if x2 < (gI q6 a0 33) then
          if x3 = 0 then
            (ldA K q6 a0 30 1).bind fun b9 =>
            (alJ K q6 b9 x2).bind fun r10 =>
            some (r10, q6)
          else
            (ldA K q6 a0 31 1).bind fun b11 =>
            (alJ K q6 b11 x2).bind fun r12 =>
            some (r12, q6)
        else
          some ((-1 : Int64), q6)

def F_X9_point (K : Kn) (m : Mem) (a0 : Nat) (x1 : Int32) (x2 : Int32) (x3 : Int32) : Option (Int64 × Mem) := f_X9_point K a0 x1 x2 x3 m

def f_X9_isSpan_17 (K : Kn) (m : Mem) (a0 : Nat) (x1 : Int32) (x2 : Int32) (x3 : Int32) : Option Int32 :=
  some (0 : Int32)

def f_X9_isSpan (K : Kn) (m : Mem) (a0 : Nat) (x1 : Int32) (x2 : Int32) (x3 : Int32) : Option Int32 :=
  (F_X9_isSeries K m a0 x1).bind fun q1 =>
  if q1 = 0 then
    f_X9_isSpan_17 K m a0 x1 x2 x3
  else
    if x3 < x2 then
      f_X9_isSpan_17 K m a0 x1 x2 x3
    else
      some (1 : Int32)

def F_X9_isSpan (K : Kn) (m : Mem) (a0 : Nat) (x1 : Int32) (x2 : Int32) (x3 : Int32) : Option Int32 := f_X9_isSpan K m a0 x1 x2 x3

def f_X9_opened_60 (K : Kn) (a0 : Nat) (x1 : Int32) (x2 : Int32) (x3 : Int32) (k6 : Mem → Int32 → Int32 → Option (Int32 × Mem)) (m : Mem) (x5 : Int32) (s0 : Int32) (s1 : Int32) : Option (Int32 × Mem) :=
  bd (s0 + s1) fun z1 =>
  bd (x5 + (1 : Int32)) fun z2 =>
  k6 m z1 z2

def f_X9_opened_59 (K : Kn) (a0 : Nat) (x1 : Int32) (x2 : Int32) (x3 : Int32) (k6 : Mem → Int32 → Int32 → Option (Int32 × Mem)) (m : Mem) (x5 : Int32) (s0 : Int32) : Option (Int32 × Mem) :=
  f_X9_opened_60 K a0 x1 x2 x3 k6 m x5 s0 (0 : Int32)

def f_X9_opened_6B (K : Kn) (a0 : Nat) (x1 : Int32) (x2 : Int32) (x3 : Int32) (k6 : Mem → Int32 → Int32 → Option (Int32 × Mem)) (m : Mem) (x4 : Int32) (x5 : Int32) : Option (Int32 × Mem) :=
  (ldA K m a0 2 0).bind fun b1 =>
  (alI K m b1 x1).bind fun r2 =>
  if r2 ≤ x5 then
    some (x4, m)
  else
    (F_X9_isBroken K m a0 (((16 : Int32) * x1) + x5)).bind fun q4 =>
    if q4.1 = 0 then
      (ldA K q4.2 a0 21 1).bind fun b6 =>
      (alJ K q4.2 b6 (0 : Int32)).bind fun r7 =>
      if 0 < (lg_cmp r7 ((x3).toInt64)) then
        f_X9_opened_59 K a0 x1 x2 x3 k6 q4.2 x5 x4
      else
        if (lg_cmp (gJ q4.2 a0 14) ((x2).toInt64)) < 0 then
          f_X9_opened_59 K a0 x1 x2 x3 k6 q4.2 x5 x4
        else
          f_X9_opened_60 K a0 x1 x2 x3 k6 q4.2 x5 x4 (1 : Int32)
    else
      f_X9_opened_59 K a0 x1 x2 x3 k6 q4.2 x5 x4

def f_X9_opened_6 (K : Kn) (a0 : Nat) (x1 : Int32) (x2 : Int32) (x3 : Int32) (n : Nat) : Mem → Int32 → Int32 → Option (Int32 × Mem) := lpM (fun _ _ _ => none) (f_X9_opened_6B K a0 x1 x2 x3) n

def f_X9_opened (K : Kn) (a0 : Nat) (x1 : Int32) (x2 : Int32) (x3 : Int32) (m : Mem) : Option (Int32 × Mem) :=
  f_X9_opened_6 K a0 x1 x2 x3 FU m (0 : Int32) (0 : Int32)

def F_X9_opened (K : Kn) (m : Mem) (a0 : Nat) (x1 : Int32) (x2 : Int32) (x3 : Int32) : Option (Int32 × Mem) := f_X9_opened K a0 x1 x2 x3 m

def f_X9_laysSpan (K : Kn) (a0 : Nat) (x1 : Int32) (x2 : Int32) (x3 : Int32) (m : Mem) : Option Mem :=
  (F_X9_gathers K m a0 x1).bind fun q1 =>
  (F_X9_firstNot K q1 a0 ((x2).toInt64)).bind fun q2 =>
  bd (sI q1 a0 36 q2) fun m3 =>
  (F_X9_firstNot K m3 a0 (((x3).toInt64) + (1 : Int64))).bind fun q4 =>
  bd (sI m3 a0 37 q4) fun m5 =>
  some m5

def F_X9_laysSpan (K : Kn) (m : Mem) (a0 : Nat) (x1 : Int32) (x2 : Int32) (x3 : Int32) : Option Mem := f_X9_laysSpan K a0 x1 x2 x3 m

def f_X9_isNumber (x0 : Int64) : Option Int32 :=
  if 0 < (lg_cmp (x0 &&& (9223372036854775807 : Int64)) (9218868437227405312 : Int64)) then
    some (0 : Int32)
  else
    some (1 : Int32)

def F_X9_isNumber (x0 : Int64) : Option Int32 := f_X9_isNumber x0

def f_X9_span_138 (K : Kn) (a0 : Nat) (x1 : Int32) (x2 : Int32) (x3 : Int32) (x4 : Int32) (k57 : Mem → Int32 → Int32 → Int32 → Int32 → Int32 → Option (Int32 × Mem)) (m : Mem) (x5 : Int32) (x6 : Int32) (x7 : Int32) (x9 : Int32) (s0 : Int32) (s1 : Int32) : Option (Int32 × Mem) :=
  bd (s0 + s1) fun z1 =>
  bd (x9 + (1 : Int32)) fun z2 =>
  k57 m x5 x6 x7 z1 z2

def f_X9_span_110 (K : Kn) (a0 : Nat) (x1 : Int32) (x2 : Int32) (x3 : Int32) (x4 : Int32) (k57 : Mem → Int32 → Int32 → Int32 → Int32 → Int32 → Option (Int32 × Mem)) (m : Mem) (x5 : Int32) (x6 : Int32) (x8 : Int32) (x9 : Int32) (s0 : Int32) (s1 : Int32) : Option (Int32 × Mem) :=
  bd (s0 + s1) fun z1 =>
  (ldA K m a0 31 1).bind fun b2 =>
  (alJ K m b2 x9).bind fun r3 =>
  if (lg_cmp (r3 &&& (9223372036854775807 : Int64)) (9218868437227405312 : Int64)) = 0 then
    f_X9_span_138 K a0 x1 x2 x3 x4 k57 m x5 x6 z1 x9 x8 (1 : Int32)
  else
    f_X9_span_138 K a0 x1 x2 x3 x4 k57 m x5 x6 z1 x9 x8 (0 : Int32)

def f_X9_span_86 (K : Kn) (a0 : Nat) (x1 : Int32) (x2 : Int32) (x3 : Int32) (x4 : Int32) (k57 : Mem → Int32 → Int32 → Int32 → Int32 → Int32 → Option (Int32 × Mem)) (m : Mem) (x5 : Int32) (x7 : Int32) (x8 : Int32) (x9 : Int32) (s0 : Int32) (s1 : Int32) : Option (Int32 × Mem) :=
  bd (s0 + s1) fun z1 =>
  (ldA K m a0 31 1).bind fun b2 =>
  (alJ K m b2 x9).bind fun r3 =>
  if (lg_cmp r3 (-9223372036854775808 : Int64)) = 0 then
    f_X9_span_110 K a0 x1 x2 x3 x4 k57 m x5 z1 x8 x9 x7 (1 : Int32)
  else
    f_X9_span_110 K a0 x1 x2 x3 x4 k57 m x5 z1 x8 x9 x7 (0 : Int32)

def f_X9_span_265 (K : Kn) (a0 : Nat) (x1 : Int32) (x2 : Int32) (x3 : Int32) (x4 : Int32) (m : Mem) (x8 : Int32) : Option (Int32 × Mem) :=
  some (x8, m)

def f_X9_span_204 (K : Kn) (a0 : Nat) (x1 : Int32) (x2 : Int32) (x3 : Int32) (x4 : Int32) (m : Mem) : Option (Int32 × Mem) :=
  some ((gI m a0 37) - (gI m a0 36), m)

def f_X9_span_214 (K : Kn) (a0 : Nat) (x1 : Int32) (x2 : Int32) (x3 : Int32) (x4 : Int32) (m : Mem) (x5 : Int32) : Option (Int32 × Mem) :=
  some (x5, m)

def f_X9_span_217 (K : Kn) (a0 : Nat) (x1 : Int32) (x2 : Int32) (x3 : Int32) (x4 : Int32) (m : Mem) (x9 : Int32) : Option (Int32 × Mem) :=
  if x9 = 0 then
    some ((-1 : Int32), m)
  else
    (ldA K m a0 30 1).bind fun b2 =>
    (alJ K m b2 (gI m a0 36)).bind fun r3 =>
    some ((r3).toInt32, m)

def f_X9_span_237 (K : Kn) (a0 : Nat) (x1 : Int32) (x2 : Int32) (x3 : Int32) (x4 : Int32) (m : Mem) (x9 : Int32) : Option (Int32 × Mem) :=
  if x9 = 0 then
    some ((-1 : Int32), m)
  else
    (ldA K m a0 30 1).bind fun b2 =>
    (alJ K m b2 ((gI m a0 37) - (1 : Int32))).bind fun r3 =>
    some ((r3).toInt32, m)

def f_X9_span_259 (K : Kn) (a0 : Nat) (x1 : Int32) (x2 : Int32) (x3 : Int32) (x4 : Int32) (m : Mem) (x6 : Int32) : Option (Int32 × Mem) :=
  some (x6, m)

def f_X9_span_262 (K : Kn) (a0 : Nat) (x1 : Int32) (x2 : Int32) (x3 : Int32) (x4 : Int32) (m : Mem) (x7 : Int32) : Option (Int32 × Mem) :=
  some (x7, m)

def f_X9_span_163 (K : Kn) (a0 : Nat) (x1 : Int32) (x2 : Int32) (x3 : Int32) (x4 : Int32) (m : Mem) (x5 : Int32) (x6 : Int32) (x7 : Int32) (x8 : Int32) (s0 : Int32) : Option (Int32 × Mem) :=
  if x4 = 0 then
    f_X9_span_204 K a0 x1 x2 x3 x4 m
  else
  if x4 = 1 then
    f_X9_span_214 K a0 x1 x2 x3 x4 m x5
  else
  if x4 = 2 then
    f_X9_span_217 K a0 x1 x2 x3 x4 m s0
  else
  if x4 = 3 then
    f_X9_span_237 K a0 x1 x2 x3 x4 m s0
  else
  if x4 = 4 then
    f_X9_span_259 K a0 x1 x2 x3 x4 m x6
  else
  if x4 = 5 then
    f_X9_span_262 K a0 x1 x2 x3 x4 m x7
  else
  f_X9_span_265 K a0 x1 x2 x3 x4 m x8

def f_X9_span_57B (K : Kn) (a0 : Nat) (x1 : Int32) (x2 : Int32) (x3 : Int32) (x4 : Int32) (k57 : Mem → Int32 → Int32 → Int32 → Int32 → Int32 → Option (Int32 × Mem)) (m : Mem) (x5 : Int32) (x6 : Int32) (x7 : Int32) (x8 : Int32) (x9 : Int32) : Option (Int32 × Mem) :=
  if (gI m a0 37) ≤ x9 then
    if (gI m a0 37) ≤ (gI m a0 36) then
      f_X9_span_163 K a0 x1 x2 x3 x4 m x5 x6 x7 x8 (0 : Int32)
    else
      f_X9_span_163 K a0 x1 x2 x3 x4 m x5 x6 x7 x8 (1 : Int32)
  else
    (ldA K m a0 31 1).bind fun b3 =>
    (alJ K m b3 x9).bind fun r4 =>
    (F_X9_isNumber r4).bind fun q5 =>
    if q5 = 0 then
      f_X9_span_86 K a0 x1 x2 x3 x4 k57 m x5 x7 x8 x9 x6 (1 : Int32)
    else
      f_X9_span_86 K a0 x1 x2 x3 x4 k57 m x5 x7 x8 x9 x6 (0 : Int32)

def f_X9_span_57 (K : Kn) (a0 : Nat) (x1 : Int32) (x2 : Int32) (x3 : Int32) (x4 : Int32) (n : Nat) : Mem → Int32 → Int32 → Int32 → Int32 → Int32 → Option (Int32 × Mem) := lpM (fun _ _ _ _ _ _ => none) (f_X9_span_57B K a0 x1 x2 x3 x4) n

def f_X9_span (K : Kn) (a0 : Nat) (x1 : Int32) (x2 : Int32) (x3 : Int32) (x4 : Int32) (m : Mem) : Option (Int32 × Mem) :=
  (F_X9_isSpan K m a0 x1 x2 x3).bind fun q1 =>
  if q1 = 0 then
    some ((-2 : Int32), m)
  else
    (F_X9_in ((x4).toInt64) (0 : Int64) (6 : Int64)).bind fun q3 =>
    if q3 = 0 then
      some ((-2 : Int32), m)
    else
      (F_X9_opened K m a0 x1 x2 x3).bind fun q5 =>
      bd (q5.1) fun z6 =>
      (F_X9_laysSpan K q5.2 a0 x1 x2 x3).bind fun q7 =>
      bd (gI q7 a0 36) fun z8 =>
      f_X9_span_57 K a0 x1 x2 x3 x4 FU q7 z6 (0 : Int32) (0 : Int32) (0 : Int32) z8

def F_X9_span (K : Kn) (m : Mem) (a0 : Nat) (x1 : Int32) (x2 : Int32) (x3 : Int32) (x4 : Int32) : Option (Int32 × Mem) := f_X9_span K a0 x1 x2 x3 x4 m

def f_X9_isLess (x0 : Int64) (x2 : Int64) : Option Int32 :=
  gd (vn_snl2d x0 = false) <|
  gd (vn_snl2d x2 = false) <|
  if 0 ≤ (Op.cmpValue (FP.dcmp ((x0).toUInt64) ((x2).toUInt64)) .g) then
    some (0 : Int32)
  else
    some (1 : Int32)

def F_X9_isLess (x0 : Int64) (x2 : Int64) : Option Int32 := f_X9_isLess x0 x2

def f_X9_told (x0 : UInt64) : Option Int64 :=
  if (Op.cmpValue (FP.dcmp x0 x0) .l) = 0 then
    (F_Jxe99ae_doubleToLongBits_ccdee x0).bind fun q2 =>
    some q2
  else
    some (9221120237041090560 : Int64)

def F_X9_told (x0 : UInt64) : Option Int64 := f_X9_told x0

def f_X9_value_155 (K : Kn) (a0 : Nat) (x1 : Int32) (x2 : Int32) (x3 : Int32) (x4 : Int32) (k49 : Mem → Int32 → Int64 → UInt64 → Int32 → Option (Int64 × Mem)) (m : Mem) (x5 : Int32) (x6 : Int64) (x8 : UInt64) (x10 : Int32) : Option (Int64 × Mem) :=
  bd (x10 + (1 : Int32)) fun z1 =>
  k49 m x5 x6 x8 z1

def f_X9_value_140 (K : Kn) (a0 : Nat) (x1 : Int32) (x2 : Int32) (x3 : Int32) (x4 : Int32) (k49 : Mem → Int32 → Int64 → UInt64 → Int32 → Option (Int64 × Mem)) (m : Mem) (x8 : UInt64) (x10 : Int32) (x11 : Int64) (s0 : Int64) : Option (Int64 × Mem) :=
  gd (vn_snl2d x11 = false) <|
  f_X9_value_155 K a0 x1 x2 x3 x4 k49 m (1 : Int32) s0 (FP.dadd x8 ((x11).toUInt64)) x10

def f_X9_value_133 (K : Kn) (a0 : Nat) (x1 : Int32) (x2 : Int32) (x3 : Int32) (x4 : Int32) (k49 : Mem → Int32 → Int64 → UInt64 → Int32 → Option (Int64 × Mem)) (m : Mem) (x8 : UInt64) (x10 : Int32) (x11 : Int64) : Option (Int64 × Mem) :=
  f_X9_value_140 K a0 x1 x2 x3 x4 k49 m x8 x10 x11 x11

def f_X9_value_121 (K : Kn) (a0 : Nat) (x1 : Int32) (x2 : Int32) (x3 : Int32) (x4 : Int32) (k49 : Mem → Int32 → Int64 → UInt64 → Int32 → Option (Int64 × Mem)) (m : Mem) (x5 : Int32) (x6 : Int64) (x8 : UInt64) (x10 : Int32) (x11 : Int64) (s0 : Int32) : Option (Int64 × Mem) :=
  if x5 = 0 then
    f_X9_value_133 K a0 x1 x2 x3 x4 k49 m x8 x10 x11
  else
    if s0 = 0 then
      f_X9_value_140 K a0 x1 x2 x3 x4 k49 m x8 x10 x11 x6
    else
      f_X9_value_133 K a0 x1 x2 x3 x4 k49 m x8 x10 x11

def f_X9_value_116 (K : Kn) (a0 : Nat) (x1 : Int32) (x2 : Int32) (x3 : Int32) (x4 : Int32) (k49 : Mem → Int32 → Int64 → UInt64 → Int32 → Option (Int64 × Mem)) (m : Mem) (x5 : Int32) (x6 : Int64) (x8 : UInt64) (x10 : Int32) (x11 : Int64) : Option (Int64 × Mem) :=
  f_X9_value_121 K a0 x1 x2 x3 x4 k49 m x5 x6 x8 x10 x11 (1 : Int32)

def f_X9_value_120 (K : Kn) (a0 : Nat) (x1 : Int32) (x2 : Int32) (x3 : Int32) (x4 : Int32) (k49 : Mem → Int32 → Int64 → UInt64 → Int32 → Option (Int64 × Mem)) (m : Mem) (x5 : Int32) (x6 : Int64) (x8 : UInt64) (x10 : Int32) (x11 : Int64) : Option (Int64 × Mem) :=
  f_X9_value_121 K a0 x1 x2 x3 x4 k49 m x5 x6 x8 x10 x11 (0 : Int32)

def f_X9_value_100 (K : Kn) (a0 : Nat) (x1 : Int32) (x2 : Int32) (x3 : Int32) (x4 : Int32) (k49 : Mem → Int32 → Int64 → UInt64 → Int32 → Option (Int64 × Mem)) (m : Mem) (x5 : Int32) (x6 : Int64) (x8 : UInt64) (x10 : Int32) (x11 : Int64) : Option (Int64 × Mem) :=
  if x4 = (3 : Int32) then
    (F_X9_isLess x6 x11).bind fun q2 =>
    if q2 = 0 then
      f_X9_value_120 K a0 x1 x2 x3 x4 k49 m x5 x6 x8 x10 x11
    else
      f_X9_value_116 K a0 x1 x2 x3 x4 k49 m x5 x6 x8 x10 x11
  else
    f_X9_value_120 K a0 x1 x2 x3 x4 k49 m x5 x6 x8 x10 x11

def f_X9_value_49B (K : Kn) (a0 : Nat) (x1 : Int32) (x2 : Int32) (x3 : Int32) (x4 : Int32) (k49 : Mem → Int32 → Int64 → UInt64 → Int32 → Option (Int64 × Mem)) (m : Mem) (x5 : Int32) (x6 : Int64) (x8 : UInt64) (x10 : Int32) : Option (Int64 × Mem) :=
  if (gI m a0 37) ≤ x10 then
    if x5 = 0 then
      some ((9221120237041090560 : Int64), m)
    else
      if x4 = (4 : Int32) then
        (F_X9_told x8).bind fun q4 =>
        some (q4, m)
      else
        some (x6, m)
  else
    (ldA K m a0 31 1).bind fun b5 =>
    (alJ K m b5 x10).bind fun r6 =>
    (F_X9_isNumber r6).bind fun q7 =>
    if q7 = 0 then
      f_X9_value_155 K a0 x1 x2 x3 x4 k49 m x5 x6 x8 x10
    else
      if x4 = (1 : Int32) then
        f_X9_value_116 K a0 x1 x2 x3 x4 k49 m x5 x6 x8 x10 r6
      else
        if x4 = (2 : Int32) then
          (F_X9_isLess r6 x6).bind fun q11 =>
          if q11 = 0 then
            f_X9_value_100 K a0 x1 x2 x3 x4 k49 m x5 x6 x8 x10 r6
          else
            f_X9_value_116 K a0 x1 x2 x3 x4 k49 m x5 x6 x8 x10 r6
        else
          f_X9_value_100 K a0 x1 x2 x3 x4 k49 m x5 x6 x8 x10 r6

def f_X9_value_49 (K : Kn) (a0 : Nat) (x1 : Int32) (x2 : Int32) (x3 : Int32) (x4 : Int32) (n : Nat) : Mem → Int32 → Int64 → UInt64 → Int32 → Option (Int64 × Mem) := lpM (fun _ _ _ _ _ => none) (f_X9_value_49B K a0 x1 x2 x3 x4) n

def f_X9_value (K : Kn) (a0 : Nat) (x1 : Int32) (x2 : Int32) (x3 : Int32) (x4 : Int32) (m : Mem) : Option (Int64 × Mem) :=
  (F_X9_isSpan K m a0 x1 x2 x3).bind fun q1 =>
  if q1 = 0 then
    some ((9221120237041090560 : Int64), m)
  else
    (F_X9_in ((x4).toInt64) (0 : Int64) (4 : Int64)).bind fun q3 =>
    if q3 = 0 then
      some ((9221120237041090560 : Int64), m)
    else
      (F_X9_laysSpan K m a0 x1 x2 x3).bind fun q5 =>
      bd (gI q5 a0 36) fun z6 =>
      f_X9_value_49 K a0 x1 x2 x3 x4 FU q5 (0 : Int32) (0 : Int64) FP.dconst0 z6

def F_X9_value (K : Kn) (m : Mem) (a0 : Nat) (x1 : Int32) (x2 : Int32) (x3 : Int32) (x4 : Int32) : Option (Int64 × Mem) := f_X9_value K a0 x1 x2 x3 x4 m

def f_X9_above_83 (K : Kn) (a0 : Nat) (x1 : Int32) (x2 : Int32) (x3 : Int32) (x4 : Int64) (k39 : Mem → Int32 → Int32 → Option (Int32 × Mem)) (m : Mem) (x7 : Int32) (s0 : Int32) (s1 : Int32) : Option (Int32 × Mem) :=
  bd (s0 + s1) fun z1 =>
  bd (x7 + (1 : Int32)) fun z2 =>
  k39 m z1 z2

def f_X9_above_82 (K : Kn) (a0 : Nat) (x1 : Int32) (x2 : Int32) (x3 : Int32) (x4 : Int64) (k39 : Mem → Int32 → Int32 → Option (Int32 × Mem)) (m : Mem) (x7 : Int32) (s0 : Int32) : Option (Int32 × Mem) :=
  f_X9_above_83 K a0 x1 x2 x3 x4 k39 m x7 s0 (0 : Int32)

def f_X9_above_39B (K : Kn) (a0 : Nat) (x1 : Int32) (x2 : Int32) (x3 : Int32) (x4 : Int64) (k39 : Mem → Int32 → Int32 → Option (Int32 × Mem)) (m : Mem) (x6 : Int32) (x7 : Int32) : Option (Int32 × Mem) :=
  if (gI m a0 37) ≤ x7 then
    some (x6, m)
  else
    (ldA K m a0 31 1).bind fun b2 =>
    (alJ K m b2 x7).bind fun r3 =>
    (F_X9_isNumber r3).bind fun q4 =>
    if q4 = 0 then
      f_X9_above_82 K a0 x1 x2 x3 x4 k39 m x7 x6
    else
      (ldA K m a0 31 1).bind fun b6 =>
      (alJ K m b6 x7).bind fun r7 =>
      (F_X9_isLess x4 r7).bind fun q8 =>
      if q8 = 0 then
        f_X9_above_82 K a0 x1 x2 x3 x4 k39 m x7 x6
      else
        f_X9_above_83 K a0 x1 x2 x3 x4 k39 m x7 x6 (1 : Int32)

def f_X9_above_39 (K : Kn) (a0 : Nat) (x1 : Int32) (x2 : Int32) (x3 : Int32) (x4 : Int64) (n : Nat) : Mem → Int32 → Int32 → Option (Int32 × Mem) := lpM (fun _ _ _ => none) (f_X9_above_39B K a0 x1 x2 x3 x4) n

def f_X9_above (K : Kn) (a0 : Nat) (x1 : Int32) (x2 : Int32) (x3 : Int32) (x4 : Int64) (m : Mem) : Option (Int32 × Mem) :=
  (F_X9_isSpan K m a0 x1 x2 x3).bind fun q1 =>
  if q1 = 0 then
    some ((-2 : Int32), m)
  else
    (F_X9_isNumber x4).bind fun q3 =>
    if q3 = 0 then
      some ((-1 : Int32), m)
    else
      (F_X9_laysSpan K m a0 x1 x2 x3).bind fun q5 =>
      bd (gI q5 a0 36) fun z6 =>
      f_X9_above_39 K a0 x1 x2 x3 x4 FU q5 (0 : Int32) z6

def F_X9_above (K : Kn) (m : Mem) (a0 : Nat) (x1 : Int32) (x2 : Int32) (x3 : Int32) (x4 : Int64) : Option (Int32 × Mem) := f_X9_above K a0 x1 x2 x3 x4 m

def f_X9_counted_81 (K : Kn) (a0 : Nat) (x1 : Int32) (x2 : Int32) (k5 : Mem → Int32 → Int32 → Option (Int32 × Mem)) (m : Mem) (x3 : Int32) (x4 : Int32) : Option (Int32 × Mem) :=
  bd (x4 + (1 : Int32)) fun z1 =>
  k5 m x3 z1

def f_X9_counted_73 (K : Kn) (a0 : Nat) (x1 : Int32) (x2 : Int32) (k36 : Mem → Int32 → Int32 → Int32 → Option (Int32 × Mem)) (m : Mem) (x4 : Int32) (x5 : Int32) (s0 : Int32) (s1 : Int32) : Option (Int32 × Mem) :=
  bd (s0 + s1) fun z1 =>
  bd (x5 + (1 : Int32)) fun z2 =>
  k36 m z1 x4 z2

def f_X9_counted_68 (K : Kn) (a0 : Nat) (x1 : Int32) (x2 : Int32) (k36 : Mem → Int32 → Int32 → Int32 → Option (Int32 × Mem)) (m : Mem) (x4 : Int32) (x5 : Int32) (s0 : Int32) : Option (Int32 × Mem) :=
  f_X9_counted_73 K a0 x1 x2 k36 m x4 x5 s0 (1 : Int32)

def f_X9_counted_36B (K : Kn) (a0 : Nat) (x1 : Int32) (x2 : Int32) (k5 : Mem → Int32 → Int32 → Option (Int32 × Mem)) (k36 : Mem → Int32 → Int32 → Int32 → Option (Int32 × Mem)) (m : Mem) (x3 : Int32) (x4 : Int32) (x5 : Int32) : Option (Int32 × Mem) :=
  if (gI m a0 26) ≤ x5 then
    f_X9_counted_81 K a0 x1 x2 k5 m x3 x4
  else
    (ldA K m a0 24 0).bind fun b2 =>
    (alI K m b2 x5).bind fun r3 =>
    if r3 = x2 then
      f_X9_counted_68 K a0 x1 x2 k36 m x4 x5 x3
    else
      (ldA K m a0 25 0).bind fun b5 =>
      (alI K m b5 x5).bind fun r6 =>
      if r6 = x2 then
        f_X9_counted_68 K a0 x1 x2 k36 m x4 x5 x3
      else
        f_X9_counted_73 K a0 x1 x2 k36 m x4 x5 x3 (0 : Int32)

def f_X9_counted_36 (K : Kn) (a0 : Nat) (x1 : Int32) (x2 : Int32) (k5 : Mem → Int32 → Int32 → Option (Int32 × Mem)) (n : Nat) : Mem → Int32 → Int32 → Int32 → Option (Int32 × Mem) := lpM (fun _ _ _ _ => none) (fun k => f_X9_counted_36B K a0 x1 x2 k5 k) n

def f_X9_counted_5B (K : Kn) (a0 : Nat) (x1 : Int32) (x2 : Int32) (k5 : Mem → Int32 → Int32 → Option (Int32 × Mem)) (m : Mem) (x3 : Int32) (x4 : Int32) : Option (Int32 × Mem) :=
  (ldA K m a0 2 0).bind fun b1 =>
  (alI K m b1 x1).bind fun r2 =>
  if r2 ≤ x4 then
    some (x3, m)
  else
    (F_X9_isBroken K m a0 (((16 : Int32) * x1) + x4)).bind fun q4 =>
    if q4.1 = 0 then
      f_X9_counted_36 K a0 x1 x2 k5 FU q4.2 x3 x4 (1 : Int32)
    else
      f_X9_counted_81 K a0 x1 x2 k5 q4.2 x3 x4

def f_X9_counted_5 (K : Kn) (a0 : Nat) (x1 : Int32) (x2 : Int32) (n : Nat) : Mem → Int32 → Int32 → Option (Int32 × Mem) := lpM (fun _ _ _ => none) (f_X9_counted_5B K a0 x1 x2) n

def f_X9_counted (K : Kn) (a0 : Nat) (x1 : Int32) (x2 : Int32) (m : Mem) : Option (Int32 × Mem) :=
  f_X9_counted_5 K a0 x1 x2 FU m (0 : Int32) (0 : Int32)

def F_X9_counted (K : Kn) (m : Mem) (a0 : Nat) (x1 : Int32) (x2 : Int32) : Option (Int32 × Mem) := f_X9_counted K a0 x1 x2 m

def f_X9_ways_29 (K : Kn) (a0 : Nat) (x1 : Int32) (x2 : Int32) (m : Mem) : Option (Int32 × Mem) :=
  some ((-2 : Int32), m)

def f_X9_ways (K : Kn) (a0 : Nat) (x1 : Int32) (x2 : Int32) (m : Mem) : Option (Int32 × Mem) :=
  (F_X9_isSeries K m a0 x1).bind fun q1 =>
  if q1 = 0 then
    f_X9_ways_29 K a0 x1 x2 m
  else
    (F_X9_in ((x2).toInt64) (0 : Int64) (7 : Int64)).bind fun q3 =>
    if q3 = 0 then
      f_X9_ways_29 K a0 x1 x2 m
    else
      (F_X9_counted K m a0 x1 x2).bind fun q5 =>
      some (q5.1, q5.2)

def F_X9_ways (K : Kn) (m : Mem) (a0 : Nat) (x1 : Int32) (x2 : Int32) : Option (Int32 × Mem) := f_X9_ways K a0 x1 x2 m

def f_X9_window (K : Kn) (a0 : Nat) (x1 : Int32) (x2 : Int32) (m : Mem) : Option (Int32 × Mem) :=
  (F_X9_isSeries K m a0 x1).bind fun q1 =>
  if q1 = 0 then
    some ((-2 : Int32), m)
  else
    (F_X9_in ((x2).toInt64) (0 : Int64) (1 : Int64)).bind fun q3 =>
    if q3 = 0 then
      some ((-2 : Int32), m)
    else
      bd (sI m a0 19 (0 : Int32)) fun m5 =>
      (F_X9_opens K m5 a0 x1).bind fun q6 =>
      if (gI q6 a0 19) = 0 then
        some ((-1 : Int32), q6)
      else
        if x2 = 0 then
          some (gI q6 a0 17, q6)
        else
          some (gI q6 a0 18, q6)

def F_X9_window (K : Kn) (m : Mem) (a0 : Nat) (x1 : Int32) (x2 : Int32) : Option (Int32 × Mem) := f_X9_window K a0 x1 x2 m

def f_X9_gap_96 (K : Kn) (a0 : Nat) (x1 : Int32) (x2 : Int32) (k36 : Mem → Int64 → Int64 → Int32 → Option (Int32 × Mem)) (m : Mem) (x3 : Int64) (x5 : Int64) (x7 : Int32) : Option (Int32 × Mem) :=
  bd (x7 + (1 : Int32)) fun z1 =>
  k36 m x3 x5 z1

def f_X9_gap_124 (K : Kn) (a0 : Nat) (x1 : Int32) (x2 : Int32) (m : Mem) (s0 : Int64) : Option (Int32 × Mem) :=
  some ((s0).toInt32, m)

def f_X9_gap_36B (K : Kn) (a0 : Nat) (x1 : Int32) (x2 : Int32) (k36 : Mem → Int64 → Int64 → Int32 → Option (Int32 × Mem)) (m : Mem) (x3 : Int64) (x5 : Int64) (x7 : Int32) : Option (Int32 × Mem) :=
  if (gI m a0 33) ≤ x7 then
    if (2 : Int32) ≤ (gI m a0 33) then
      if x2 = 0 then
        f_X9_gap_124 K a0 x1 x2 m x3
      else
        f_X9_gap_124 K a0 x1 x2 m x5
    else
      some ((-1 : Int32), m)
  else
    (ldA K m a0 30 1).bind fun b4 =>
    (alJ K m b4 x7).bind fun r5 =>
    (ldA K m a0 30 1).bind fun b6 =>
    (alJ K m b6 (x7 - (1 : Int32))).bind fun r7 =>
    if (lg_cmp (r5 - r7) x3) ≤ 0 then
      f_X9_gap_96 K a0 x1 x2 k36 m x3 x5 x7
    else
      (ldA K m a0 30 1).bind fun b9 =>
      (alJ K m b9 x7).bind fun r10 =>
      (ldA K m a0 30 1).bind fun b11 =>
      (alJ K m b11 (x7 - (1 : Int32))).bind fun r12 =>
      bd (r10 - r12) fun z13 =>
      (ldA K m a0 30 1).bind fun b14 =>
      (alJ K m b14 (x7 - (1 : Int32))).bind fun r15 =>
      f_X9_gap_96 K a0 x1 x2 k36 m z13 r15 x7

def f_X9_gap_36 (K : Kn) (a0 : Nat) (x1 : Int32) (x2 : Int32) (n : Nat) : Mem → Int64 → Int64 → Int32 → Option (Int32 × Mem) := lpM (fun _ _ _ _ => none) (f_X9_gap_36B K a0 x1 x2) n

def f_X9_gap (K : Kn) (a0 : Nat) (x1 : Int32) (x2 : Int32) (m : Mem) : Option (Int32 × Mem) :=
  (F_X9_isSeries K m a0 x1).bind fun q1 =>
  if q1 = 0 then
    some ((-2 : Int32), m)
  else
    (F_X9_in ((x2).toInt64) (0 : Int64) (1 : Int64)).bind fun q3 =>
    if q3 = 0 then
      some ((-2 : Int32), m)
    else
      (F_X9_gathers K m a0 x1).bind fun q5 =>
      f_X9_gap_36 K a0 x1 x2 FU q5 (0 : Int64) (-1 : Int64) (1 : Int32)

def F_X9_gap (K : Kn) (m : Mem) (a0 : Nat) (x1 : Int32) (x2 : Int32) : Option (Int32 × Mem) := f_X9_gap K a0 x1 x2 m

def f_X9_row_166 (K : Kn) (a0 : Nat) (x1 : Int32) (x2 : Int32) (k34 : Mem → Int32 → Int32 → Int32 → Option (Int32 × Mem)) (m : Mem) (x3 : Int32) (x5 : Int32) (s0 : Int32) : Option (Int32 × Mem) :=
  (F_J9_max_7cf53 x3 s0).bind fun q1 =>
  bd (x5 + (1 : Int32)) fun z2 =>
  k34 m q1 s0 z2

def f_X9_row_161 (K : Kn) (a0 : Nat) (x1 : Int32) (x2 : Int32) (k34 : Mem → Int32 → Int32 → Int32 → Option (Int32 × Mem)) (m : Mem) (x3 : Int32) (x5 : Int32) : Option (Int32 × Mem) :=
  f_X9_row_166 K a0 x1 x2 k34 m x3 x5 (1 : Int32)

def f_X9_row_130 (K : Kn) (a0 : Nat) (x1 : Int32) (x2 : Int32) (k34 : Mem → Int32 → Int32 → Int32 → Option (Int32 × Mem)) (m : Mem) (x3 : Int32) (x4 : Int32) (x5 : Int32) (s0 : Int32) : Option (Int32 × Mem) :=
  if s0 = 0 then
    if x2 = 0 then
      f_X9_row_161 K a0 x1 x2 k34 m x3 x5
    else
      (ldA K m a0 31 1).bind fun b3 =>
      (alJ K m b3 x5).bind fun r4 =>
      (F_X9_isNumber r4).bind fun q5 =>
      if q5 = 0 then
        f_X9_row_166 K a0 x1 x2 k34 m x3 x5 (0 : Int32)
      else
        f_X9_row_161 K a0 x1 x2 k34 m x3 x5
  else
    f_X9_row_166 K a0 x1 x2 k34 m x3 x5 (x4 + (1 : Int32))

def f_X9_row_125 (K : Kn) (a0 : Nat) (x1 : Int32) (x2 : Int32) (k34 : Mem → Int32 → Int32 → Int32 → Option (Int32 × Mem)) (m : Mem) (x3 : Int32) (x4 : Int32) (x5 : Int32) : Option (Int32 × Mem) :=
  f_X9_row_130 K a0 x1 x2 k34 m x3 x4 x5 (1 : Int32)

def f_X9_row_129 (K : Kn) (a0 : Nat) (x1 : Int32) (x2 : Int32) (k34 : Mem → Int32 → Int32 → Int32 → Option (Int32 × Mem)) (m : Mem) (x3 : Int32) (x4 : Int32) (x5 : Int32) : Option (Int32 × Mem) :=
  f_X9_row_130 K a0 x1 x2 k34 m x3 x4 x5 (0 : Int32)

def f_X9_row_34B (K : Kn) (a0 : Nat) (x1 : Int32) (x2 : Int32) (k34 : Mem → Int32 → Int32 → Int32 → Option (Int32 × Mem)) (m : Mem) (x3 : Int32) (x4 : Int32) (x5 : Int32) : Option (Int32 × Mem) :=
  if (gI m a0 33) ≤ x5 then
    some (x3, m)
  else
    if x5 ≤ 0 then
      f_X9_row_129 K a0 x1 x2 k34 m x3 x4 x5
    else
      if x2 = 0 then
        (ldA K m a0 31 1).bind fun b4 =>
        (alJ K m b4 x5).bind fun r5 =>
        (ldA K m a0 31 1).bind fun b6 =>
        (alJ K m b6 (x5 - (1 : Int32))).bind fun r7 =>
        if (lg_cmp r5 r7) = 0 then
          f_X9_row_125 K a0 x1 x2 k34 m x3 x4 x5
        else
          f_X9_row_129 K a0 x1 x2 k34 m x3 x4 x5
      else
        (ldA K m a0 31 1).bind fun b9 =>
        (alJ K m b9 (x5 - (1 : Int32))).bind fun r10 =>
        (F_X9_isNumber r10).bind fun q11 =>
        if q11 = 0 then
          f_X9_row_129 K a0 x1 x2 k34 m x3 x4 x5
        else
          (ldA K m a0 31 1).bind fun b13 =>
          (alJ K m b13 x5).bind fun r14 =>
          (F_X9_isNumber r14).bind fun q15 =>
          if q15 = 0 then
            f_X9_row_129 K a0 x1 x2 k34 m x3 x4 x5
          else
            (ldA K m a0 31 1).bind fun b17 =>
            (alJ K m b17 (x5 - (1 : Int32))).bind fun r18 =>
            (ldA K m a0 31 1).bind fun b19 =>
            (alJ K m b19 x5).bind fun r20 =>
            (F_X9_isLess r18 r20).bind fun q21 =>
            if q21 = 0 then
              f_X9_row_129 K a0 x1 x2 k34 m x3 x4 x5
            else
              f_X9_row_125 K a0 x1 x2 k34 m x3 x4 x5

def f_X9_row_34 (K : Kn) (a0 : Nat) (x1 : Int32) (x2 : Int32) (n : Nat) : Mem → Int32 → Int32 → Int32 → Option (Int32 × Mem) := lpM (fun _ _ _ _ => none) (f_X9_row_34B K a0 x1 x2) n

def f_X9_row (K : Kn) (a0 : Nat) (x1 : Int32) (x2 : Int32) (m : Mem) : Option (Int32 × Mem) :=
  (F_X9_isSeries K m a0 x1).bind fun q1 =>
  if q1 = 0 then
    some ((-2 : Int32), m)
  else
    (F_X9_in ((x2).toInt64) (0 : Int64) (1 : Int64)).bind fun q3 =>
    if q3 = 0 then
      some ((-2 : Int32), m)
    else
      (F_X9_gathers K m a0 x1).bind fun q5 =>
      f_X9_row_34 K a0 x1 x2 FU q5 (0 : Int32) (0 : Int32) (0 : Int32)

def F_X9_row (K : Kn) (m : Mem) (a0 : Nat) (x1 : Int32) (x2 : Int32) : Option (Int32 × Mem) := f_X9_row K a0 x1 x2 m

def f_X9_areTwo_20 (K : Kn) (m : Mem) (a0 : Nat) (x1 : Int32) (x2 : Int32) : Option Int32 :=
  some (0 : Int32)

def f_X9_areTwo (K : Kn) (m : Mem) (a0 : Nat) (x1 : Int32) (x2 : Int32) : Option Int32 :=
  (F_X9_isSeries K m a0 x1).bind fun q1 =>
  if q1 = 0 then
    f_X9_areTwo_20 K m a0 x1 x2
  else
    (F_X9_isSeries K m a0 x2).bind fun q3 =>
    if q3 = 0 then
      f_X9_areTwo_20 K m a0 x1 x2
    else
      some (1 : Int32)

def F_X9_areTwo (K : Kn) (m : Mem) (a0 : Nat) (x1 : Int32) (x2 : Int32) : Option Int32 := f_X9_areTwo K m a0 x1 x2

def f_X9_gathersTwo_15B (K : Kn) (a0 : Nat) (x1 : Int32) (x2 : Int32) (k15 : Mem → Int32 → Option Mem) (m : Mem) (x3 : Int32) : Option Mem :=
  if (gI m a0 33) ≤ x3 then
    (F_X9_gathers K m a0 x1).bind fun q2 =>
    some q2
  else
    (ldA K m a0 38 1).bind fun b3 =>
    (ldA K m a0 30 1).bind fun b4 =>
    (alJ K m b4 x3).bind fun r5 =>
    (asJ K m b3 x3 r5).bind fun m6 =>
    (ldA K m6 a0 39 1).bind fun b7 =>
    (ldA K m6 a0 31 1).bind fun b8 =>
    (alJ K m6 b8 x3).bind fun r9 =>
    (asJ K m6 b7 x3 r9).bind fun m10 =>
    bd (x3 + (1 : Int32)) fun z11 =>
    k15 m10 z11

def f_X9_gathersTwo_15 (K : Kn) (a0 : Nat) (x1 : Int32) (x2 : Int32) (n : Nat) : Mem → Int32 → Option Mem := lpM (fun _ _ => none) (f_X9_gathersTwo_15B K a0 x1 x2) n

def f_X9_gathersTwo (K : Kn) (a0 : Nat) (x1 : Int32) (x2 : Int32) (m : Mem) : Option Mem :=
  (F_X9_gathers K m a0 x2).bind fun q1 =>
  bd (sI q1 a0 40 (gI q1 a0 33)) fun m2 =>
  f_X9_gathersTwo_15 K a0 x1 x2 FU m2 (0 : Int32)

def F_X9_gathersTwo (K : Kn) (m : Mem) (a0 : Nat) (x1 : Int32) (x2 : Int32) : Option Mem := f_X9_gathersTwo K a0 x1 x2 m

def f_X9_both_92 (K : Kn) (a0 : Nat) (x1 : Int32) (x2 : Int32) (x3 : Int32) (k34 : Mem → Int32 → Int32 → Option (Int32 × Mem)) (m : Mem) (x5 : Int32) (s0 : Int32) (s1 : Int32) : Option (Int32 × Mem) :=
  bd (s0 + s1) fun z1 =>
  bd (x5 + (1 : Int32)) fun z2 =>
  k34 m z1 z2

def f_X9_both_87 (K : Kn) (a0 : Nat) (x1 : Int32) (x2 : Int32) (x3 : Int32) (k34 : Mem → Int32 → Int32 → Option (Int32 × Mem)) (m : Mem) (x5 : Int32) (s0 : Int32) : Option (Int32 × Mem) :=
  f_X9_both_92 K a0 x1 x2 x3 k34 m x5 s0 (1 : Int32)

def f_X9_both_91 (K : Kn) (a0 : Nat) (x1 : Int32) (x2 : Int32) (x3 : Int32) (k34 : Mem → Int32 → Int32 → Option (Int32 × Mem)) (m : Mem) (x5 : Int32) (s0 : Int32) : Option (Int32 × Mem) :=
  f_X9_both_92 K a0 x1 x2 x3 k34 m x5 s0 (0 : Int32)

def f_X9_both_34B (K : Kn) (a0 : Nat) (x1 : Int32) (x2 : Int32) (x3 : Int32) (k34 : Mem → Int32 → Int32 → Option (Int32 × Mem)) (m : Mem) (x4 : Int32) (x5 : Int32) : Option (Int32 × Mem) :=
  if (gI m a0 40) ≤ x5 then
    some (x4, m)
  else
    (ldA K m a0 38 1).bind fun b2 =>
    (alJ K m b2 x5).bind fun r3 =>
    (F_X9_placeOf K m a0 ((r3).toInt32)).bind fun q4 =>
    if q4 = (-1 : Int32) then
      f_X9_both_91 K a0 x1 x2 x3 k34 m x5 x4
    else
      if x3 = 0 then
        f_X9_both_87 K a0 x1 x2 x3 k34 m x5 x4
      else
        (ldA K m a0 31 1).bind fun b7 =>
        (alJ K m b7 q4).bind fun r8 =>
        (ldA K m a0 39 1).bind fun b9 =>
        (alJ K m b9 x5).bind fun r10 =>
        if (lg_cmp r8 r10) = 0 then
          f_X9_both_87 K a0 x1 x2 x3 k34 m x5 x4
        else
          f_X9_both_91 K a0 x1 x2 x3 k34 m x5 x4

def f_X9_both_34 (K : Kn) (a0 : Nat) (x1 : Int32) (x2 : Int32) (x3 : Int32) (n : Nat) : Mem → Int32 → Int32 → Option (Int32 × Mem) := lpM (fun _ _ _ => none) (f_X9_both_34B K a0 x1 x2 x3) n

def f_X9_both (K : Kn) (a0 : Nat) (x1 : Int32) (x2 : Int32) (x3 : Int32) (m : Mem) : Option (Int32 × Mem) :=
  (F_X9_areTwo K m a0 x1 x2).bind fun q1 =>
  if q1 = 0 then
    some ((-2 : Int32), m)
  else
    (F_X9_in ((x3).toInt64) (0 : Int64) (1 : Int64)).bind fun q3 =>
    if q3 = 0 then
      some ((-2 : Int32), m)
    else
      (F_X9_gathersTwo K m a0 x1 x2).bind fun q5 =>
      f_X9_both_34 K a0 x1 x2 x3 FU q5 (0 : Int32) (0 : Int32)

def F_X9_both (K : Kn) (m : Mem) (a0 : Nat) (x1 : Int32) (x2 : Int32) (x3 : Int32) : Option (Int32 × Mem) := f_X9_both K a0 x1 x2 x3 m

def f_X9_differ_90 (K : Kn) (a0 : Nat) (x1 : Int32) (x2 : Int32) (m : Mem) (x3 : Int32) : Option (Int32 × Mem) :=
  if (gI m a0 33) ≤ x3 then
    if (gI m a0 40) ≤ x3 then
      some ((-1 : Int32), m)
    else
      (ldA K m a0 38 1).bind fun b3 =>
      (alJ K m b3 x3).bind fun r4 =>
      some ((r4).toInt32, m)
  else
    (ldA K m a0 30 1).bind fun b5 =>
    (alJ K m b5 x3).bind fun r6 =>
    some ((r6).toInt32, m)

def f_X9_differ_74 (K : Kn) (a0 : Nat) (x1 : Int32) (x2 : Int32) (m : Mem) (x3 : Int32) : Option (Int32 × Mem) :=
  if x3 = (gI m a0 33) then
    f_X9_differ_90 K a0 x1 x2 m x3
  else
    if x3 = (gI m a0 40) then
      f_X9_differ_90 K a0 x1 x2 m x3
    else
      (ldA K m a0 30 1).bind fun b3 =>
      (alJ K m b3 x3).bind fun r4 =>
      (ldA K m a0 38 1).bind fun b5 =>
      (alJ K m b5 x3).bind fun r6 =>
      (F_J9_min_f86c9 r4 r6).bind fun q7 =>
      some ((q7).toInt32, m)

def f_X9_differ_20B (K : Kn) (a0 : Nat) (x1 : Int32) (x2 : Int32) (k20 : Mem → Int32 → Option (Int32 × Mem)) (m : Mem) (x3 : Int32) : Option (Int32 × Mem) :=
  if (gI m a0 33) ≤ x3 then
    f_X9_differ_74 K a0 x1 x2 m x3
  else
    if (gI m a0 40) ≤ x3 then
      f_X9_differ_74 K a0 x1 x2 m x3
    else
      (ldA K m a0 30 1).bind fun b3 =>
      (alJ K m b3 x3).bind fun r4 =>
      (ldA K m a0 38 1).bind fun b5 =>
      (alJ K m b5 x3).bind fun r6 =>
      if (lg_cmp r4 r6) = 0 then
        (ldA K m a0 31 1).bind fun b8 =>
        (alJ K m b8 x3).bind fun r9 =>
        (ldA K m a0 39 1).bind fun b10 =>
        (alJ K m b10 x3).bind fun r11 =>
        if (lg_cmp r9 r11) = 0 then
          bd (x3 + (1 : Int32)) fun z13 =>
          k20 m z13
        else
          f_X9_differ_74 K a0 x1 x2 m x3
      else
        f_X9_differ_74 K a0 x1 x2 m x3

def f_X9_differ_20 (K : Kn) (a0 : Nat) (x1 : Int32) (x2 : Int32) (n : Nat) : Mem → Int32 → Option (Int32 × Mem) := lpM (fun _ _ => none) (f_X9_differ_20B K a0 x1 x2) n

def f_X9_differ (K : Kn) (a0 : Nat) (x1 : Int32) (x2 : Int32) (m : Mem) : Option (Int32 × Mem) :=
  (F_X9_areTwo K m a0 x1 x2).bind fun q1 =>
  if q1 = 0 then
    some ((-2 : Int32), m)
  else
    (F_X9_gathersTwo K m a0 x1 x2).bind fun q3 =>
    f_X9_differ_20 K a0 x1 x2 FU q3 (0 : Int32)

def F_X9_differ (K : Kn) (m : Mem) (a0 : Nat) (x1 : Int32) (x2 : Int32) : Option (Int32 × Mem) := f_X9_differ K a0 x1 x2 m

def f_X9_best_75 (K : Kn) (a0 : Nat) (x1 : Int32) (k35 : Mem → Int32 → Int32 → Int32 → Option (Int32 × Mem)) (m : Mem) (x2 : Int32) (x3 : Int32) (x4 : Int32) : Option (Int32 × Mem) :=
  bd (x4 + (1 : Int32)) fun z1 =>
  k35 m x2 x3 z1

def f_X9_best_66 (K : Kn) (a0 : Nat) (x1 : Int32) (k35 : Mem → Int32 → Int32 → Int32 → Option (Int32 × Mem)) (m : Mem) (x4 : Int32) : Option (Int32 × Mem) :=
  (F_X9_bytesOf K m a0 (4 : Int32)).bind fun q1 =>
  f_X9_best_75 K a0 x1 k35 m x4 q1 x4

def f_X9_best_35B (K : Kn) (a0 : Nat) (x1 : Int32) (k35 : Mem → Int32 → Int32 → Int32 → Option (Int32 × Mem)) (m : Mem) (x2 : Int32) (x3 : Int32) (x4 : Int32) : Option (Int32 × Mem) :=
  if (200 : Int32) < x4 then
    some (x2, m)
  else
    (F_X9_packs K m a0 x4).bind fun q2 =>
    if q2.1 = 0 then
      f_X9_best_75 K a0 x1 k35 q2.2 x2 x3 x4
    else
      if x2 = (-1 : Int32) then
        f_X9_best_66 K a0 x1 k35 q2.2 x4
      else
        (F_X9_bytesOf K q2.2 a0 (4 : Int32)).bind fun q5 =>
        if x3 ≤ q5 then
          f_X9_best_75 K a0 x1 k35 q2.2 x2 x3 x4
        else
          f_X9_best_66 K a0 x1 k35 q2.2 x4

def f_X9_best_35 (K : Kn) (a0 : Nat) (x1 : Int32) (n : Nat) : Mem → Int32 → Int32 → Int32 → Option (Int32 × Mem) := lpM (fun _ _ _ _ => none) (f_X9_best_35B K a0 x1) n

def f_X9_best (K : Kn) (a0 : Nat) (x1 : Int32) (m : Mem) : Option (Int32 × Mem) :=
  (F_X9_isSeries K m a0 x1).bind fun q1 =>
  if q1 = 0 then
    some ((-2 : Int32), m)
  else
    (F_X9_hasBroken K m a0 x1).bind fun q3 =>
    if q3.1 = 0 then
      (F_X9_gathers K q3.2 a0 x1).bind fun q5 =>
      f_X9_best_35 K a0 x1 FU q5 (-1 : Int32) (0 : Int32) (24 : Int32)
    else
      some ((-6 : Int32), q3.2)

def F_X9_best (K : Kn) (m : Mem) (a0 : Nat) (x1 : Int32) : Option (Int32 × Mem) := f_X9_best K a0 x1 m

def f_X9_thin_118 (K : Kn) (a0 : Nat) (x1 : Int32) (x2 : Int32) (k50 : Mem → Int32 → Int32 → Int32 → Option (Int32 × Mem)) (m : Mem) (x3 : Int32) (x4 : Int32) (x5 : Int32) : Option (Int32 × Mem) :=
  bd (x5 + (1 : Int32)) fun z1 =>
  k50 m x3 x4 z1

def f_X9_thin_87 (K : Kn) (a0 : Nat) (x1 : Int32) (x2 : Int32) (k50 : Mem → Int32 → Int32 → Int32 → Option (Int32 × Mem)) (m : Mem) (x3 : Int32) (x4 : Int32) (x5 : Int32) : Option (Int32 × Mem) :=
  (ldA K m a0 30 1).bind fun b1 =>
  (ldA K m a0 30 1).bind fun b2 =>
  (alJ K m b2 x5).bind fun r3 =>
  (asJ K m b1 x4 r3).bind fun m4 =>
  (ldA K m4 a0 31 1).bind fun b5 =>
  (ldA K m4 a0 31 1).bind fun b6 =>
  (alJ K m4 b6 x5).bind fun r7 =>
  (asJ K m4 b5 x4 r7).bind fun m8 =>
  bd (x4 + (1 : Int32)) fun z9 =>
  f_X9_thin_118 K a0 x1 x2 k50 m8 x3 z9 x5

def f_X9_thin_50B (K : Kn) (a0 : Nat) (x1 : Int32) (x2 : Int32) (k50 : Mem → Int32 → Int32 → Int32 → Option (Int32 × Mem)) (m : Mem) (x3 : Int32) (x4 : Int32) (x5 : Int32) : Option (Int32 × Mem) :=
  if x3 ≤ x5 then
    bd (sI m a0 33 x4) fun m2 =>
    (ldA K m2 a0 0 0).bind fun b3 =>
    (alI K m2 b3 x1).bind fun r4 =>
    (F_X9_lays K m2 a0 x1 r4).bind fun q5 =>
    if q5.1 = (-4 : Int32) then
      some ((-4 : Int32), q5.2)
    else
      some (x3 - x4, q5.2)
  else
    if x4 = 0 then
      f_X9_thin_87 K a0 x1 x2 k50 m x3 x4 x5
    else
      (ldA K m a0 30 1).bind fun b8 =>
      (alJ K m b8 x5).bind fun r9 =>
      gd (¬ (x2).toInt64 = 0) <|
      (ldA K m a0 30 1).bind fun b11 =>
      (alJ K m b11 (x4 - (1 : Int32))).bind fun r12 =>
      gd (¬ (x2).toInt64 = 0) <|
      if (lg_cmp (r9 / ((x2).toInt64)) (r12 / ((x2).toInt64))) = 0 then
        f_X9_thin_118 K a0 x1 x2 k50 m x3 x4 x5
      else
        f_X9_thin_87 K a0 x1 x2 k50 m x3 x4 x5

def f_X9_thin_50 (K : Kn) (a0 : Nat) (x1 : Int32) (x2 : Int32) (n : Nat) : Mem → Int32 → Int32 → Int32 → Option (Int32 × Mem) := lpM (fun _ _ _ _ => none) (f_X9_thin_50B K a0 x1 x2) n

def f_X9_thin (K : Kn) (a0 : Nat) (x1 : Int32) (x2 : Int32) (m : Mem) : Option (Int32 × Mem) :=
  (F_X9_isSeries K m a0 x1).bind fun q1 =>
  if q1 = 0 then
    some ((-2 : Int32), m)
  else
    (F_X9_in ((x2).toInt64) (1 : Int64) (1000000 : Int64)).bind fun q3 =>
    if q3 = 0 then
      some ((-2 : Int32), m)
    else
      (F_X9_hasBroken K m a0 x1).bind fun q5 =>
      if q5.1 = 0 then
        (F_X9_gathers K q5.2 a0 x1).bind fun q7 =>
        bd (gI q7 a0 33) fun z8 =>
        f_X9_thin_50 K a0 x1 x2 FU q7 z8 (0 : Int32) (0 : Int32)
      else
        some ((-6 : Int32), q5.2)

def F_X9_thin (K : Kn) (m : Mem) (a0 : Nat) (x1 : Int32) (x2 : Int32) : Option (Int32 × Mem) := f_X9_thin K a0 x1 x2 m

def f_X9_cuts_48B (K : Kn) (a0 : Nat) (x1 : Int32) (x2 : Int32) (x3 : Int32) (k48 : Mem → Int32 → Int32 → Option (Int32 × Mem)) (m : Mem) (x4 : Int32) (x5 : Int32) : Option (Int32 × Mem) :=
  if (gI m a0 33) ≤ x5 then
    bd (sI m a0 33 ((gI m a0 33) - x4)) fun m2 =>
    (ldA K m2 a0 0 0).bind fun b3 =>
    (alI K m2 b3 x1).bind fun r4 =>
    (F_X9_lays K m2 a0 x1 r4).bind fun q5 =>
    if q5.1 = (-4 : Int32) then
      some ((-4 : Int32), q5.2)
    else
      some (x4, q5.2)
  else
    (ldA K m a0 30 1).bind fun b7 =>
    (ldA K m a0 30 1).bind fun b8 =>
    (alJ K m b8 x5).bind fun r9 =>
    (asJ K m b7 (x5 - x4) r9).bind fun m10 =>
    (ldA K m10 a0 31 1).bind fun b11 =>
    (ldA K m10 a0 31 1).bind fun b12 =>
    (alJ K m10 b12 x5).bind fun r13 =>
    (asJ K m10 b11 (x5 - x4) r13).bind fun m14 =>
    bd (x5 + (1 : Int32)) fun z15 =>
    k48 m14 x4 z15

def f_X9_cuts_48 (K : Kn) (a0 : Nat) (x1 : Int32) (x2 : Int32) (x3 : Int32) (n : Nat) : Mem → Int32 → Int32 → Option (Int32 × Mem) := lpM (fun _ _ _ => none) (f_X9_cuts_48B K a0 x1 x2 x3) n

def f_X9_cuts (K : Kn) (a0 : Nat) (x1 : Int32) (x2 : Int32) (x3 : Int32) (m : Mem) : Option (Int32 × Mem) :=
  (F_X9_isSpan K m a0 x1 x2 x3).bind fun q1 =>
  if q1 = 0 then
    some ((-2 : Int32), m)
  else
    (F_X9_hasBroken K m a0 x1).bind fun q3 =>
    if q3.1 = 0 then
      (F_X9_laysSpan K q3.2 a0 x1 x2 x3).bind fun q5 =>
      bd ((gI q5 a0 37) - (gI q5 a0 36)) fun z6 =>
      bd (gI q5 a0 37) fun z7 =>
      f_X9_cuts_48 K a0 x1 x2 x3 FU q5 z6 z7
    else
      some ((-6 : Int32), q3.2)

def F_X9_cuts (K : Kn) (m : Mem) (a0 : Nat) (x1 : Int32) (x2 : Int32) (x3 : Int32) : Option (Int32 × Mem) := f_X9_cuts K a0 x1 x2 x3 m

def f_X9_join_94 (K : Kn) (a0 : Nat) (x1 : Int32) (x2 : Int32) (x3 : Int32) (k62 : Mem → Int32 → Int32 → Int32 → Option (Int32 × Mem)) (m : Mem) (x4 : Int32) (x6 : Int32) (s0 : Int32) (s1 : Int32) : Option (Int32 × Mem) :=
  bd (s0 + s1) fun z1 =>
  bd (x6 + (1 : Int32)) fun z2 =>
  k62 m x4 z1 z2

def f_X9_join_185 (K : Kn) (a0 : Nat) (x1 : Int32) (x2 : Int32) (x3 : Int32) (k124 : Mem → Int32 → Int32 → Int32 → Int32 → Option (Int32 × Mem)) (m : Mem) (x4 : Int32) (x5 : Int32) (x6 : Int32) (s0 : Int32) (s1 : Int32) : Option (Int32 × Mem) :=
  bd (s0 - s1) fun z1 =>
  bd (x4 + (-1 : Int32)) fun z2 =>
  bd (x6 + (-1 : Int32)) fun z3 =>
  (ldA K m a0 30 1).bind fun b4 =>
  (ldA K m a0 30 1).bind fun b5 =>
  (alJ K m b5 z2).bind fun r6 =>
  (asJ K m b4 z3 r6).bind fun m7 =>
  (ldA K m7 a0 31 1).bind fun b8 =>
  (ldA K m7 a0 31 1).bind fun b9 =>
  (alJ K m7 b9 z2).bind fun r10 =>
  (asJ K m7 b8 z3 r10).bind fun m11 =>
  k124 m11 z2 x5 z3 z1

def f_X9_join_225 (K : Kn) (a0 : Nat) (x1 : Int32) (x2 : Int32) (x3 : Int32) (k124 : Mem → Int32 → Int32 → Int32 → Int32 → Option (Int32 × Mem)) (m : Mem) (x4 : Int32) (x5 : Int32) (x6 : Int32) (x7 : Int32) : Option (Int32 × Mem) :=
  bd (x7 + (-1 : Int32)) fun z1 =>
  bd (x6 + (-1 : Int32)) fun z2 =>
  (ldA K m a0 30 1).bind fun b3 =>
  (ldA K m a0 38 1).bind fun b4 =>
  (alJ K m b4 z1).bind fun r5 =>
  (asJ K m b3 z2 r5).bind fun m6 =>
  (ldA K m6 a0 31 1).bind fun b7 =>
  (ldA K m6 a0 39 1).bind fun b8 =>
  (alJ K m6 b8 z1).bind fun r9 =>
  (asJ K m6 b7 z2 r9).bind fun m10 =>
  k124 m10 x4 x5 z2 z1

def f_X9_join_124B (K : Kn) (a0 : Nat) (x1 : Int32) (x2 : Int32) (x3 : Int32) (k124 : Mem → Int32 → Int32 → Int32 → Int32 → Option (Int32 × Mem)) (m : Mem) (x4 : Int32) (x5 : Int32) (x6 : Int32) (x7 : Int32) : Option (Int32 × Mem) :=
  if x7 ≤ 0 then
    bd (sI m a0 33 x5) fun m2 =>
    (ldA K m2 a0 0 0).bind fun b3 =>
    (alI K m2 b3 x1).bind fun r4 =>
    (F_X9_lays K m2 a0 x3 r4).bind fun q5 =>
    some (q5.1, q5.2)
  else
    if x4 ≤ 0 then
      f_X9_join_225 K a0 x1 x2 x3 k124 m x4 x5 x6 x7
    else
      (ldA K m a0 30 1).bind fun b7 =>
      (alJ K m b7 (x4 - (1 : Int32))).bind fun r8 =>
      (ldA K m a0 38 1).bind fun b9 =>
      (alJ K m b9 (x7 - (1 : Int32))).bind fun r10 =>
      if (lg_cmp r8 r10) < 0 then
        f_X9_join_225 K a0 x1 x2 x3 k124 m x4 x5 x6 x7
      else
        (ldA K m a0 30 1).bind fun b12 =>
        (alJ K m b12 (x4 - (1 : Int32))).bind fun r13 =>
        (ldA K m a0 38 1).bind fun b14 =>
        (alJ K m b14 (x7 - (1 : Int32))).bind fun r15 =>
        if (lg_cmp r13 r15) = 0 then
          f_X9_join_185 K a0 x1 x2 x3 k124 m x4 x5 x6 x7 (1 : Int32)
        else
          f_X9_join_185 K a0 x1 x2 x3 k124 m x4 x5 x6 x7 (0 : Int32)

def f_X9_join_124 (K : Kn) (a0 : Nat) (x1 : Int32) (x2 : Int32) (x3 : Int32) (n : Nat) : Mem → Int32 → Int32 → Int32 → Int32 → Option (Int32 × Mem) := lpM (fun _ _ _ _ _ => none) (f_X9_join_124B K a0 x1 x2 x3) n

def f_X9_join_62B (K : Kn) (a0 : Nat) (x1 : Int32) (x2 : Int32) (x3 : Int32) (k62 : Mem → Int32 → Int32 → Int32 → Option (Int32 × Mem)) (m : Mem) (x4 : Int32) (x5 : Int32) (x6 : Int32) : Option (Int32 × Mem) :=
  if (gI m a0 40) ≤ x6 then
    if x5 ≤ (12000 : Int32) then
      bd (gI m a0 40) fun z3 =>
      f_X9_join_124 K a0 x1 x2 x3 FU m x4 x5 x5 z3
    else
      some ((-4 : Int32), m)
  else
    (ldA K m a0 38 1).bind fun b4 =>
    (alJ K m b4 x6).bind fun r5 =>
    (F_X9_placeOf K m a0 ((r5).toInt32)).bind fun q6 =>
    if q6 = (-1 : Int32) then
      f_X9_join_94 K a0 x1 x2 x3 k62 m x4 x6 x5 (1 : Int32)
    else
      f_X9_join_94 K a0 x1 x2 x3 k62 m x4 x6 x5 (0 : Int32)

def f_X9_join_62 (K : Kn) (a0 : Nat) (x1 : Int32) (x2 : Int32) (x3 : Int32) (n : Nat) : Mem → Int32 → Int32 → Int32 → Option (Int32 × Mem) := lpM (fun _ _ _ _ => none) (f_X9_join_62B K a0 x1 x2 x3) n

def f_X9_join (K : Kn) (a0 : Nat) (x1 : Int32) (x2 : Int32) (x3 : Int32) (m : Mem) : Option (Int32 × Mem) :=
  (F_X9_areTwo K m a0 x1 x2).bind fun q1 =>
  if q1 = 0 then
    some ((-2 : Int32), m)
  else
    (F_X9_in ((x3).toInt64) (0 : Int64) (3 : Int64)).bind fun q3 =>
    if q3 = 0 then
      some ((-2 : Int32), m)
    else
      (F_X9_hasBroken K m a0 x1).bind fun q5 =>
      if q5.1 = 0 then
        (F_X9_hasBroken K q5.2 a0 x2).bind fun q7 =>
        if q7.1 = 0 then
          (F_X9_gathersTwo K q7.2 a0 x1 x2).bind fun q9 =>
          bd (gI q9 a0 33) fun z10 =>
          f_X9_join_62 K a0 x1 x2 x3 FU q9 z10 z10 (0 : Int32)
        else
          some ((-6 : Int32), q7.2)
      else
        some ((-6 : Int32), q5.2)

def F_X9_join (K : Kn) (m : Mem) (a0 : Nat) (x1 : Int32) (x2 : Int32) (x3 : Int32) : Option (Int32 × Mem) := f_X9_join K a0 x1 x2 x3 m

def f_X9_lessens_80 (K : Kn) (a0 : Nat) (x1 : Int32) (k4 : Mem → Int32 → Int32 → Option (Int32 × Mem)) (m : Mem) (x3 : Int32) (x5 : Int64) (s0 : Int32) (s1 : Int32) : Option (Int32 × Mem) :=
  bd (s0 + s1) fun z1 =>
  (ldA K m a0 31 1).bind fun b2 =>
  (asJ K m b2 x3 x5).bind fun m3 =>
  bd (x3 + (1 : Int32)) fun z4 =>
  k4 m3 z1 z4

def f_X9_lessens_60 (K : Kn) (a0 : Nat) (x1 : Int32) (k4 : Mem → Int32 → Int32 → Option (Int32 × Mem)) (m : Mem) (x2 : Int32) (x3 : Int32) (s0 : Int64) : Option (Int32 × Mem) :=
  (ldA K m a0 31 1).bind fun b1 =>
  (alJ K m b1 x3).bind fun r2 =>
  if (lg_cmp s0 r2) = 0 then
    f_X9_lessens_80 K a0 x1 k4 m x3 s0 x2 (0 : Int32)
  else
    f_X9_lessens_80 K a0 x1 k4 m x3 s0 x2 (1 : Int32)

def f_X9_lessens_34 (K : Kn) (a0 : Nat) (x1 : Int32) (k4 : Mem → Int32 → Int32 → Option (Int32 × Mem)) (m : Mem) (x2 : Int32) (x3 : Int32) (s0 : Int32) : Option (Int32 × Mem) :=
  if s0 = 0 then
    (ldA K m a0 31 1).bind fun b2 =>
    (alJ K m b2 x3).bind fun r3 =>
    f_X9_lessens_60 K a0 x1 k4 m x2 x3 r3
  else
    (ldA K m a0 31 1).bind fun b4 =>
    (alJ K m b4 x3).bind fun r5 =>
    f_X9_lessens_60 K a0 x1 k4 m x2 x3 (lshl (lshr r5 x1) x1)

def f_X9_lessens_4B (K : Kn) (a0 : Nat) (x1 : Int32) (k4 : Mem → Int32 → Int32 → Option (Int32 × Mem)) (m : Mem) (x2 : Int32) (x3 : Int32) : Option (Int32 × Mem) :=
  if (gI m a0 33) ≤ x3 then
    some (x2, m)
  else
    (ldA K m a0 31 1).bind fun b2 =>
    (alJ K m b2 x3).bind fun r3 =>
    if (lg_cmp (r3 &&& (9218868437227405312 : Int64)) (9218868437227405312 : Int64)) = 0 then
      f_X9_lessens_34 K a0 x1 k4 m x2 x3 (0 : Int32)
    else
      f_X9_lessens_34 K a0 x1 k4 m x2 x3 (1 : Int32)

def f_X9_lessens_4 (K : Kn) (a0 : Nat) (x1 : Int32) (n : Nat) : Mem → Int32 → Int32 → Option (Int32 × Mem) := lpM (fun _ _ _ => none) (f_X9_lessens_4B K a0 x1) n

def f_X9_lessens (K : Kn) (a0 : Nat) (x1 : Int32) (m : Mem) : Option (Int32 × Mem) :=
  f_X9_lessens_4 K a0 x1 FU m (0 : Int32) (0 : Int32)

def F_X9_lessens (K : Kn) (m : Mem) (a0 : Nat) (x1 : Int32) : Option (Int32 × Mem) := f_X9_lessens K a0 x1 m

def f_X9_rounds (K : Kn) (a0 : Nat) (x1 : Int32) (x2 : Int32) (m : Mem) : Option (Int32 × Mem) :=
  (F_X9_isSeries K m a0 x1).bind fun q1 =>
  if q1 = 0 then
    some ((-2 : Int32), m)
  else
    (F_X9_in ((x2).toInt64) (1 : Int64) (52 : Int64)).bind fun q3 =>
    if q3 = 0 then
      some ((-2 : Int32), m)
    else
      (F_X9_hasBroken K m a0 x1).bind fun q5 =>
      if q5.1 = 0 then
        (F_X9_gathers K q5.2 a0 x1).bind fun q7 =>
        (F_X9_lessens K q7 a0 x2).bind fun q8 =>
        bd (q8.1) fun z9 =>
        (ldA K q8.2 a0 0 0).bind fun b10 =>
        (alI K q8.2 b10 x1).bind fun r11 =>
        (F_X9_lays K q8.2 a0 x1 r11).bind fun q12 =>
        if q12.1 = (-4 : Int32) then
          some ((-4 : Int32), q12.2)
        else
          some (z9, q12.2)
      else
        some ((-6 : Int32), q5.2)

def F_X9_rounds (K : Kn) (m : Mem) (a0 : Nat) (x1 : Int32) (x2 : Int32) : Option (Int32 × Mem) := f_X9_rounds K a0 x1 x2 m

def f_X9_rounded (K : Kn) (a0 : Nat) (x1 : Int32) (x2 : Int32) (m : Mem) : Option (Int32 × Mem) :=
  (F_X9_isSeries K m a0 x1).bind fun q1 =>
  if q1 = 0 then
    some ((-2 : Int32), m)
  else
    (F_X9_in ((x2).toInt64) (1 : Int64) (52 : Int64)).bind fun q3 =>
    if q3 = 0 then
      some ((-2 : Int32), m)
    else
      (F_X9_hasBroken K m a0 x1).bind fun q5 =>
      if q5.1 = 0 then
        (F_X9_gathers K q5.2 a0 x1).bind fun q7 =>
        (F_X9_lessens K q7 a0 x2).bind fun q8 =>
        (ldA K q8.2 a0 0 0).bind fun b9 =>
        (alI K q8.2 b9 x1).bind fun r10 =>
        (F_X9_packs K q8.2 a0 r10).bind fun q11 =>
        if q11.1 = 0 then
          some ((-4 : Int32), q11.2)
        else
          (F_X9_bytesOf K q11.2 a0 (4 : Int32)).bind fun q13 =>
          some (q13, q11.2)
      else
        some ((-6 : Int32), q5.2)

def F_X9_rounded (K : Kn) (m : Mem) (a0 : Nat) (x1 : Int32) (x2 : Int32) : Option (Int32 × Mem) := f_X9_rounded K a0 x1 x2 m

def f_X9_dearest_104 (K : Kn) (a0 : Nat) (x1 : Int32) (x2 : Int32) (k29 : Mem → Int32 → Int32 → Int32 → Option (Int32 × Mem)) (m : Mem) (x3 : Int32) (x4 : Int32) (x5 : Int32) : Option (Int32 × Mem) :=
  bd (x5 + (1 : Int32)) fun z1 =>
  k29 m x3 x4 z1

def f_X9_dearest_98 (K : Kn) (a0 : Nat) (x1 : Int32) (x2 : Int32) (k60 : Mem → Int32 → Int32 → Int32 → Int32 → Option (Int32 × Mem)) (m : Mem) (x3 : Int32) (x4 : Int32) (x5 : Int32) (x6 : Int32) : Option (Int32 × Mem) :=
  bd (x6 + (1 : Int32)) fun z1 =>
  k60 m x3 x4 x5 z1

def f_X9_dearest_60B (K : Kn) (a0 : Nat) (x1 : Int32) (x2 : Int32) (k29 : Mem → Int32 → Int32 → Int32 → Option (Int32 × Mem)) (k60 : Mem → Int32 → Int32 → Int32 → Int32 → Option (Int32 × Mem)) (m : Mem) (x3 : Int32) (x4 : Int32) (x5 : Int32) (x6 : Int32) : Option (Int32 × Mem) :=
  if (gI m a0 26) ≤ x6 then
    f_X9_dearest_104 K a0 x1 x2 k29 m x3 x4 x5
  else
    (ldA K m a0 23 0).bind fun b2 =>
    (alI K m b2 x6).bind fun r3 =>
    if r3 ≤ x3 then
      f_X9_dearest_98 K a0 x1 x2 k60 m x3 x4 x5 x6
    else
      (ldA K m a0 23 0).bind fun b5 =>
      (alI K m b5 x6).bind fun r6 =>
      (ldA K m a0 21 1).bind fun b7 =>
      (alJ K m b7 x6).bind fun r8 =>
      bd ((r8).toInt32) fun z9 =>
      f_X9_dearest_98 K a0 x1 x2 k60 m r6 z9 x5 x6

def f_X9_dearest_60 (K : Kn) (a0 : Nat) (x1 : Int32) (x2 : Int32) (k29 : Mem → Int32 → Int32 → Int32 → Option (Int32 × Mem)) (n : Nat) : Mem → Int32 → Int32 → Int32 → Int32 → Option (Int32 × Mem) := lpM (fun _ _ _ _ _ => none) (fun k => f_X9_dearest_60B K a0 x1 x2 k29 k) n

def f_X9_dearest_29B (K : Kn) (a0 : Nat) (x1 : Int32) (x2 : Int32) (k29 : Mem → Int32 → Int32 → Int32 → Option (Int32 × Mem)) (m : Mem) (x3 : Int32) (x4 : Int32) (x5 : Int32) : Option (Int32 × Mem) :=
  (ldA K m a0 2 0).bind fun b1 =>
  (alI K m b1 x1).bind fun r2 =>
  if r2 ≤ x5 then
    if x4 = (-1 : Int32) then
      some ((-1 : Int32), m)
    else
      if x2 = 0 then
        some (x4, m)
      else
        some (x3, m)
  else
    (F_X9_isBroken K m a0 (((16 : Int32) * x1) + x5)).bind fun q6 =>
    if q6.1 = 0 then
      f_X9_dearest_60 K a0 x1 x2 k29 FU q6.2 x3 x4 x5 (1 : Int32)
    else
      f_X9_dearest_104 K a0 x1 x2 k29 q6.2 x3 x4 x5

def f_X9_dearest_29 (K : Kn) (a0 : Nat) (x1 : Int32) (x2 : Int32) (n : Nat) : Mem → Int32 → Int32 → Int32 → Option (Int32 × Mem) := lpM (fun _ _ _ _ => none) (f_X9_dearest_29B K a0 x1 x2) n

def f_X9_dearest (K : Kn) (a0 : Nat) (x1 : Int32) (x2 : Int32) (m : Mem) : Option (Int32 × Mem) :=
  (F_X9_isSeries K m a0 x1).bind fun q1 =>
  if q1 = 0 then
    some ((-2 : Int32), m)
  else
    (F_X9_in ((x2).toInt64) (0 : Int64) (1 : Int64)).bind fun q3 =>
    if q3 = 0 then
      some ((-2 : Int32), m)
    else
      f_X9_dearest_29 K a0 x1 x2 FU m (0 : Int32) (-1 : Int32) (0 : Int32)

def F_X9_dearest (K : Kn) (m : Mem) (a0 : Nat) (x1 : Int32) (x2 : Int32) : Option (Int32 × Mem) := f_X9_dearest K a0 x1 x2 m

def f_X9_where (K : Kn) (a0 : Nat) (x1 : Int32) (x2 : Int32) (m : Mem) : Option (Int32 × Mem) :=
  (F_X9_isAsked K m a0 x1 x2).bind fun q1 =>
  if q1 = 0 then
    some ((-2 : Int32), m)
  else
    (F_X9_gathers K m a0 x1).bind fun q3 =>
    (F_X9_placeOf K q3 a0 x2).bind fun q4 =>
    if q4 = (-1 : Int32) then
      some ((-1 : Int32), q3)
    else
      (ldA K q3 a0 32 0).bind fun b6 =>
      (alI K q3 b6 q4).bind fun r7 =>
      some (r7, q3)

def F_X9_where (K : Kn) (m : Mem) (a0 : Nat) (x1 : Int32) (x2 : Int32) : Option (Int32 × Mem) := f_X9_where K a0 x1 x2 m

def f_X9_copy (K : Kn) (a0 : Nat) (x1 : Int32) (x2 : Int32) (m : Mem) : Option (Int32 × Mem) :=
  (F_X9_isSeries K m a0 x1).bind fun q1 =>
  if q1 = 0 then
    some ((-2 : Int32), m)
  else
    (F_X9_in ((x2).toInt64) (0 : Int64) (3 : Int64)).bind fun q3 =>
    if q3 = 0 then
      some ((-2 : Int32), m)
    else
      (F_X9_copiesTo K m a0 x1 x2).bind fun q5 =>
      some ((0 : Int32), q5)

def F_X9_copy (K : Kn) (m : Mem) (a0 : Nat) (x1 : Int32) (x2 : Int32) : Option (Int32 × Mem) := f_X9_copy K a0 x1 x2 m

def f_X9_mendsOf_126 (K : Kn) (a0 : Nat) (x1 : Int32) (x2 : Int32) (k42 : Mem → Int32 → Int32 → Int32 → Int32 → Option (Int32 × Mem)) (m : Mem) (x3 : Int32) (x4 : Int32) (x5 : Int32) (x6 : Int32) : Option (Int32 × Mem) :=
  bd (x6 + (1 : Int32)) fun z1 =>
  k42 m x3 x4 x5 z1

def f_X9_mendsOf_120 (K : Kn) (a0 : Nat) (x1 : Int32) (x2 : Int32) (k42 : Mem → Int32 → Int32 → Int32 → Int32 → Option (Int32 × Mem)) (m : Mem) (x3 : Int32) (x4 : Int32) (x5 : Int32) (x6 : Int32) (sa0 : Nat) (s1 : Int32) : Option (Int32 × Mem) :=
  bd (sI m sa0 35 s1) fun m1 =>
  bd (x3 + (1 : Int32)) fun z2 =>
  f_X9_mendsOf_126 K a0 x1 x2 k42 m1 z2 x4 x5 x6

def f_X9_mendsOf_102 (K : Kn) (a0 : Nat) (x1 : Int32) (x2 : Int32) (k42 : Mem → Int32 → Int32 → Int32 → Int32 → Option (Int32 × Mem)) (m : Mem) (x3 : Int32) (x4 : Int32) (x5 : Int32) (x6 : Int32) (sa0 : Nat) (s1 : Int32) : Option (Int32 × Mem) :=
  bd (sI m sa0 34 s1) fun m1 =>
  if x3 = x2 then
    f_X9_mendsOf_120 K a0 x1 x2 k42 m1 x3 x4 x5 x6 a0 x6
  else
    f_X9_mendsOf_120 K a0 x1 x2 k42 m1 x3 x4 x5 x6 a0 (gI m1 a0 35)

def f_X9_mendsOf_42B (K : Kn) (a0 : Nat) (x1 : Int32) (x2 : Int32) (k19 : Mem → Int32 → Int32 → Option (Int32 × Mem)) (k42 : Mem → Int32 → Int32 → Int32 → Int32 → Option (Int32 × Mem)) (m : Mem) (x3 : Int32) (x4 : Int32) (x5 : Int32) (x6 : Int32) : Option (Int32 × Mem) :=
  if (256 : Int32) ≤ x6 then
    (ldA K m a0 3 0).bind fun b2 =>
    (asI K m b2 (((200 : Int32) * x1) + x4) x5).bind fun m3 =>
    bd (x4 + (1 : Int32)) fun z4 =>
    k19 m3 x3 z4
  else
    if x6 = x5 then
      f_X9_mendsOf_126 K a0 x1 x2 k42 m x3 x4 x5 x6
    else
      (ldA K m a0 3 0).bind fun b6 =>
      (asI K m b6 (((200 : Int32) * x1) + x4) x6).bind fun m7 =>
      (F_X9_reads K m7 a0 x1).bind fun q8 =>
      if (gI q8 a0 27) = 0 then
        if x3 = x2 then
          f_X9_mendsOf_102 K a0 x1 x2 k42 q8 x3 x4 x5 x6 a0 x4
        else
          f_X9_mendsOf_102 K a0 x1 x2 k42 q8 x3 x4 x5 x6 a0 (gI q8 a0 34)
      else
        f_X9_mendsOf_126 K a0 x1 x2 k42 q8 x3 x4 x5 x6

def f_X9_mendsOf_42 (K : Kn) (a0 : Nat) (x1 : Int32) (x2 : Int32) (k19 : Mem → Int32 → Int32 → Option (Int32 × Mem)) (n : Nat) : Mem → Int32 → Int32 → Int32 → Int32 → Option (Int32 × Mem) := lpM (fun _ _ _ _ _ => none) (fun k => f_X9_mendsOf_42B K a0 x1 x2 k19 k) n

def f_X9_mendsOf_19B (K : Kn) (a0 : Nat) (x1 : Int32) (x2 : Int32) (k19 : Mem → Int32 → Int32 → Option (Int32 × Mem)) (m : Mem) (x3 : Int32) (x4 : Int32) : Option (Int32 × Mem) :=
  (ldA K m a0 4 0).bind fun b1 =>
  (alI K m b1 x1).bind fun r2 =>
  if r2 ≤ x4 then
    some (x3, m)
  else
    (F_X9_byteAt K m a0 x1 x4).bind fun q4 =>
    f_X9_mendsOf_42 K a0 x1 x2 k19 FU m x3 x4 q4 (0 : Int32)

def f_X9_mendsOf_19 (K : Kn) (a0 : Nat) (x1 : Int32) (x2 : Int32) (n : Nat) : Mem → Int32 → Int32 → Option (Int32 × Mem) := lpM (fun _ _ _ => none) (f_X9_mendsOf_19B K a0 x1 x2) n

def f_X9_mendsOf (K : Kn) (a0 : Nat) (x1 : Int32) (x2 : Int32) (m : Mem) : Option (Int32 × Mem) :=
  (F_X9_reads K m a0 x1).bind fun q1 =>
  if (gI q1 a0 27) = 0 then
    some ((0 : Int32), q1)
  else
    f_X9_mendsOf_19 K a0 x1 x2 FU q1 (0 : Int32) (0 : Int32)

def F_X9_mendsOf (K : Kn) (m : Mem) (a0 : Nat) (x1 : Int32) (x2 : Int32) : Option (Int32 × Mem) := f_X9_mendsOf K a0 x1 x2 m

def f_X9_mends (K : Kn) (a0 : Nat) (x1 : Int32) (x2 : Int32) (m : Mem) : Option (Int32 × Mem) :=
  (F_X9_isBlock K m a0 x1 x2).bind fun q1 =>
  if q1 = 0 then
    some ((-2 : Int32), m)
  else
    (F_X9_mendsOf K m a0 (((16 : Int32) * x1) + x2) (-1 : Int32)).bind fun q3 =>
    some (q3.1, q3.2)

def F_X9_mends (K : Kn) (m : Mem) (a0 : Nat) (x1 : Int32) (x2 : Int32) : Option (Int32 × Mem) := f_X9_mends K a0 x1 x2 m

def f_X9_mend (K : Kn) (a0 : Nat) (x1 : Int32) (x2 : Int32) (x3 : Int32) (x4 : Int32) (m : Mem) : Option (Int32 × Mem) :=
  (F_X9_isBlock K m a0 x1 x2).bind fun q1 =>
  if q1 = 0 then
    some ((-2 : Int32), m)
  else
    (F_X9_in ((x4).toInt64) (0 : Int64) (1 : Int64)).bind fun q3 =>
    if q3 = 0 then
      some ((-2 : Int32), m)
    else
      (F_X9_mendsOf K m a0 (((16 : Int32) * x1) + x2) x3).bind fun q5 =>
      bd (q5.1) fun z6 =>
      (F_X9_in ((x3).toInt64) (0 : Int64) ((z6 - (1 : Int32)).toInt64)).bind fun q7 =>
      if q7 = 0 then
        some ((-1 : Int32), q5.2)
      else
        if x4 = 0 then
          some (gI q5.2 a0 34, q5.2)
        else
          some (gI q5.2 a0 35, q5.2)

def F_X9_mend (K : Kn) (m : Mem) (a0 : Nat) (x1 : Int32) (x2 : Int32) (x3 : Int32) (x4 : Int32) : Option (Int32 × Mem) := f_X9_mend K a0 x1 x2 x3 x4 m

def f_X9_seals (K : Kn) (a0 : Nat) (x1 : Int32) (m : Mem) : Option (Int32 × Mem) :=
  (F_X9_isSeries K m a0 x1).bind fun q1 =>
  if q1 = 0 then
    some ((-2 : Int32), m)
  else
    (ldA K m a0 2 0).bind fun b3 =>
    (alI K m b3 x1).bind fun r4 =>
    bd ((((16 : Int32) * x1) + r4) - (1 : Int32)) fun z5 =>
    (ldA K m a0 2 0).bind fun b6 =>
    (alI K m b6 x1).bind fun r7 =>
    if r7 = 0 then
      some ((-5 : Int32), m)
    else
      (ldA K m a0 6 2).bind fun b9 =>
      (alI K m b9 z5).bind fun r10 =>
      if r10 = 0 then
        (F_X9_reads K m a0 z5).bind fun q12 =>
        (F_X9_seals0 K q12 a0 z5).bind fun q13 =>
        (ldA K q13 a0 4 0).bind fun b14 =>
        (alI K q13 b14 z5).bind fun r15 =>
        some (r15, q13)
      else
        some ((-5 : Int32), m)

def F_X9_seals (K : Kn) (m : Mem) (a0 : Nat) (x1 : Int32) : Option (Int32 × Mem) := f_X9_seals K a0 x1 m

def f_X9_drops_47B (K : Kn) (a0 : Nat) (x1 : Int32) (x2 : Int32) (k29 : Mem → Int32 → Option (Int32 × Mem)) (k47 : Mem → Int32 → Int32 → Option (Int32 × Mem)) (m : Mem) (x3 : Int32) (x4 : Int32) : Option (Int32 × Mem) :=
  if (200 : Int32) ≤ x4 then
    (ldA K m a0 4 0).bind fun b2 =>
    (ldA K m a0 4 0).bind fun b3 =>
    (alI K m b3 (x3 + (1 : Int32))).bind fun r4 =>
    (asI K m b2 x3 r4).bind fun m5 =>
    (ldA K m5 a0 5 0).bind fun b6 =>
    (ldA K m5 a0 5 0).bind fun b7 =>
    (alI K m5 b7 (x3 + (1 : Int32))).bind fun r8 =>
    (asI K m5 b6 x3 r8).bind fun m9 =>
    (ldA K m9 a0 6 2).bind fun b10 =>
    (ldA K m9 a0 6 2).bind fun b11 =>
    (alI K m9 b11 (x3 + (1 : Int32))).bind fun r12 =>
    (asZ K m9 b10 x3 r12).bind fun m13 =>
    (ldA K m13 a0 7 0).bind fun b14 =>
    (ldA K m13 a0 7 0).bind fun b15 =>
    (alI K m13 b15 (x3 + (1 : Int32))).bind fun r16 =>
    (asI K m13 b14 x3 r16).bind fun m17 =>
    (ldA K m17 a0 8 0).bind fun b18 =>
    (ldA K m17 a0 8 0).bind fun b19 =>
    (alI K m17 b19 (x3 + (1 : Int32))).bind fun r20 =>
    (asI K m17 b18 x3 r20).bind fun m21 =>
    bd (x3 + (1 : Int32)) fun z22 =>
    k29 m21 z22
  else
    (ldA K m a0 3 0).bind fun b23 =>
    (ldA K m a0 3 0).bind fun b24 =>
    (alI K m b24 (((200 : Int32) * (x3 + (1 : Int32))) + x4)).bind fun r25 =>
    (asI K m b23 (((200 : Int32) * x3) + x4) r25).bind fun m26 =>
    bd (x4 + (1 : Int32)) fun z27 =>
    k47 m26 x3 z27

def f_X9_drops_47 (K : Kn) (a0 : Nat) (x1 : Int32) (x2 : Int32) (k29 : Mem → Int32 → Option (Int32 × Mem)) (n : Nat) : Mem → Int32 → Int32 → Option (Int32 × Mem) := lpM (fun _ _ _ => none) (fun k => f_X9_drops_47B K a0 x1 x2 k29 k) n

def f_X9_drops_29B (K : Kn) (a0 : Nat) (x1 : Int32) (x2 : Int32) (k29 : Mem → Int32 → Option (Int32 × Mem)) (m : Mem) (x3 : Int32) : Option (Int32 × Mem) :=
  (ldA K m a0 2 0).bind fun b1 =>
  (alI K m b1 x1).bind fun r2 =>
  if (((16 : Int32) * x1) + r2) ≤ x3 then
    (ldA K m a0 2 0).bind fun b4 =>
    (alI K m b4 x1).bind fun r5 =>
    some (r5, m)
  else
    f_X9_drops_47 K a0 x1 x2 k29 FU m x3 (0 : Int32)

def f_X9_drops_29 (K : Kn) (a0 : Nat) (x1 : Int32) (x2 : Int32) (n : Nat) : Mem → Int32 → Option (Int32 × Mem) := lpM (fun _ _ => none) (f_X9_drops_29B K a0 x1 x2) n

def f_X9_drops (K : Kn) (a0 : Nat) (x1 : Int32) (x2 : Int32) (m : Mem) : Option (Int32 × Mem) :=
  (F_X9_isBlock K m a0 x1 x2).bind fun q1 =>
  if q1 = 0 then
    some ((-2 : Int32), m)
  else
    (ldA K m a0 2 0).bind fun b3 =>
    (alI K m b3 x1).bind fun r4 =>
    (asI K m b3 x1 (r4 - (1 : Int32))).bind fun m5 =>
    bd (((16 : Int32) * x1) + x2) fun z6 =>
    f_X9_drops_29 K a0 x1 x2 FU m5 z6

def F_X9_drops (K : Kn) (m : Mem) (a0 : Nat) (x1 : Int32) (x2 : Int32) : Option (Int32 × Mem) := f_X9_drops K a0 x1 x2 m

def f_X9_least_151 (K : Kn) (a0 : Nat) (x1 : Int32) (x2 : Int32) (x3 : Int32) (x4 : Int32) (k50 : Mem → Int32 → Int32 → Int32 → Option (Int64 × Mem)) (m : Mem) (x5 : Int32) (x7 : Int32) (s0 : Int32) (s1 : Int32) : Option (Int64 × Mem) :=
  bd (s0 + s1) fun z1 =>
  bd (x7 + (1 : Int32)) fun z2 =>
  k50 m x5 z1 z2

def f_X9_least_137 (K : Kn) (a0 : Nat) (x1 : Int32) (x2 : Int32) (x3 : Int32) (x4 : Int32) (k50 : Mem → Int32 → Int32 → Int32 → Option (Int64 × Mem)) (m : Mem) (x5 : Int32) (x6 : Int32) (x7 : Int32) (s0 : Int32) : Option (Int64 × Mem) :=
  if s0 = 0 then
    f_X9_least_151 K a0 x1 x2 x3 x4 k50 m x5 x7 x6 (0 : Int32)
  else
    f_X9_least_151 K a0 x1 x2 x3 x4 k50 m x5 x7 x6 (1 : Int32)

def f_X9_least_132 (K : Kn) (a0 : Nat) (x1 : Int32) (x2 : Int32) (x3 : Int32) (x4 : Int32) (k50 : Mem → Int32 → Int32 → Int32 → Option (Int64 × Mem)) (m : Mem) (x5 : Int32) (x6 : Int32) (x7 : Int32) : Option (Int64 × Mem) :=
  f_X9_least_137 K a0 x1 x2 x3 x4 k50 m x5 x6 x7 (1 : Int32)

def f_X9_least_136 (K : Kn) (a0 : Nat) (x1 : Int32) (x2 : Int32) (x3 : Int32) (x4 : Int32) (k50 : Mem → Int32 → Int32 → Int32 → Option (Int64 × Mem)) (m : Mem) (x5 : Int32) (x6 : Int32) (x7 : Int32) : Option (Int64 × Mem) :=
  f_X9_least_137 K a0 x1 x2 x3 x4 k50 m x5 x6 x7 (0 : Int32)

def f_X9_least_188 (K : Kn) (a0 : Nat) (x1 : Int32) (x2 : Int32) (x3 : Int32) (x4 : Int32) (k32 : Mem → Int32 → Option (Int64 × Mem)) (m : Mem) (x5 : Int32) : Option (Int64 × Mem) :=
  bd (x5 + (1 : Int32)) fun z1 =>
  k32 m z1

def f_X9_least_160 (K : Kn) (a0 : Nat) (x1 : Int32) (x2 : Int32) (x3 : Int32) (x4 : Int32) (k32 : Mem → Int32 → Option (Int64 × Mem)) (m : Mem) (x5 : Int32) (x6 : Int32) : Option (Int64 × Mem) :=
  (ldA K m a0 31 1).bind fun b1 =>
  (alJ K m b1 x5).bind fun r2 =>
  (F_X9_isNumber r2).bind fun q3 =>
  if q3 = 0 then
    f_X9_least_188 K a0 x1 x2 x3 x4 k32 m x5
  else
    if x6 = x4 then
      (ldA K m a0 31 1).bind fun b6 =>
      (alJ K m b6 x5).bind fun r7 =>
      some (r7, m)
    else
      f_X9_least_188 K a0 x1 x2 x3 x4 k32 m x5

def f_X9_least_50B (K : Kn) (a0 : Nat) (x1 : Int32) (x2 : Int32) (x3 : Int32) (x4 : Int32) (k32 : Mem → Int32 → Option (Int64 × Mem)) (k50 : Mem → Int32 → Int32 → Int32 → Option (Int64 × Mem)) (m : Mem) (x5 : Int32) (x6 : Int32) (x7 : Int32) : Option (Int64 × Mem) :=
  if (gI m a0 37) ≤ x7 then
    f_X9_least_160 K a0 x1 x2 x3 x4 k32 m x5 x6
  else
    (ldA K m a0 31 1).bind fun b2 =>
    (alJ K m b2 x5).bind fun r3 =>
    (F_X9_isNumber r3).bind fun q4 =>
    if q4 = 0 then
      f_X9_least_160 K a0 x1 x2 x3 x4 k32 m x5 x6
    else
      (ldA K m a0 31 1).bind fun b6 =>
      (alJ K m b6 x7).bind fun r7 =>
      (F_X9_isNumber r7).bind fun q8 =>
      if q8 = 0 then
        f_X9_least_136 K a0 x1 x2 x3 x4 k50 m x5 x6 x7
      else
        (ldA K m a0 31 1).bind fun b10 =>
        (alJ K m b10 x7).bind fun r11 =>
        (ldA K m a0 31 1).bind fun b12 =>
        (alJ K m b12 x5).bind fun r13 =>
        (F_X9_isLess r11 r13).bind fun q14 =>
        if q14 = 0 then
          if x5 ≤ x7 then
            f_X9_least_136 K a0 x1 x2 x3 x4 k50 m x5 x6 x7
          else
            (ldA K m a0 31 1).bind fun b17 =>
            (alJ K m b17 x5).bind fun r18 =>
            (ldA K m a0 31 1).bind fun b19 =>
            (alJ K m b19 x7).bind fun r20 =>
            (F_X9_isLess r18 r20).bind fun q21 =>
            if q21 = 0 then
              f_X9_least_132 K a0 x1 x2 x3 x4 k50 m x5 x6 x7
            else
              f_X9_least_136 K a0 x1 x2 x3 x4 k50 m x5 x6 x7
        else
          f_X9_least_132 K a0 x1 x2 x3 x4 k50 m x5 x6 x7

def f_X9_least_50 (K : Kn) (a0 : Nat) (x1 : Int32) (x2 : Int32) (x3 : Int32) (x4 : Int32) (k32 : Mem → Int32 → Option (Int64 × Mem)) (n : Nat) : Mem → Int32 → Int32 → Int32 → Option (Int64 × Mem) := lpM (fun _ _ _ _ => none) (fun k => f_X9_least_50B K a0 x1 x2 x3 x4 k32 k) n

def f_X9_least_32B (K : Kn) (a0 : Nat) (x1 : Int32) (x2 : Int32) (x3 : Int32) (x4 : Int32) (k32 : Mem → Int32 → Option (Int64 × Mem)) (m : Mem) (x5 : Int32) : Option (Int64 × Mem) :=
  if (gI m a0 37) ≤ x5 then
    some ((9221120237041090560 : Int64), m)
  else
    bd (gI m a0 36) fun z2 =>
    f_X9_least_50 K a0 x1 x2 x3 x4 k32 FU m x5 (0 : Int32) z2

def f_X9_least_32 (K : Kn) (a0 : Nat) (x1 : Int32) (x2 : Int32) (x3 : Int32) (x4 : Int32) (n : Nat) : Mem → Int32 → Option (Int64 × Mem) := lpM (fun _ _ => none) (f_X9_least_32B K a0 x1 x2 x3 x4) n

def f_X9_least (K : Kn) (a0 : Nat) (x1 : Int32) (x2 : Int32) (x3 : Int32) (x4 : Int32) (m : Mem) : Option (Int64 × Mem) :=
  (F_X9_isSpan K m a0 x1 x2 x3).bind fun q1 =>
  if q1 = 0 then
    some ((9221120237041090560 : Int64), m)
  else
    if 0 ≤ x4 then
      (F_X9_laysSpan K m a0 x1 x2 x3).bind fun q4 =>
      bd (gI q4 a0 36) fun z5 =>
      f_X9_least_32 K a0 x1 x2 x3 x4 FU q4 z5
    else
      some ((9221120237041090560 : Int64), m)

def F_X9_least (K : Kn) (m : Mem) (a0 : Nat) (x1 : Int32) (x2 : Int32) (x3 : Int32) (x4 : Int32) : Option (Int64 × Mem) := f_X9_least K a0 x1 x2 x3 x4 m

def f_X9_passes_114 (K : Kn) (a0 : Nat) (x1 : Int32) (x2 : Int64) (k31 : Mem → Int32 → Int32 → Option (Int32 × Mem)) (m : Mem) (x5 : Int32) (s0 : Int32) (s1 : Int32) : Option (Int32 × Mem) :=
  bd (s0 + s1) fun z1 =>
  bd (x5 + (1 : Int32)) fun z2 =>
  k31 m z1 z2

def f_X9_passes_113 (K : Kn) (a0 : Nat) (x1 : Int32) (x2 : Int64) (k31 : Mem → Int32 → Int32 → Option (Int32 × Mem)) (m : Mem) (x5 : Int32) (s0 : Int32) : Option (Int32 × Mem) :=
  f_X9_passes_114 K a0 x1 x2 k31 m x5 s0 (0 : Int32)

def f_X9_passes_73 (K : Kn) (a0 : Nat) (x1 : Int32) (x2 : Int64) (k31 : Mem → Int32 → Int32 → Option (Int32 × Mem)) (m : Mem) (x4 : Int32) (x5 : Int32) (s0 : Int32) : Option (Int32 × Mem) :=
  if s0 = 0 then
    f_X9_passes_113 K a0 x1 x2 k31 m x5 x4
  else
    (ldA K m a0 31 1).bind fun b2 =>
    (alJ K m b2 x5).bind fun r3 =>
    (F_X9_isLess r3 x2).bind fun q4 =>
    (ldA K m a0 31 1).bind fun b5 =>
    (alJ K m b5 (x5 - (1 : Int32))).bind fun r6 =>
    (F_X9_isLess r6 x2).bind fun q7 =>
    if q4 = q7 then
      f_X9_passes_113 K a0 x1 x2 k31 m x5 x4
    else
      f_X9_passes_114 K a0 x1 x2 k31 m x5 x4 (1 : Int32)

def f_X9_passes_72 (K : Kn) (a0 : Nat) (x1 : Int32) (x2 : Int64) (k31 : Mem → Int32 → Int32 → Option (Int32 × Mem)) (m : Mem) (x4 : Int32) (x5 : Int32) : Option (Int32 × Mem) :=
  f_X9_passes_73 K a0 x1 x2 k31 m x4 x5 (0 : Int32)

def f_X9_passes_31B (K : Kn) (a0 : Nat) (x1 : Int32) (x2 : Int64) (k31 : Mem → Int32 → Int32 → Option (Int32 × Mem)) (m : Mem) (x4 : Int32) (x5 : Int32) : Option (Int32 × Mem) :=
  if (gI m a0 33) ≤ x5 then
    some (x4, m)
  else
    (ldA K m a0 31 1).bind fun b2 =>
    (alJ K m b2 x5).bind fun r3 =>
    (F_X9_isNumber r3).bind fun q4 =>
    if q4 = 0 then
      f_X9_passes_72 K a0 x1 x2 k31 m x4 x5
    else
      (ldA K m a0 31 1).bind fun b6 =>
      (alJ K m b6 (x5 - (1 : Int32))).bind fun r7 =>
      (F_X9_isNumber r7).bind fun q8 =>
      if q8 = 0 then
        f_X9_passes_72 K a0 x1 x2 k31 m x4 x5
      else
        f_X9_passes_73 K a0 x1 x2 k31 m x4 x5 (1 : Int32)

def f_X9_passes_31 (K : Kn) (a0 : Nat) (x1 : Int32) (x2 : Int64) (n : Nat) : Mem → Int32 → Int32 → Option (Int32 × Mem) := lpM (fun _ _ _ => none) (f_X9_passes_31B K a0 x1 x2) n

def f_X9_passes (K : Kn) (a0 : Nat) (x1 : Int32) (x2 : Int64) (m : Mem) : Option (Int32 × Mem) :=
  (F_X9_isSeries K m a0 x1).bind fun q1 =>
  if q1 = 0 then
    some ((-2 : Int32), m)
  else
    (F_X9_isNumber x2).bind fun q3 =>
    if q3 = 0 then
      some ((-1 : Int32), m)
    else
      (F_X9_gathers K m a0 x1).bind fun q5 =>
      f_X9_passes_31 K a0 x1 x2 FU q5 (0 : Int32) (1 : Int32)

def F_X9_passes (K : Kn) (m : Mem) (a0 : Nat) (x1 : Int32) (x2 : Int64) : Option (Int32 × Mem) := f_X9_passes K a0 x1 x2 m

def f_X9_since (K : Kn) (a0 : Nat) (x1 : Int32) (x2 : Int32) (m : Mem) : Option (Int32 × Mem) :=
  (F_X9_isAsked K m a0 x1 x2).bind fun q1 =>
  if q1 = 0 then
    some ((-2 : Int32), m)
  else
    (F_X9_gathers K m a0 x1).bind fun q3 =>
    (F_X9_firstNot K q3 a0 (((x2).toInt64) + (1 : Int64))).bind fun q4 =>
    if q4 = 0 then
      some ((-1 : Int32), q3)
    else
      (ldA K q3 a0 30 1).bind fun b6 =>
      (alJ K q3 b6 (q4 - (1 : Int32))).bind fun r7 =>
      some ((r7).toInt32, q3)

def F_X9_since (K : Kn) (m : Mem) (a0 : Nat) (x1 : Int32) (x2 : Int32) : Option (Int32 × Mem) := f_X9_since K a0 x1 x2 m

def f_X9_area_88 (K : Kn) (a0 : Nat) (x1 : Int32) (x2 : Int32) (x3 : Int32) (k30 : Mem → UInt64 → Int32 → Option (Int64 × Mem)) (m : Mem) (x4 : UInt64) (x6 : Int32) : Option (Int64 × Mem) :=
  bd (x6 + (1 : Int32)) fun z1 =>
  k30 m x4 z1

def f_X9_area_30B (K : Kn) (a0 : Nat) (x1 : Int32) (x2 : Int32) (x3 : Int32) (k30 : Mem → UInt64 → Int32 → Option (Int64 × Mem)) (m : Mem) (x4 : UInt64) (x6 : Int32) : Option (Int64 × Mem) :=
  if (gI m a0 37) ≤ (x6 + (1 : Int32)) then
    (F_X9_told x4).bind fun q2 =>
    some (q2, m)
  else
    (ldA K m a0 31 1).bind fun b3 =>
    (alJ K m b3 x6).bind fun r4 =>
    (F_X9_isNumber r4).bind fun q5 =>
    if q5 = 0 then
      f_X9_area_88 K a0 x1 x2 x3 k30 m x4 x6
    else
      (ldA K m a0 31 1).bind fun b7 =>
      (alJ K m b7 x6).bind fun r8 =>
      gd (vn_snl2d r8 = false) <|
      (ldA K m a0 30 1).bind fun b10 =>
      (alJ K m b10 (x6 + (1 : Int32))).bind fun r11 =>
      (ldA K m a0 30 1).bind fun b12 =>
      (alJ K m b12 x6).bind fun r13 =>
      f_X9_area_88 K a0 x1 x2 x3 k30 m (FP.dadd x4 (FP.dmul ((r8).toUInt64) (FP.l2d (r11 - r13)))) x6

def f_X9_area_30 (K : Kn) (a0 : Nat) (x1 : Int32) (x2 : Int32) (x3 : Int32) (n : Nat) : Mem → UInt64 → Int32 → Option (Int64 × Mem) := lpM (fun _ _ _ => none) (f_X9_area_30B K a0 x1 x2 x3) n

def f_X9_area (K : Kn) (a0 : Nat) (x1 : Int32) (x2 : Int32) (x3 : Int32) (m : Mem) : Option (Int64 × Mem) :=
  (F_X9_isSpan K m a0 x1 x2 x3).bind fun q1 =>
  if q1 = 0 then
    some ((9221120237041090560 : Int64), m)
  else
    (F_X9_laysSpan K m a0 x1 x2 x3).bind fun q3 =>
    bd (gI q3 a0 36) fun z4 =>
    f_X9_area_30 K a0 x1 x2 x3 FU q3 FP.dconst0 z4

def F_X9_area (K : Kn) (m : Mem) (a0 : Nat) (x1 : Int32) (x2 : Int32) (x3 : Int32) : Option (Int64 × Mem) := f_X9_area K a0 x1 x2 x3 m

def f_X9_feed_42B (K : Kn) (a0 : Nat) (x1 : Int32) (x2 : Int32) (x3 : Int32) (x4 : Int32) (x5 : Int32) (k42 : Mem → Nat → Int32 → Option (Int32 × Mem)) (m : Mem) (a6 : Nat) (x7 : Int32) : Option (Int32 × Mem) :=
  if (20 : Int32) ≤ x7 then
    bd (sI m a0 13 ((gI m a0 13) + (20 : Int32))) fun m2 =>
    some (gI m2 a0 13, m2)
  else
    (ldA K m a0 12 0).bind fun b3 =>
    (alI K m a6 (x7 / (4 : Int32))).bind fun r4 =>
    (asI K m b3 ((gI m a0 13) + x7) ((iushr r4 ((24 : Int32) - ((8 : Int32) * (x7 - x7 / (4 : Int32) * (4 : Int32))))) &&& (255 : Int32))).bind fun m5 =>
    bd (x7 + (1 : Int32)) fun z6 =>
    k42 m5 a6 z6

def f_X9_feed_42 (K : Kn) (a0 : Nat) (x1 : Int32) (x2 : Int32) (x3 : Int32) (x4 : Int32) (x5 : Int32) (n : Nat) : Mem → Nat → Int32 → Option (Int32 × Mem) := lpM (fun _ _ _ => none) (f_X9_feed_42B K a0 x1 x2 x3 x4 x5) n

def f_X9_feed (K : Kn) (a0 : Nat) (x1 : Int32) (x2 : Int32) (x3 : Int32) (x4 : Int32) (x5 : Int32) (m : Mem) : Option (Int32 × Mem) :=
  if (gI m a0 13) ≤ (180 : Int32) then
    bd (szm m) fun b2 =>
    bd (upK K b2 (.inr (0, 5))) fun K3 =>
    bd (bump m) fun m4 =>
    (asI K3 m4 b2 (0 : Int32) x1).bind fun m7 =>
    (asI K3 m7 b2 (1 : Int32) x2).bind fun m8 =>
    (asI K3 m8 b2 (2 : Int32) x3).bind fun m9 =>
    (asI K3 m9 b2 (3 : Int32) x4).bind fun m10 =>
    (asI K3 m10 b2 (4 : Int32) x5).bind fun m11 =>
    f_X9_feed_42 K3 a0 x1 x2 x3 x4 x5 FU m11 b2 (0 : Int32)
  else
    some ((-1 : Int32), m)

def F_X9_feed (K : Kn) (m : Mem) (a0 : Nat) (x1 : Int32) (x2 : Int32) (x3 : Int32) (x4 : Int32) (x5 : Int32) : Option (Int32 × Mem) := f_X9_feed K a0 x1 x2 x3 x4 x5 m

def f_X9_end (K : Kn) (a0 : Nat) (x1 : Int32) (m : Mem) : Option (Int32 × Mem) :=
  (F_X9_in ((x1).toInt64) (0 : Int64) ((gI m a0 13).toInt64)).bind fun q1 =>
  if q1 = 0 then
    some ((-1 : Int32), m)
  else
    bd (sI m a0 13 x1) fun m3 =>
    some (x1, m3)

def F_X9_end (K : Kn) (m : Mem) (a0 : Nat) (x1 : Int32) : Option (Int32 × Mem) := f_X9_end K a0 x1 m

def f_X9_takes_225B (K : Kn) (a0 : Nat) (x1 : Int32) (k225 : Mem → Int32 → Int32 → Int32 → Int32 → Option (Int32 × Mem)) (m : Mem) (x2 : Int32) (x3 : Int32) (x4 : Int32) (x5 : Int32) : Option (Int32 × Mem) :=
  if x3 ≤ x5 then
    (ldA K m a0 4 0).bind fun b2 =>
    (asI K m b2 x4 x3).bind fun m3 =>
    (ldA K m3 a0 6 2).bind fun b4 =>
    (asZ K m3 b4 x4 (1 : Int32)).bind fun m5 =>
    (ldA K m5 a0 7 0).bind fun b6 =>
    (ldA K m5 a0 7 0).bind fun b7 =>
    (alI K m5 b7 x2).bind fun r8 =>
    (asI K m5 b6 x4 r8).bind fun m9 =>
    (ldA K m9 a0 8 0).bind fun b10 =>
    (ldA K m9 a0 8 0).bind fun b11 =>
    (alI K m9 b11 x2).bind fun r12 =>
    (asI K m9 b10 x4 r12).bind fun m13 =>
    (ldA K m13 a0 2 0).bind fun b14 =>
    (alI K m13 b14 x1).bind fun r15 =>
    (asI K m13 b14 x1 (r15 + (1 : Int32))).bind fun m16 =>
    (ldA K m16 a0 2 0).bind fun b17 =>
    (alI K m16 b17 x1).bind fun r18 =>
    some (r18 - (1 : Int32), m16)
  else
    (ldA K m a0 3 0).bind fun b19 =>
    (ldA K m a0 12 0).bind fun b20 =>
    (alI K m b20 x5).bind fun r21 =>
    (asI K m b19 (((200 : Int32) * x4) + x5) r21).bind fun m22 =>
    bd (x5 + (1 : Int32)) fun z23 =>
    k225 m22 x2 x3 x4 z23

def f_X9_takes_225 (K : Kn) (a0 : Nat) (x1 : Int32) (n : Nat) : Mem → Int32 → Int32 → Int32 → Int32 → Option (Int32 × Mem) := lpM (fun _ _ _ _ _ => none) (f_X9_takes_225B K a0 x1) n

def f_X9_takes_209 (K : Kn) (a0 : Nat) (x1 : Int32) (m : Mem) (x2 : Int32) (x3 : Int32) : Option (Int32 × Mem) :=
  (ldA K m a0 2 0).bind fun b1 =>
  (alI K m b1 x1).bind fun r2 =>
  bd (((16 : Int32) * x1) + r2) fun z3 =>
  f_X9_takes_225 K a0 x1 FU m x2 x3 z3 (0 : Int32)

def f_X9_takes_27B (K : Kn) (a0 : Nat) (x1 : Int32) (k27 : Mem → Int32 → Int32 → Int32 → Option (Int32 × Mem)) (m : Mem) (x2 : Int32) (x3 : Int32) (x4 : Int32) : Option (Int32 × Mem) :=
  if x3 ≤ x4 then
    (ldA K m a0 4 0).bind fun b2 =>
    (asI K m b2 x2 x3).bind fun m3 =>
    (ldA K m3 a0 6 2).bind fun b4 =>
    (asZ K m3 b4 x2 (1 : Int32)).bind fun m5 =>
    (F_X9_readsAll K m5 a0 x2).bind fun q6 =>
    if (gI q6 a0 27) ≤ 0 then
      (ldA K q6 a0 0 0).bind fun b8 =>
      (alI K q6 b8 x1).bind fun r9 =>
      if x3 ≤ r9 then
        (ldA K q6 a0 21 1).bind fun b11 =>
        (alJ K q6 b11 (0 : Int32)).bind fun r12 =>
        (F_X9_isAbove K q6 a0 x1 ((r12).toInt32)).bind fun q13 =>
        if q13 = 0 then
          some ((-5 : Int32), q6)
        else
          (ldA K q6 a0 2 0).bind fun b15 =>
          (alI K q6 b15 x1).bind fun r16 =>
          if r16 = (16 : Int32) then
            some ((-4 : Int32), q6)
          else
            (ldA K q6 a0 7 0).bind fun b18 =>
            (ldA K q6 a0 21 1).bind fun b19 =>
            (alJ K q6 b19 (0 : Int32)).bind fun r20 =>
            (asI K q6 b18 x2 ((r20).toInt32)).bind fun m21 =>
            (ldA K m21 a0 8 0).bind fun b22 =>
            (asI K m21 b22 x2 ((gJ m21 a0 14).toInt32)).bind fun m23 =>
            (ldA K m23 a0 1 0).bind fun b24 =>
            (asI K m23 b24 x1 ((gJ m23 a0 14).toInt32)).bind fun m25 =>
            (ldA K m25 a0 2 0).bind fun b26 =>
            (alI K m25 b26 x1).bind fun r27 =>
            if r27 ≤ 0 then
              f_X9_takes_209 K a0 x1 m25 x2 x3
            else
              (ldA K m25 a0 6 2).bind fun b29 =>
              (ldA K m25 a0 2 0).bind fun b30 =>
              (alI K m25 b30 x1).bind fun r31 =>
              (alI K m25 b29 ((((16 : Int32) * x1) + r31) - (1 : Int32))).bind fun r32 =>
              if r32 = 0 then
                (F_X9_seals K m25 a0 x1).bind fun q34 =>
                f_X9_takes_209 K a0 x1 q34.2 x2 x3
              else
                f_X9_takes_209 K a0 x1 m25 x2 x3
      else
        some ((-3 : Int32), q6)
    else
      some ((-10 : Int32) - (gI q6 a0 27), q6)
  else
    (ldA K m a0 3 0).bind fun b35 =>
    (ldA K m a0 12 0).bind fun b36 =>
    (alI K m b36 x4).bind fun r37 =>
    (asI K m b35 (((200 : Int32) * x2) + x4) r37).bind fun m38 =>
    bd (x4 + (1 : Int32)) fun z39 =>
    k27 m38 x2 x3 z39

def f_X9_takes_27 (K : Kn) (a0 : Nat) (x1 : Int32) (n : Nat) : Mem → Int32 → Int32 → Int32 → Option (Int32 × Mem) := lpM (fun _ _ _ _ => none) (f_X9_takes_27B K a0 x1) n

def f_X9_takes (K : Kn) (a0 : Nat) (x1 : Int32) (m : Mem) : Option (Int32 × Mem) :=
  (F_X9_isSeries K m a0 x1).bind fun q1 =>
  if q1 = 0 then
    some ((-2 : Int32), m)
  else
    bd (gI m a0 13) fun z3 =>
    bd (sI m a0 13 (0 : Int32)) fun m4 =>
    f_X9_takes_27 K a0 x1 FU m4 (64 : Int32) z3 (0 : Int32)

def F_X9_takes (K : Kn) (m : Mem) (a0 : Nat) (x1 : Int32) : Option (Int32 × Mem) := f_X9_takes K a0 x1 m

def f_X9_taped (K : Kn) (m : Mem) (a0 : Nat) : Option Int32 :=
  some (gI m a0 13)

def F_X9_taped (K : Kn) (m : Mem) (a0 : Nat) : Option Int32 := f_X9_taped K m a0
