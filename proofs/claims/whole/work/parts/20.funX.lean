/-! ===== the program as functions over the memory (printed by program out of the bytecode) ===== -/
def f_X5_init_20 (K : Kn) (a0 : Nat) (m : Mem) : Option (Kn × Mem) :=
  bd (szm m) fun b1 =>
  bd (upK K b1 (.inr (0, 20))) fun K2 =>
  bd (bump m) fun m3 =>
  bd (sR m3 a0 0 (some b1)) fun m5 =>
  bd (szm m5) fun b6 =>
  bd (upK K2 b6 (.inr (1, 20))) fun K7 =>
  bd (bump m5) fun m8 =>
  bd (sR m8 a0 1 (some b6)) fun m10 =>
  some (K7, m10)

def F_X5_init_20 (K : Kn) (m : Mem) (a0 : Nat) : Option (Kn × Mem) := f_X5_init_20 K a0 m

def f_X5_init_11812 (K : Kn) (a0 : Nat) (m : Mem) : Option (Kn × Mem) :=
  bd (szm m) fun b1 =>
  bd (upK K b1 (.inr (0, 11812))) fun K2 =>
  bd (bump m) fun m3 =>
  bd (sR m3 a0 0 (some b1)) fun m5 =>
  bd (szm m5) fun b6 =>
  bd (upK K2 b6 (.inr (1, 11812))) fun K7 =>
  bd (bump m5) fun m8 =>
  bd (sR m8 a0 1 (some b6)) fun m10 =>
  some (K7, m10)

def F_X5_init_11812 (K : Kn) (m : Mem) (a0 : Nat) : Option (Kn × Mem) := f_X5_init_11812 K a0 m

def f_X1_init (K : Kn) (a0 : Nat) (m : Mem) : Option Mem :=
  bd (sI m a0 3 (-1 : Int32)) fun m1 =>
  some m1

def F_X1_init (K : Kn) (m : Mem) (a0 : Nat) : Option Mem := f_X1_init K a0 m

def f_X0_init (K : Kn) (a0 : Nat) (m : Mem) : Option (Kn × Mem) :=
  bd (szm m) fun b1 =>
  bd (upK K b1 (.inr (0, 200))) fun K2 =>
  bd (bump m) fun m3 =>
  bd (sR m3 a0 0 (some b1)) fun m5 =>
  bd (sI m5 a0 8 (-1 : Int32)) fun m6 =>
  some (K2, m6)

def F_X0_init (K : Kn) (m : Mem) (a0 : Nat) : Option (Kn × Mem) := f_X0_init K a0 m

def f_X7_init (K : Kn) (a0 : Nat) (m : Mem) : Option (Kn × Mem) :=
  bd (szm m) fun b1 =>
  bd (upK K b1 (.inr (4, 16))) fun K2 =>
  bd (bump m) fun m3 =>
  bd (sR m3 a0 0 (some b1)) fun m5 =>
  bd (szm m5) fun b6 =>
  bd (upK K2 b6 (.inl 4)) fun K7 =>
  bd (bump m5) fun m8 =>
  (F_X5_init_20 K7 m8 b6).bind fun q10 =>
  bd (sR q10.2 a0 1 (some b6)) fun m13 =>
  bd (szm m13) fun b14 =>
  bd (upK q10.1 b14 (.inl 1)) fun K15 =>
  bd (bump m13) fun m16 =>
  (F_X1_init K15 m16 b14).bind fun q18 =>
  bd (sR q18 a0 2 (some b14)) fun m19 =>
  bd (sI m19 a0 5 (-1 : Int32)) fun m20 =>
  (ldA K15 m20 a0 0 4).bind fun b21 =>
  bd (szm m20) fun b22 =>
  bd (upK K15 b22 (.inl 0)) fun K23 =>
  bd (bump m20) fun m24 =>
  (F_X0_init K23 m24 b22).bind fun q27 =>
  (asO q27.1 q27.2 b21 (0 : Int32) b22).bind fun m31 =>
  (ldA q27.1 m31 a0 0 4).bind fun b32 =>
  bd (szm m31) fun b33 =>
  bd (upK q27.1 b33 (.inl 0)) fun K34 =>
  bd (bump m31) fun m35 =>
  (F_X0_init K34 m35 b33).bind fun q38 =>
  (asO q38.1 q38.2 b32 (1 : Int32) b33).bind fun m42 =>
  (ldA q38.1 m42 a0 0 4).bind fun b43 =>
  bd (szm m42) fun b44 =>
  bd (upK q38.1 b44 (.inl 0)) fun K45 =>
  bd (bump m42) fun m46 =>
  (F_X0_init K45 m46 b44).bind fun q49 =>
  (asO q49.1 q49.2 b43 (2 : Int32) b44).bind fun m53 =>
  (ldA q49.1 m53 a0 0 4).bind fun b54 =>
  bd (szm m53) fun b55 =>
  bd (upK q49.1 b55 (.inl 0)) fun K56 =>
  bd (bump m53) fun m57 =>
  (F_X0_init K56 m57 b55).bind fun q60 =>
  (asO q60.1 q60.2 b54 (3 : Int32) b55).bind fun m64 =>
  (ldA q60.1 m64 a0 0 4).bind fun b65 =>
  bd (szm m64) fun b66 =>
  bd (upK q60.1 b66 (.inl 0)) fun K67 =>
  bd (bump m64) fun m68 =>
  (F_X0_init K67 m68 b66).bind fun q71 =>
  (asO q71.1 q71.2 b65 (4 : Int32) b66).bind fun m75 =>
  (ldA q71.1 m75 a0 0 4).bind fun b76 =>
  bd (szm m75) fun b77 =>
  bd (upK q71.1 b77 (.inl 0)) fun K78 =>
  bd (bump m75) fun m79 =>
  (F_X0_init K78 m79 b77).bind fun q82 =>
  (asO q82.1 q82.2 b76 (5 : Int32) b77).bind fun m86 =>
  (ldA q82.1 m86 a0 0 4).bind fun b87 =>
  bd (szm m86) fun b88 =>
  bd (upK q82.1 b88 (.inl 0)) fun K89 =>
  bd (bump m86) fun m90 =>
  (F_X0_init K89 m90 b88).bind fun q93 =>
  (asO q93.1 q93.2 b87 (6 : Int32) b88).bind fun m97 =>
  (ldA q93.1 m97 a0 0 4).bind fun b98 =>
  bd (szm m97) fun b99 =>
  bd (upK q93.1 b99 (.inl 0)) fun K100 =>
  bd (bump m97) fun m101 =>
  (F_X0_init K100 m101 b99).bind fun q104 =>
  (asO q104.1 q104.2 b98 (7 : Int32) b99).bind fun m108 =>
  (ldA q104.1 m108 a0 0 4).bind fun b109 =>
  bd (szm m108) fun b110 =>
  bd (upK q104.1 b110 (.inl 0)) fun K111 =>
  bd (bump m108) fun m112 =>
  (F_X0_init K111 m112 b110).bind fun q115 =>
  (asO q115.1 q115.2 b109 (8 : Int32) b110).bind fun m119 =>
  (ldA q115.1 m119 a0 0 4).bind fun b120 =>
  bd (szm m119) fun b121 =>
  bd (upK q115.1 b121 (.inl 0)) fun K122 =>
  bd (bump m119) fun m123 =>
  (F_X0_init K122 m123 b121).bind fun q126 =>
  (asO q126.1 q126.2 b120 (9 : Int32) b121).bind fun m130 =>
  (ldA q126.1 m130 a0 0 4).bind fun b131 =>
  bd (szm m130) fun b132 =>
  bd (upK q126.1 b132 (.inl 0)) fun K133 =>
  bd (bump m130) fun m134 =>
  (F_X0_init K133 m134 b132).bind fun q137 =>
  (asO q137.1 q137.2 b131 (10 : Int32) b132).bind fun m141 =>
  (ldA q137.1 m141 a0 0 4).bind fun b142 =>
  bd (szm m141) fun b143 =>
  bd (upK q137.1 b143 (.inl 0)) fun K144 =>
  bd (bump m141) fun m145 =>
  (F_X0_init K144 m145 b143).bind fun q148 =>
  (asO q148.1 q148.2 b142 (11 : Int32) b143).bind fun m152 =>
  (ldA q148.1 m152 a0 0 4).bind fun b153 =>
  bd (szm m152) fun b154 =>
  bd (upK q148.1 b154 (.inl 0)) fun K155 =>
  bd (bump m152) fun m156 =>
  (F_X0_init K155 m156 b154).bind fun q159 =>
  (asO q159.1 q159.2 b153 (12 : Int32) b154).bind fun m163 =>
  (ldA q159.1 m163 a0 0 4).bind fun b164 =>
  bd (szm m163) fun b165 =>
  bd (upK q159.1 b165 (.inl 0)) fun K166 =>
  bd (bump m163) fun m167 =>
  (F_X0_init K166 m167 b165).bind fun q170 =>
  (asO q170.1 q170.2 b164 (13 : Int32) b165).bind fun m174 =>
  (ldA q170.1 m174 a0 0 4).bind fun b175 =>
  bd (szm m174) fun b176 =>
  bd (upK q170.1 b176 (.inl 0)) fun K177 =>
  bd (bump m174) fun m178 =>
  (F_X0_init K177 m178 b176).bind fun q181 =>
  (asO q181.1 q181.2 b175 (14 : Int32) b176).bind fun m185 =>
  (ldA q181.1 m185 a0 0 4).bind fun b186 =>
  bd (szm m185) fun b187 =>
  bd (upK q181.1 b187 (.inl 0)) fun K188 =>
  bd (bump m185) fun m189 =>
  (F_X0_init K188 m189 b187).bind fun q192 =>
  (asO q192.1 q192.2 b186 (15 : Int32) b187).bind fun m196 =>
  some (q192.1, m196)

def F_X7_init (K : Kn) (m : Mem) (a0 : Nat) : Option (Kn × Mem) := f_X7_init K a0 m

def f_X4_init (K : Kn) (a0 : Nat) (a1 : Nat) (a2 : Nat) (m : Mem) : Option Mem :=
  bd (sR m a0 0 (some a1)) fun m1 =>
  bd (sR m1 a0 1 (some a2)) fun m2 =>
  some m2

def F_X4_init (K : Kn) (m : Mem) (a0 : Nat) (a1 : Nat) (a2 : Nat) : Option Mem := f_X4_init K a0 a1 a2 m

def f_X6_init (K : Kn) (a0 : Nat) (m : Mem) : Option (Kn × Mem) :=
  bd (szm m) fun b1 =>
  bd (upK K b1 (.inl 1)) fun K2 =>
  bd (bump m) fun m3 =>
  (F_X1_init K2 m3 b1).bind fun q5 =>
  bd (sR q5 a0 0 (some b1)) fun m6 =>
  some (K2, m6)

def F_X6_init (K : Kn) (m : Mem) (a0 : Nat) : Option (Kn × Mem) := f_X6_init K a0 m

def f_X2_init (K : Kn) (a0 : Nat) (a1 : Nat) (m : Mem) : Option Mem :=
  bd (sR m a0 0 (some a1)) fun m1 =>
  some m1

def F_X2_init (K : Kn) (m : Mem) (a0 : Nat) (a1 : Nat) : Option Mem := f_X2_init K a0 a1 m

def f_X8_init (K : Kn) (a0 : Nat) (m : Mem) : Option (Kn × Mem) :=
  bd (szm m) fun b1 =>
  bd (upK K b1 (.inr (3, 4))) fun K2 =>
  bd (bump m) fun m3 =>
  bd (sR m3 a0 0 (some b1)) fun m5 =>
  (ldA K2 m5 a0 0 3).bind fun b6 =>
  bd (szm m5) fun b7 =>
  bd (upK K2 b7 (.inl 6)) fun K8 =>
  bd (bump m5) fun m9 =>
  (F_X7_init K8 m9 b7).bind fun q12 =>
  (asO q12.1 q12.2 b6 (0 : Int32) b7).bind fun m16 =>
  (ldA q12.1 m16 a0 0 3).bind fun b17 =>
  bd (szm m16) fun b18 =>
  bd (upK q12.1 b18 (.inl 6)) fun K19 =>
  bd (bump m16) fun m20 =>
  (F_X7_init K19 m20 b18).bind fun q23 =>
  (asO q23.1 q23.2 b17 (1 : Int32) b18).bind fun m27 =>
  (ldA q23.1 m27 a0 0 3).bind fun b28 =>
  bd (szm m27) fun b29 =>
  bd (upK q23.1 b29 (.inl 6)) fun K30 =>
  bd (bump m27) fun m31 =>
  (F_X7_init K30 m31 b29).bind fun q34 =>
  (asO q34.1 q34.2 b28 (2 : Int32) b29).bind fun m38 =>
  (ldA q34.1 m38 a0 0 3).bind fun b39 =>
  bd (szm m38) fun b40 =>
  bd (upK q34.1 b40 (.inl 6)) fun K41 =>
  bd (bump m38) fun m42 =>
  (F_X7_init K41 m42 b40).bind fun q45 =>
  (asO q45.1 q45.2 b39 (3 : Int32) b40).bind fun m49 =>
  bd (szm m49) fun b50 =>
  bd (upK q45.1 b50 (.inl 6)) fun K51 =>
  bd (bump m49) fun m52 =>
  (F_X7_init K51 m52 b50).bind fun q54 =>
  bd (sR q54.2 a0 1 (some b50)) fun m57 =>
  bd (szm m57) fun b58 =>
  bd (upK q54.1 b58 (.inl 4)) fun K59 =>
  bd (bump m57) fun m60 =>
  (F_X5_init_11812 K59 m60 b58).bind fun q62 =>
  bd (sR q62.2 a0 2 (some b58)) fun m65 =>
  bd (szm m65) fun b66 =>
  bd (upK q62.1 b66 (.inl 4)) fun K67 =>
  bd (bump m65) fun m68 =>
  (F_X5_init_11812 K67 m68 b66).bind fun q70 =>
  bd (sR q70.2 a0 3 (some b66)) fun m73 =>
  bd (szm m73) fun b74 =>
  bd (upK q70.1 b74 (.inl 3)) fun K75 =>
  bd (bump m73) fun m76 =>
  (ldO K75 m76 a0 2 4).bind fun b78 =>
  (ldO K75 m76 a0 3 4).bind fun b79 =>
  (F_X4_init K75 m76 b74 b78 b79).bind fun q80 =>
  bd (sR q80 a0 4 (some b74)) fun m81 =>
  bd (szm m81) fun b82 =>
  bd (upK K75 b82 (.inl 5)) fun K83 =>
  bd (bump m81) fun m84 =>
  (F_X6_init K83 m84 b82).bind fun q86 =>
  bd (sR q86.2 a0 5 (some b82)) fun m89 =>
  bd (szm m89) fun b90 =>
  bd (upK q86.1 b90 (.inl 1)) fun K91 =>
  bd (bump m89) fun m92 =>
  (F_X1_init K91 m92 b90).bind fun q94 =>
  bd (sR q94 a0 6 (some b90)) fun m95 =>
  bd (szm m95) fun b96 =>
  bd (upK K91 b96 (.inl 2)) fun K97 =>
  bd (bump m95) fun m98 =>
  (ldO K97 m98 a0 5 5).bind fun b100 =>
  (F_X2_init K97 m98 b96 b100).bind fun q101 =>
  bd (sR q101 a0 7 (some b96)) fun m102 =>
  bd (szm m102) fun b103 =>
  bd (upK K97 b103 (.inl 0)) fun K104 =>
  bd (bump m102) fun m105 =>
  (F_X0_init K104 m105 b103).bind fun q107 =>
  bd (sR q107.2 a0 8 (some b103)) fun m110 =>
  some (q107.1, m110)

def F_X8_init (K : Kn) (m : Mem) (a0 : Nat) : Option (Kn × Mem) := f_X8_init K a0 m

def f_X8_isSlot_13 (x0 : Int32) : Option Int32 :=
  some (0 : Int32)

def f_X8_isSlot (x0 : Int32) : Option Int32 :=
  if x0 < 0 then
    f_X8_isSlot_13 x0
  else
    if (4 : Int32) ≤ x0 then
      f_X8_isSlot_13 x0
    else
      some (1 : Int32)

def F_X8_isSlot (x0 : Int32) : Option Int32 := f_X8_isSlot x0

def f_X8_isRoom_17 (x0 : Int32) : Option Int32 :=
  some (0 : Int32)

def f_X8_isRoom (x0 : Int32) : Option Int32 :=
  if x0 < (24 : Int32) then
    f_X8_isRoom_17 x0
  else
    if (200 : Int32) < x0 then
      f_X8_isRoom_17 x0
    else
      some (1 : Int32)

def F_X8_isRoom (x0 : Int32) : Option Int32 := f_X8_isRoom x0

def f_X7_start (K : Kn) (a0 : Nat) (x1 : Int32) (m : Mem) : Option Mem :=
  bd (sI m a0 6 (1 : Int32)) fun m1 =>
  bd (sI m1 a0 4 x1) fun m2 =>
  bd (sI m2 a0 3 (0 : Int32)) fun m3 =>
  bd (sI m3 a0 5 (-1 : Int32)) fun m4 =>
  (ldO K m4 a0 1 4).bind fun b5 =>
  bd (sI m4 b5 2 (0 : Int32)) fun m6 =>
  some m6

def F_X7_start (K : Kn) (m : Mem) (a0 : Nat) (x1 : Int32) : Option Mem := f_X7_start K a0 x1 m

def f_X8_begins (K : Kn) (a0 : Nat) (x1 : Int32) (x2 : Int32) (m : Mem) : Option (Int32 × Mem) :=
  (F_X8_isSlot x1).bind fun q1 =>
  if q1 = 0 then
    some ((-2 : Int32), m)
  else
    (F_X8_isRoom x2).bind fun q3 =>
    if q3 = 0 then
      some ((-2 : Int32), m)
    else
      (ldA K m a0 0 3).bind fun b5 =>
      (alO K m b5 x1 6).bind fun b6 =>
      (F_X7_start K m b6 x2).bind fun q7 =>
      some ((0 : Int32), q7)

def F_X8_begins (K : Kn) (m : Mem) (a0 : Nat) (x1 : Int32) (x2 : Int32) : Option (Int32 × Mem) := f_X8_begins K a0 x1 x2 m

def f_X8_isNone_19 (K : Kn) (m : Mem) (a0 : Nat) (x1 : Int32) : Option Int32 :=
  some (1 : Int32)

def f_X8_isNone (K : Kn) (m : Mem) (a0 : Nat) (x1 : Int32) : Option Int32 :=
  (F_X8_isSlot x1).bind fun q1 =>
  if q1 = 0 then
    f_X8_isNone_19 K m a0 x1
  else
    (ldA K m a0 0 3).bind fun b3 =>
    (alO K m b3 x1 6).bind fun b4 =>
    if (gI m b4 6) = 0 then
      f_X8_isNone_19 K m a0 x1
    else
      some (0 : Int32)

def F_X8_isNone (K : Kn) (m : Mem) (a0 : Nat) (x1 : Int32) : Option Int32 := f_X8_isNone K m a0 x1

def f_X8_isStamp_15 (x0 : Int32) : Option Int32 :=
  some (0 : Int32)

def f_X8_isStamp (x0 : Int32) : Option Int32 :=
  if x0 < 0 then
    f_X8_isStamp_15 x0
  else
    if (2000000000 : Int32) < x0 then
      f_X8_isStamp_15 x0
    else
      some (1 : Int32)

def F_X8_isStamp (x0 : Int32) : Option Int32 := f_X8_isStamp x0

def f_X7_openBlock_38 (K : Kn) (m : Mem) (a0 : Nat) : Option (Option Nat) :=
  some none

def f_X7_openBlock (K : Kn) (m : Mem) (a0 : Nat) : Option (Option Nat) :=
  if (gI m a0 3) ≤ 0 then
    f_X7_openBlock_38 K m a0
  else
    (ldA K m a0 0 4).bind fun b2 =>
    (alO K m b2 ((gI m a0 3) - (1 : Int32)) 0).bind fun b3 =>
    if (gI m b3 6) = 0 then
      (ldA K m a0 0 4).bind fun b5 =>
      (alO K m b5 ((gI m a0 3) - (1 : Int32)) 0).bind fun b6 =>
      some (some b6)
    else
      f_X7_openBlock_38 K m a0

def F_X7_openBlock (K : Kn) (m : Mem) (a0 : Nat) : Option (Option Nat) := f_X7_openBlock K m a0

def f_X1_kindOf_54 (x0 : Int32) : Option Int32 :=
  some (4 : Int32)

def f_X1_kindOf_36 (x0 : Int32) : Option Int32 :=
  if x0 < (-2047 : Int32) then
    f_X1_kindOf_54 x0
  else
    if (2048 : Int32) < x0 then
      f_X1_kindOf_54 x0
    else
      some (3 : Int32)

def f_X1_kindOf_20 (x0 : Int32) : Option Int32 :=
  if x0 < (-255 : Int32) then
    f_X1_kindOf_36 x0
  else
    if (256 : Int32) < x0 then
      f_X1_kindOf_36 x0
    else
      some (2 : Int32)

def f_X1_kindOf (x0 : Int32) : Option Int32 :=
  if x0 = 0 then
    some (0 : Int32)
  else
    if x0 < (-63 : Int32) then
      f_X1_kindOf_20 x0
    else
      if (64 : Int32) < x0 then
        f_X1_kindOf_20 x0
      else
        some (1 : Int32)

def F_X1_kindOf (x0 : Int32) : Option Int32 := f_X1_kindOf x0

def f_J6_numberOfLeadingZeros_0f7a4_73 (x0 : Int32) (x1 : Int32) : Option Int32 :=
  some (x1 - (iushr x0 (1 : Int32)))

def f_J6_numberOfLeadingZeros_0f7a4_61 (x0 : Int32) (x1 : Int32) : Option Int32 :=
  if x0 < (4 : Int32) then
    f_J6_numberOfLeadingZeros_0f7a4_73 x0 x1
  else
    bd (x1 + (-2 : Int32)) fun z2 =>
    bd (iushr x0 (2 : Int32)) fun z3 =>
    f_J6_numberOfLeadingZeros_0f7a4_73 z3 z2

def f_J6_numberOfLeadingZeros_0f7a4_48 (x0 : Int32) (x1 : Int32) : Option Int32 :=
  if x0 < (16 : Int32) then
    f_J6_numberOfLeadingZeros_0f7a4_61 x0 x1
  else
    bd (x1 + (-4 : Int32)) fun z2 =>
    bd (iushr x0 (4 : Int32)) fun z3 =>
    f_J6_numberOfLeadingZeros_0f7a4_61 z3 z2

def f_J6_numberOfLeadingZeros_0f7a4_33 (x0 : Int32) (x1 : Int32) : Option Int32 :=
  if x0 < (256 : Int32) then
    f_J6_numberOfLeadingZeros_0f7a4_48 x0 x1
  else
    bd (x1 + (-8 : Int32)) fun z2 =>
    bd (iushr x0 (8 : Int32)) fun z3 =>
    f_J6_numberOfLeadingZeros_0f7a4_48 z3 z2

def f_J6_numberOfLeadingZeros_0f7a4 (x0 : Int32) : Option Int32 :=
  if 0 < x0 then
    if x0 < (65536 : Int32) then
      f_J6_numberOfLeadingZeros_0f7a4_33 x0 (31 : Int32)
    else
      bd ((31 : Int32) + (-16 : Int32)) fun z3 =>
      bd (iushr x0 (16 : Int32)) fun z4 =>
      f_J6_numberOfLeadingZeros_0f7a4_33 z4 z3
  else
    if x0 = 0 then
      some (32 : Int32)
    else
      some (0 : Int32)

def F_J6_numberOfLeadingZeros_0f7a4 (x0 : Int32) : Option Int32 := f_J6_numberOfLeadingZeros_0f7a4 x0

def f_J13_numberOfLeadingZeros_95d88 (x0 : Int64) : Option Int32 :=
  bd ((lushr x0 (32 : Int32)).toInt32) fun z1 =>
  if z1 = 0 then
    (F_J6_numberOfLeadingZeros_0f7a4 ((x0).toInt32)).bind fun q3 =>
    some ((32 : Int32) + q3)
  else
    (F_J6_numberOfLeadingZeros_0f7a4 z1).bind fun q4 =>
    some q4

def F_J13_numberOfLeadingZeros_95d88 (x0 : Int64) : Option Int32 := f_J13_numberOfLeadingZeros_95d88 x0

def f_J6_numberOfTrailingZeros_0f7a4_74 (x0 : Int32) (x1 : Int32) : Option Int32 :=
  some (x1 + (iushr x0 (1 : Int32)))

def f_J6_numberOfTrailingZeros_0f7a4_62 (x0 : Int32) (x1 : Int32) : Option Int32 :=
  if x0 ≤ (4 : Int32) then
    f_J6_numberOfTrailingZeros_0f7a4_74 x0 x1
  else
    bd (x1 + (2 : Int32)) fun z2 =>
    bd (iushr x0 (2 : Int32)) fun z3 =>
    f_J6_numberOfTrailingZeros_0f7a4_74 z3 z2

def f_J6_numberOfTrailingZeros_0f7a4_49 (x0 : Int32) (x1 : Int32) : Option Int32 :=
  if x0 ≤ (16 : Int32) then
    f_J6_numberOfTrailingZeros_0f7a4_62 x0 x1
  else
    bd (x1 + (4 : Int32)) fun z2 =>
    bd (iushr x0 (4 : Int32)) fun z3 =>
    f_J6_numberOfTrailingZeros_0f7a4_62 z3 z2

def f_J6_numberOfTrailingZeros_0f7a4_34 (x0 : Int32) (x1 : Int32) : Option Int32 :=
  if x0 ≤ (256 : Int32) then
    f_J6_numberOfTrailingZeros_0f7a4_49 x0 x1
  else
    bd (x1 + (8 : Int32)) fun z2 =>
    bd (iushr x0 (8 : Int32)) fun z3 =>
    f_J6_numberOfTrailingZeros_0f7a4_49 z3 z2

def f_J6_numberOfTrailingZeros_0f7a4 (x0 : Int32) : Option Int32 :=
  bd ((x0 ^^^ (-1 : Int32)) &&& (x0 - (1 : Int32))) fun z1 =>
  if 0 < z1 then
    if z1 ≤ (65536 : Int32) then
      f_J6_numberOfTrailingZeros_0f7a4_34 z1 (1 : Int32)
    else
      bd ((1 : Int32) + (16 : Int32)) fun z4 =>
      bd (iushr z1 (16 : Int32)) fun z5 =>
      f_J6_numberOfTrailingZeros_0f7a4_34 z5 z4
  else
    some (z1 &&& (32 : Int32))

def F_J6_numberOfTrailingZeros_0f7a4 (x0 : Int32) : Option Int32 := f_J6_numberOfTrailingZeros_0f7a4 x0

def f_J13_numberOfTrailingZeros_95d88 (x0 : Int64) : Option Int32 :=
  bd ((x0).toInt32) fun z1 =>
  if z1 = 0 then
    (F_J6_numberOfTrailingZeros_0f7a4 ((lushr x0 (32 : Int32)).toInt32)).bind fun q3 =>
    some ((32 : Int32) + q3)
  else
    (F_J6_numberOfTrailingZeros_0f7a4 z1).bind fun q4 =>
    some q4

def F_J13_numberOfTrailingZeros_95d88 (x0 : Int64) : Option Int32 := f_J13_numberOfTrailingZeros_95d88 x0

def f_J9_min_7cf53 (x0 : Int32) (x1 : Int32) : Option Int32 :=
  if x1 < x0 then
    some x1
  else
    some x0

def F_J9_min_7cf53 (x0 : Int32) (x1 : Int32) : Option Int32 := f_J9_min_7cf53 x0 x1

def f_X1_isInWindow_46 (K : Kn) (m : Mem) (a0 : Nat) (x1 : Int32) (x2 : Int32) : Option Int32 :=
  some (0 : Int32)

def f_X1_isInWindow (K : Kn) (m : Mem) (a0 : Nat) (x1 : Int32) (x2 : Int32) : Option Int32 :=
  if (gI m a0 3) = (-1 : Int32) then
    f_X1_isInWindow_46 K m a0 x1 x2
  else
    if x1 < (gI m a0 3) then
      f_X1_isInWindow_46 K m a0 x1 x2
    else
      if x2 < (gI m a0 4) then
        f_X1_isInWindow_46 K m a0 x1 x2
      else
        if (11 : Int32) < (((x1 + x2) - (gI m a0 3)) - (gI m a0 4)) then
          f_X1_isInWindow_46 K m a0 x1 x2
        else
          some (1 : Int32)

def F_X1_isInWindow (K : Kn) (m : Mem) (a0 : Nat) (x1 : Int32) (x2 : Int32) : Option Int32 := f_X1_isInWindow K m a0 x1 x2

def f_X1_weigh (K : Kn) (a0 : Nat) (x1 : Int32) (x2 : Int64) (m : Mem) : Option Mem :=
  bd (sI m a0 5 x1) fun m1 =>
  bd (sJ m1 a0 6 x2) fun m2 =>
  bd (sI m2 a0 7 ((x1 - (gI m2 a0 0)) - (gI m2 a0 1))) fun m3 =>
  (F_X1_kindOf (gI m3 a0 7)).bind fun q4 =>
  bd (sI m3 a0 8 q4) fun m5 =>
  bd (sJ m5 a0 11 ((gJ m5 a0 2) ^^^ x2)) fun m6 =>
  (F_J13_numberOfLeadingZeros_95d88 (gJ m6 a0 11)).bind fun q7 =>
  (F_J13_numberOfTrailingZeros_95d88 (gJ m6 a0 11)).bind fun q8 =>
  (F_J9_min_7cf53 q7 (31 : Int32)).bind fun q9 =>
  bd (sI m6 a0 12 q9) fun m10 =>
  bd (sI m10 a0 13 q8) fun m11 =>
  (stA 1 (gI m11 a0 8)).bind fun r12 =>
  (stA 2 (gI m11 a0 8)).bind fun r13 =>
  bd (sI m11 a0 10 (r12 + r13)) fun m14 =>
  if (lg_cmp (gJ m14 a0 11) (0 : Int64)) = 0 then
    bd (sI m14 a0 9 (5 : Int32)) fun m16 =>
    bd (sI m16 a0 10 ((gI m16 a0 10) + (1 : Int32))) fun m17 =>
    some m17
  else
    (F_X1_isInWindow K m14 a0 q7 q8).bind fun q18 =>
    if q18 = 0 then
      bd (sI m14 a0 9 (7 : Int32)) fun m20 =>
      bd (sI m20 a0 10 ((gI m20 a0 10) + (((77 : Int32) - (gI m20 a0 12)) - (gI m20 a0 13)))) fun m21 =>
      some m21
    else
      bd (sI m14 a0 9 (6 : Int32)) fun m22 =>
      bd (sI m22 a0 10 ((gI m22 a0 10) + (((66 : Int32) - (gI m22 a0 3)) - (gI m22 a0 4)))) fun m23 =>
      some m23

def F_X1_weigh (K : Kn) (m : Mem) (a0 : Nat) (x1 : Int32) (x2 : Int64) : Option Mem := f_X1_weigh K a0 x1 x2 m

def f_X0_openBytes (x0 : Int32) : Option Int32 :=
  some ((14 : Int32) + ((x0 + (7 : Int32)) / (8 : Int32)))

def F_X0_openBytes (x0 : Int32) : Option Int32 := f_X0_openBytes x0

def f_X0_sealedBytes (x0 : Int32) : Option Int32 :=
  (F_X0_openBytes x0).bind fun q1 =>
  some (q1 + (1 : Int32))

def F_X0_sealedBytes (x0 : Int32) : Option Int32 := f_X0_sealedBytes x0

def f_X7_fits (K : Kn) (a0 : Nat) (x1 : Int32) (x2 : Int64) (m : Mem) : Option (Int32 × Mem) :=
  (F_X7_openBlock K m a0).bind fun q1 =>
  caseO q1 (
    some ((0 : Int32), m)) fun b2 =>
    gd (K b2 = some (.inl 0)) <|
    (ldO K m a0 2 1).bind fun b3 =>
    (F_X1_weigh K m b3 x1 x2).bind fun q4 =>
    (ldO K q4 a0 2 1).bind fun b5 =>
    (F_X0_sealedBytes ((gI q4 b2 2) + (gI q4 b5 10))).bind fun q6 =>
    if (gI q4 a0 4) < q6 then
      some ((0 : Int32), q4)
    else
      some ((1 : Int32), q4)

def F_X7_fits (K : Kn) (m : Mem) (a0 : Nat) (x1 : Int32) (x2 : Int64) : Option (Int32 × Mem) := f_X7_fits K a0 x1 x2 m

def f_X0_writeBits_91 (K : Kn) (a0 : Nat) (x1 : Int64) (x3 : Int32) (k3 : Mem → Int32 → Option Mem) (m : Mem) (x4 : Int32) (x5 : Int32) (x6 : Int32) (x7 : Int32) (x8 : Int32) (s0 : Int32) : Option Mem :=
  (ldA K m a0 0 0).bind fun b1 =>
  (asI K m b1 x5 (s0 ||| (x8 <<< ((x6 - x7) &&& 31)))).bind fun m2 =>
  bd (sI m2 a0 2 ((gI m2 a0 2) + x7)) fun m3 =>
  bd (x4 - x7) fun z4 =>
  k3 m3 z4

def f_X0_writeBits_45 (K : Kn) (a0 : Nat) (x1 : Int64) (x3 : Int32) (k3 : Mem → Int32 → Option Mem) (m : Mem) (x4 : Int32) (x5 : Int32) (x6 : Int32) (s0 : Int32) : Option Mem :=
  if x5 < (200 : Int32) then
    bd (((lushr x1 (x4 - s0)).toInt32) &&& (((1 : Int32) <<< (s0 &&& 31)) - (1 : Int32))) fun z2 =>
    if x6 = (8 : Int32) then
      f_X0_writeBits_91 K a0 x1 x3 k3 m x4 x5 x6 s0 z2 (0 : Int32)
    else
      (ldA K m a0 0 0).bind fun b4 =>
      (alI K m b4 x5).bind fun r5 =>
      f_X0_writeBits_91 K a0 x1 x3 k3 m x4 x5 x6 s0 z2 r5
  else
    some m

def f_X0_writeBits_3B (K : Kn) (a0 : Nat) (x1 : Int64) (x3 : Int32) (k3 : Mem → Int32 → Option Mem) (m : Mem) (x4 : Int32) : Option Mem :=
  if x4 ≤ 0 then
    some m
  else
    bd ((14 : Int32) + ((gI m a0 2) >>> ((3 : Int32) &&& 31))) fun z2 =>
    bd ((8 : Int32) - ((gI m a0 2) &&& (7 : Int32))) fun z3 =>
    if x4 ≤ z3 then
      f_X0_writeBits_45 K a0 x1 x3 k3 m x4 z2 z3 x4
    else
      f_X0_writeBits_45 K a0 x1 x3 k3 m x4 z2 z3 z3

def f_X0_writeBits_3 (K : Kn) (a0 : Nat) (x1 : Int64) (x3 : Int32) (n : Nat) : Mem → Int32 → Option Mem := lpM (fun _ _ => none) (f_X0_writeBits_3B K a0 x1 x3) n

def f_X0_writeBits (K : Kn) (a0 : Nat) (x1 : Int64) (x3 : Int32) (m : Mem) : Option Mem :=
  f_X0_writeBits_3 K a0 x1 x3 FU m x3

def F_X0_writeBits (K : Kn) (m : Mem) (a0 : Nat) (x1 : Int64) (x3 : Int32) : Option Mem := f_X0_writeBits K a0 x1 x3 m

def f_X0_write_155 (K : Kn) (a0 : Nat) (a1 : Nat) (m : Mem) : Option Mem :=
  bd (sI m a0 3 ((gI m a0 3) + (1 : Int32))) fun m1 =>
  (ldA K m1 a0 0 0).bind fun b2 =>
  (asI K m1 b2 (12 : Int32) ((gI m1 a0 3) >>> ((8 : Int32) &&& 31))).bind fun m3 =>
  (ldA K m3 a0 0 0).bind fun b4 =>
  (asI K m3 b4 (13 : Int32) ((gI m3 a0 3) &&& (255 : Int32))).bind fun m5 =>
  bd (sI m5 a0 5 (gI m5 a1 5)) fun m6 =>
  (F_X0_openBytes (gI m6 a0 2)).bind fun q7 =>
  bd (sI m6 a0 1 q7) fun m8 =>
  some m8

def f_X0_write (K : Kn) (a0 : Nat) (a1 : Nat) (m : Mem) : Option Mem :=
  (stA 0 (gI m a1 8)).bind fun r1 =>
  (stA 1 (gI m a1 8)).bind fun r2 =>
  (F_X0_writeBits K m a0 ((r1).toInt64) r2).bind fun q3 =>
  (stA 2 (gI q3 a1 8)).bind fun r4 =>
  (F_X0_writeBits K q3 a0 ((gI q3 a1 7).toInt64) r4).bind fun q5 =>
  if (gI q5 a1 9) = (5 : Int32) then
    (F_X0_writeBits K q5 a0 (0 : Int64) (1 : Int32)).bind fun q7 =>
    f_X0_write_155 K a0 a1 q7
  else
    if (gI q5 a1 9) = (6 : Int32) then
      (F_X0_writeBits K q5 a0 (2 : Int64) (2 : Int32)).bind fun q9 =>
      (F_X0_writeBits K q9 a0 (lushr (gJ q9 a1 11) (gI q9 a1 4)) (((64 : Int32) - (gI q9 a1 3)) - (gI q9 a1 4))).bind fun q10 =>
      f_X0_write_155 K a0 a1 q10
    else
      bd (((64 : Int32) - (gI q5 a1 12)) - (gI q5 a1 13)) fun z11 =>
      (F_X0_writeBits K q5 a0 (3 : Int64) (2 : Int32)).bind fun q12 =>
      (F_X0_writeBits K q12 a0 ((gI q12 a1 12).toInt64) (5 : Int32)).bind fun q13 =>
      (F_X0_writeBits K q13 a0 ((z11 - (1 : Int32)).toInt64) (6 : Int32)).bind fun q14 =>
      (F_X0_writeBits K q14 a0 (lushr (gJ q14 a1 11) (gI q14 a1 13)) z11).bind fun q15 =>
      f_X0_write_155 K a0 a1 q15

def F_X0_write (K : Kn) (m : Mem) (a0 : Nat) (a1 : Nat) : Option Mem := f_X0_write K a0 a1 m

def f_X1_step (K : Kn) (a0 : Nat) (m : Mem) : Option Mem :=
  bd (sI m a0 1 ((gI m a0 5) - (gI m a0 0))) fun m1 =>
  bd (sI m1 a0 0 (gI m1 a0 5)) fun m2 =>
  bd (sJ m2 a0 2 (gJ m2 a0 6)) fun m3 =>
  if (gI m3 a0 9) = (7 : Int32) then
    bd (sI m3 a0 3 (gI m3 a0 12)) fun m5 =>
    bd (sI m5 a0 4 (gI m5 a0 13)) fun m6 =>
    some m6
  else
    some m3

def F_X1_step (K : Kn) (m : Mem) (a0 : Nat) : Option Mem := f_X1_step K a0 m

def f_X0_checkOf_5B (K : Kn) (m : Mem) (a0 : Nat) (x1 : Int32) (k5 : Int32 → Int32 → Option Int32) (x2 : Int32) (x3 : Int32) : Option Int32 :=
  if x1 ≤ x3 then
    some x2
  else
    (ldA K m a0 0 0).bind fun b2 =>
    (alI K m b2 x3).bind fun r3 =>
    bd (((x2 * (31 : Int32)) + r3) - ((x2 * (31 : Int32)) + r3) / (251 : Int32) * (251 : Int32)) fun z4 =>
    bd (x3 + (1 : Int32)) fun z5 =>
    k5 z4 z5

def f_X0_checkOf_5 (K : Kn) (m : Mem) (a0 : Nat) (x1 : Int32) (n : Nat) : Int32 → Int32 → Option Int32 := lpM (fun _ _ => none) (f_X0_checkOf_5B K m a0 x1) n

def f_X0_checkOf (K : Kn) (m : Mem) (a0 : Nat) (x1 : Int32) : Option Int32 :=
  f_X0_checkOf_5 K m a0 x1 FU (7 : Int32) (0 : Int32)

def F_X0_checkOf (K : Kn) (m : Mem) (a0 : Nat) (x1 : Int32) : Option Int32 := f_X0_checkOf K m a0 x1

def f_X0_close_37 (K : Kn) (a0 : Nat) (m : Mem) : Option Mem :=
  bd (sI m a0 6 (1 : Int32)) fun m1 =>
  some m1

def f_X0_close (K : Kn) (a0 : Nat) (m : Mem) : Option Mem :=
  if (200 : Int32) ≤ (gI m a0 1) then
    f_X0_close_37 K a0 m
  else
    (ldA K m a0 0 0).bind fun b2 =>
    (F_X0_checkOf K m a0 (gI m a0 1)).bind fun q3 =>
    (asI K m b2 (gI m a0 1) q3).bind fun m4 =>
    bd (sI m4 a0 1 ((gI m4 a0 1) + (1 : Int32))) fun m5 =>
    f_X0_close_37 K a0 m5

def F_X0_close (K : Kn) (m : Mem) (a0 : Nat) : Option Mem := f_X0_close K a0 m

def f_X7_closeOpen (K : Kn) (a0 : Nat) (m : Mem) : Option Mem :=
  (F_X7_openBlock K m a0).bind fun q1 =>
  caseO q1 (
    some m) fun b2 =>
    gd (K b2 = some (.inl 0)) <|
    (F_X0_close K m b2).bind fun q3 =>
    some q3

def F_X7_closeOpen (K : Kn) (m : Mem) (a0 : Nat) : Option Mem := f_X7_closeOpen K a0 m

def f_X0_append_3B (K : Kn) (a0 : Nat) (x1 : Int32) (k3 : Mem → Int32 → Option Mem) (m : Mem) (x2 : Int32) : Option Mem :=
  if x2 < 0 then
    some m
  else
    if (200 : Int32) ≤ (gI m a0 1) then
      some m
    else
      (ldA K m a0 0 0).bind fun b3 =>
      (asI K m b3 (gI m a0 1) ((iushr x1 x2) &&& (255 : Int32))).bind fun m4 =>
      bd (sI m4 a0 1 ((gI m4 a0 1) + (1 : Int32))) fun m5 =>
      bd (x2 + (-8 : Int32)) fun z6 =>
      k3 m5 z6

def f_X0_append_3 (K : Kn) (a0 : Nat) (x1 : Int32) (n : Nat) : Mem → Int32 → Option Mem := lpM (fun _ _ => none) (f_X0_append_3B K a0 x1) n

def f_X0_append (K : Kn) (a0 : Nat) (x1 : Int32) (m : Mem) : Option Mem :=
  f_X0_append_3 K a0 x1 FU m (24 : Int32)

def F_X0_append (K : Kn) (m : Mem) (a0 : Nat) (x1 : Int32) : Option Mem := f_X0_append K a0 x1 m

def f_X0_begin (K : Kn) (a0 : Nat) (x1 : Int32) (x2 : Int64) (m : Mem) : Option Mem :=
  bd (sI m a0 1 (0 : Int32)) fun m1 =>
  (F_X0_append K m1 a0 x1).bind fun q2 =>
  (F_X0_append K q2 a0 ((lushr x2 (32 : Int32)).toInt32)).bind fun q3 =>
  (F_X0_append K q3 a0 ((x2).toInt32)).bind fun q4 =>
  (ldA K q4 a0 0 0).bind fun b5 =>
  (asI K q4 b5 (12 : Int32) (0 : Int32)).bind fun m6 =>
  (ldA K m6 a0 0 0).bind fun b7 =>
  (asI K m6 b7 (13 : Int32) (1 : Int32)).bind fun m8 =>
  bd (sI m8 a0 1 (14 : Int32)) fun m9 =>
  bd (sI m9 a0 2 (0 : Int32)) fun m10 =>
  bd (sI m10 a0 3 (1 : Int32)) fun m11 =>
  bd (sI m11 a0 4 x1) fun m12 =>
  bd (sI m12 a0 5 x1) fun m13 =>
  bd (sI m13 a0 6 (0 : Int32)) fun m14 =>
  bd (sI m14 a0 7 (0 : Int32)) fun m15 =>
  bd (sI m15 a0 8 (-1 : Int32)) fun m16 =>
  some m16

def F_X0_begin (K : Kn) (m : Mem) (a0 : Nat) (x1 : Int32) (x2 : Int64) : Option Mem := f_X0_begin K a0 x1 x2 m

def f_X1_begin (K : Kn) (a0 : Nat) (x1 : Int32) (x2 : Int64) (m : Mem) : Option Mem :=
  bd (sI m a0 0 x1) fun m1 =>
  bd (sJ m1 a0 2 x2) fun m2 =>
  bd (sI m2 a0 1 (0 : Int32)) fun m3 =>
  bd (sI m3 a0 3 (-1 : Int32)) fun m4 =>
  bd (sI m4 a0 4 (0 : Int32)) fun m5 =>
  some m5

def F_X1_begin (K : Kn) (m : Mem) (a0 : Nat) (x1 : Int32) (x2 : Int64) : Option Mem := f_X1_begin K a0 x1 x2 m

def f_X7_put_86 (K : Kn) (a0 : Nat) (x1 : Int32) (x2 : Int64) (m : Mem) : Option (Int32 × Mem) :=
  bd (sI m a0 5 x1) fun m1 =>
  some ((gI m1 a0 3) - (1 : Int32), m1)

def f_X7_put (K : Kn) (a0 : Nat) (x1 : Int32) (x2 : Int64) (m : Mem) : Option (Int32 × Mem) :=
  (F_X7_fits K m a0 x1 x2).bind fun q1 =>
  if q1.1 = 0 then
    if (gI q1.2 a0 3) < (16 : Int32) then
      (F_X7_closeOpen K q1.2 a0).bind fun q4 =>
      (ldA K q4 a0 0 4).bind fun b5 =>
      (alO K q4 b5 (gI q4 a0 3) 0).bind fun b6 =>
      (F_X0_begin K q4 b6 x1 x2).bind fun q7 =>
      (ldO K q7 a0 2 1).bind fun b8 =>
      (F_X1_begin K q7 b8 x1 x2).bind fun q9 =>
      bd (sI q9 a0 3 ((gI q9 a0 3) + (1 : Int32))) fun m10 =>
      f_X7_put_86 K a0 x1 x2 m10
    else
      some ((-4 : Int32), q1.2)
  else
    (ldA K q1.2 a0 0 4).bind fun b11 =>
    (alO K q1.2 b11 ((gI q1.2 a0 3) - (1 : Int32)) 0).bind fun b12 =>
    (ldO K q1.2 a0 2 1).bind fun b13 =>
    (F_X0_write K q1.2 b12 b13).bind fun q14 =>
    (ldO K q14 a0 2 1).bind fun b15 =>
    (F_X1_step K q14 b15).bind fun q16 =>
    f_X7_put_86 K a0 x1 x2 q16

def F_X7_put (K : Kn) (m : Mem) (a0 : Nat) (x1 : Int32) (x2 : Int64) : Option (Int32 × Mem) := f_X7_put K a0 x1 x2 m

def f_X8_add (K : Kn) (a0 : Nat) (x1 : Int32) (x2 : Int32) (x3 : Int64) (m : Mem) : Option (Int32 × Mem) :=
  (F_X8_isNone K m a0 x1).bind fun q1 =>
  if q1 = 0 then
    (F_X8_isStamp x2).bind fun q3 =>
    if q3 = 0 then
      some ((-2 : Int32), m)
    else
      (ldA K m a0 0 3).bind fun b5 =>
      (alO K m b5 x1 6).bind fun b6 =>
      if (gI m b6 5) < x2 then
        (ldA K m a0 0 3).bind fun b8 =>
        (alO K m b8 x1 6).bind fun b9 =>
        (F_X7_put K m b9 x2 x3).bind fun q10 =>
        some (q10.1, q10.2)
      else
        some ((-5 : Int32), m)
  else
    some ((-2 : Int32), m)

def F_X8_add (K : Kn) (m : Mem) (a0 : Nat) (x1 : Int32) (x2 : Int32) (x3 : Int64) : Option (Int32 × Mem) := f_X8_add K a0 x1 x2 x3 m

def f_X5_firstFrom_26 (K : Kn) (m : Mem) (a0 : Nat) (x1 : Int32) (x2 : Int32) : Option Int32 :=
  some x2

def f_X5_firstFrom_2B (K : Kn) (m : Mem) (a0 : Nat) (x1 : Int32) (k2 : Int32 → Option Int32) (x2 : Int32) : Option Int32 :=
  if (gI m a0 2) ≤ x2 then
    f_X5_firstFrom_26 K m a0 x1 x2
  else
    (ldA K m a0 0 0).bind fun b2 =>
    (alI K m b2 x2).bind fun r3 =>
    if x1 ≤ r3 then
      f_X5_firstFrom_26 K m a0 x1 x2
    else
      bd (x2 + (1 : Int32)) fun z5 =>
      k2 z5

def f_X5_firstFrom_2 (K : Kn) (m : Mem) (a0 : Nat) (x1 : Int32) (n : Nat) : Int32 → Option Int32 := lpM (fun _ => none) (f_X5_firstFrom_2B K m a0 x1) n

def f_X5_firstFrom (K : Kn) (m : Mem) (a0 : Nat) (x1 : Int32) : Option Int32 :=
  f_X5_firstFrom_2 K m a0 x1 FU (0 : Int32)

def F_X5_firstFrom (K : Kn) (m : Mem) (a0 : Nat) (x1 : Int32) : Option Int32 := f_X5_firstFrom K m a0 x1

def f_X5_insert_57B (K : Kn) (a0 : Nat) (x1 : Int32) (x2 : Int64) (k57 : Mem → Int32 → Int32 → Option (Int32 × Mem)) (m : Mem) (x4 : Int32) (x5 : Int32) : Option (Int32 × Mem) :=
  if x5 ≤ x4 then
    (ldA K m a0 0 0).bind fun b2 =>
    (asI K m b2 x4 x1).bind fun m3 =>
    (ldA K m3 a0 1 1).bind fun b4 =>
    (asJ K m3 b4 x4 x2).bind fun m5 =>
    bd (sI m5 a0 2 ((gI m5 a0 2) + (1 : Int32))) fun m6 =>
    some ((1 : Int32), m6)
  else
    (ldA K m a0 0 0).bind fun b7 =>
    (ldA K m a0 0 0).bind fun b8 =>
    (alI K m b8 (x5 - (1 : Int32))).bind fun r9 =>
    (asI K m b7 x5 r9).bind fun m10 =>
    (ldA K m10 a0 1 1).bind fun b11 =>
    (ldA K m10 a0 1 1).bind fun b12 =>
    (alJ K m10 b12 (x5 - (1 : Int32))).bind fun r13 =>
    (asJ K m10 b11 x5 r13).bind fun m14 =>
    bd (x5 + (-1 : Int32)) fun z15 =>
    k57 m14 x4 z15

def f_X5_insert_57 (K : Kn) (a0 : Nat) (x1 : Int32) (x2 : Int64) (n : Nat) : Mem → Int32 → Int32 → Option (Int32 × Mem) := lpM (fun _ _ _ => none) (f_X5_insert_57B K a0 x1 x2) n

def f_X5_insert_37 (K : Kn) (a0 : Nat) (x1 : Int32) (x2 : Int64) (m : Mem) (x4 : Int32) : Option (Int32 × Mem) :=
  (ldA K m a0 0 0).bind fun b1 =>
  if (gI m a0 2) < (Int32.ofNat (lenK K b1)) then
    bd (gI m a0 2) fun z3 =>
    f_X5_insert_57 K a0 x1 x2 FU m x4 z3
  else
    some ((0 : Int32), m)

def f_X5_insert (K : Kn) (a0 : Nat) (x1 : Int32) (x2 : Int64) (m : Mem) : Option (Int32 × Mem) :=
  (F_X5_firstFrom K m a0 x1).bind fun q1 =>
  if (gI m a0 2) ≤ q1 then
    f_X5_insert_37 K a0 x1 x2 m q1
  else
    (ldA K m a0 0 0).bind fun b3 =>
    (alI K m b3 q1).bind fun r4 =>
    if r4 = x1 then
      (ldA K m a0 1 1).bind fun b6 =>
      (asJ K m b6 q1 x2).bind fun m7 =>
      some ((1 : Int32), m7)
    else
      f_X5_insert_37 K a0 x1 x2 m q1

def F_X5_insert (K : Kn) (m : Mem) (a0 : Nat) (x1 : Int32) (x2 : Int64) : Option (Int32 × Mem) := f_X5_insert K a0 x1 x2 m

def f_X8_late (K : Kn) (a0 : Nat) (x1 : Int32) (x2 : Int32) (x3 : Int64) (m : Mem) : Option (Int32 × Mem) :=
  (F_X8_isNone K m a0 x1).bind fun q1 =>
  if q1 = 0 then
    (F_X8_isStamp x2).bind fun q3 =>
    if q3 = 0 then
      some ((-2 : Int32), m)
    else
      (ldA K m a0 0 3).bind fun b5 =>
      (alO K m b5 x1 6).bind fun b6 =>
      if x2 ≤ (gI m b6 5) then
        (ldO K m b6 1 4).bind fun b8 =>
        (F_X5_insert K m b8 x2 x3).bind fun q9 =>
        if q9.1 = 0 then
          some ((-4 : Int32), q9.2)
        else
          (ldO K q9.2 b6 1 4).bind fun b11 =>
          some (gI q9.2 b11 2, q9.2)
      else
        some ((-5 : Int32), m)
  else
    some ((-2 : Int32), m)

def F_X8_late (K : Kn) (m : Mem) (a0 : Nat) (x1 : Int32) (x2 : Int32) (x3 : Int64) : Option (Int32 × Mem) := f_X8_late K a0 x1 x2 x3 m

def f_J9_max_7cf53 (x0 : Int32) (x1 : Int32) : Option Int32 :=
  if x0 < x1 then
    some x1
  else
    some x0

def F_J9_max_7cf53 (x0 : Int32) (x1 : Int32) : Option Int32 := f_J9_max_7cf53 x0 x1

def f_X8_would (K : Kn) (a0 : Nat) (x1 : Int32) (x2 : Int32) (x3 : Int64) (m : Mem) : Option (Int32 × Mem) :=
  (F_X8_isNone K m a0 x1).bind fun q1 =>
  if q1 = 0 then
    (F_X8_isStamp x2).bind fun q3 =>
    if q3 = 0 then
      some ((-2 : Int32), m)
    else
      (ldA K m a0 0 3).bind fun b5 =>
      (alO K m b5 x1 6).bind fun b6 =>
      if (gI m b6 5) < x2 then
        (F_X7_fits K m b6 x2 x3).bind fun q8 =>
        if q8.1 = 0 then
          some ((0 : Int32), q8.2)
        else
          (ldO K q8.2 b6 2 1).bind fun b10 =>
          some (gI q8.2 b10 10, q8.2)
      else
        some ((-5 : Int32), m)
  else
    some ((-2 : Int32), m)

def F_X8_would (K : Kn) (m : Mem) (a0 : Nat) (x1 : Int32) (x2 : Int32) (x3 : Int64) : Option (Int32 × Mem) := f_X8_would K a0 x1 x2 x3 m

def f_X7_broken_30 (K : Kn) (m : Mem) (a0 : Nat) (k4 : Int32 → Int32 → Option Int32) (x1 : Int32) (x2 : Int32) : Option Int32 :=
  bd (x2 + (1 : Int32)) fun z1 =>
  k4 x1 z1

def f_X7_broken_4B (K : Kn) (m : Mem) (a0 : Nat) (k4 : Int32 → Int32 → Option Int32) (x1 : Int32) (x2 : Int32) : Option Int32 :=
  if (gI m a0 3) ≤ x2 then
    some x1
  else
    (ldA K m a0 0 4).bind fun b2 =>
    (alO K m b2 x2 0).bind fun b3 =>
    if (gI m b3 7) = 0 then
      f_X7_broken_30 K m a0 k4 x1 x2
    else
      bd (x1 ||| ((1 : Int32) <<< (x2 &&& 31))) fun z5 =>
      f_X7_broken_30 K m a0 k4 z5 x2

def f_X7_broken_4 (K : Kn) (m : Mem) (a0 : Nat) (n : Nat) : Int32 → Int32 → Option Int32 := lpM (fun _ _ => none) (f_X7_broken_4B K m a0) n

def f_X7_broken (K : Kn) (m : Mem) (a0 : Nat) : Option Int32 :=
  f_X7_broken_4 K m a0 FU (0 : Int32) (0 : Int32)

def F_X7_broken (K : Kn) (m : Mem) (a0 : Nat) : Option Int32 := f_X7_broken K m a0

def f_X0_touches_27 (K : Kn) (m : Mem) (a0 : Nat) (x1 : Int32) (x2 : Int32) : Option Int32 :=
  some (0 : Int32)

def f_X0_touches (K : Kn) (m : Mem) (a0 : Nat) (x1 : Int32) (x2 : Int32) : Option Int32 :=
  if (gI m a0 7) = 0 then
    if x2 < (gI m a0 4) then
      f_X0_touches_27 K m a0 x1 x2
    else
      if (gI m a0 5) < x1 then
        f_X0_touches_27 K m a0 x1 x2
      else
        some (1 : Int32)
  else
    f_X0_touches_27 K m a0 x1 x2

def F_X0_touches (K : Kn) (m : Mem) (a0 : Nat) (x1 : Int32) (x2 : Int32) : Option Int32 := f_X0_touches K m a0 x1 x2

def f_X6_takeBits_56 (K : Kn) (a0 : Nat) (x1 : Int32) (k25 : Mem → Int64 → Int32 → Option (Int64 × Mem)) (m : Mem) (x2 : Int64) (x4 : Int32) (x5 : Int32) (s0 : Int32) : Option (Int64 × Mem) :=
  (ldA K m a0 7 0).bind fun b1 =>
  (alI K m b1 ((gI m a0 8) >>> ((3 : Int32) &&& 31))).bind fun r2 =>
  bd ((r2 >>> ((x5 - s0) &&& 31)) &&& (((1 : Int32) <<< (s0 &&& 31)) - (1 : Int32))) fun z3 =>
  bd ((lshl x2 s0) ||| ((z3).toInt64)) fun z4 =>
  bd (sI m a0 8 ((gI m a0 8) + s0)) fun m5 =>
  bd (x4 - s0) fun z6 =>
  k25 m5 z4 z6

def f_X6_takeBits_25B (K : Kn) (a0 : Nat) (x1 : Int32) (k25 : Mem → Int64 → Int32 → Option (Int64 × Mem)) (m : Mem) (x2 : Int64) (x4 : Int32) : Option (Int64 × Mem) :=
  if x4 ≤ 0 then
    some (x2, m)
  else
    bd ((8 : Int32) - ((gI m a0 8) &&& (7 : Int32))) fun z2 =>
    if x4 ≤ z2 then
      f_X6_takeBits_56 K a0 x1 k25 m x2 x4 z2 x4
    else
      f_X6_takeBits_56 K a0 x1 k25 m x2 x4 z2 z2

def f_X6_takeBits_25 (K : Kn) (a0 : Nat) (x1 : Int32) (n : Nat) : Mem → Int64 → Int32 → Option (Int64 × Mem) := lpM (fun _ _ _ => none) (f_X6_takeBits_25B K a0 x1) n

def f_X6_takeBits (K : Kn) (a0 : Nat) (x1 : Int32) (m : Mem) : Option (Int64 × Mem) :=
  if x1 ≤ ((gI m a0 9) - (gI m a0 8)) then
    f_X6_takeBits_25 K a0 x1 FU m (0 : Int64) x1
  else
    bd (sI m a0 10 (1 : Int32)) fun m2 =>
    some ((0 : Int64), m2)

def F_X6_takeBits (K : Kn) (m : Mem) (a0 : Nat) (x1 : Int32) : Option (Int64 × Mem) := f_X6_takeBits K a0 x1 m

def f_X6_open_29 (K : Kn) (a0 : Nat) (a1 : Nat) (m : Mem) (sa0 : Nat) (s1 : Int32) : Option Mem :=
  bd (sI m sa0 9 (s1 * (8 : Int32))) fun m1 =>
  bd (sI m1 a0 8 (0 : Int32)) fun m2 =>
  bd (sI m2 a0 10 (0 : Int32)) fun m3 =>
  (F_X6_takeBits K m3 a0 (32 : Int32)).bind fun q4 =>
  bd (sI q4.2 a0 1 ((q4.1).toInt32)) fun m5 =>
  (F_X6_takeBits K m5 a0 (64 : Int32)).bind fun q6 =>
  bd (q6.1) fun z7 =>
  (F_X6_takeBits K q6.2 a0 (16 : Int32)).bind fun q8 =>
  bd (sI q8.2 a0 2 ((q8.1).toInt32)) fun m9 =>
  (ldO K m9 a0 0 1).bind fun b10 =>
  (F_X1_begin K m9 b10 (gI m9 a0 1) z7).bind fun q11 =>
  some q11

def f_X6_open (K : Kn) (a0 : Nat) (a1 : Nat) (m : Mem) : Option Mem :=
  (ldA K m a1 0 0).bind fun b1 =>
  bd (sR m a0 7 (some b1)) fun m2 =>
  if (gI m2 a1 6) = 0 then
    f_X6_open_29 K a0 a1 m2 a0 (gI m2 a1 1)
  else
    f_X6_open_29 K a0 a1 m2 a0 ((gI m2 a1 1) - (1 : Int32))

def F_X6_open (K : Kn) (m : Mem) (a0 : Nat) (a1 : Nat) : Option Mem := f_X6_open K a0 a1 m

def f_X6_takeKind_23 (K : Kn) (a0 : Nat) (m : Mem) (x1 : Int32) : Option (Int32 × Mem) :=
  some (x1, m)

def f_X6_takeKind_2B (K : Kn) (a0 : Nat) (k2 : Mem → Int32 → Option (Int32 × Mem)) (m : Mem) (x1 : Int32) : Option (Int32 × Mem) :=
  if (4 : Int32) ≤ x1 then
    f_X6_takeKind_23 K a0 m x1
  else
    (F_X6_takeBits K m a0 (1 : Int32)).bind fun q2 =>
    if (lg_cmp q2.1 (1 : Int64)) = 0 then
      bd (x1 + (1 : Int32)) fun z4 =>
      k2 q2.2 z4
    else
      f_X6_takeKind_23 K a0 q2.2 x1

def f_X6_takeKind_2 (K : Kn) (a0 : Nat) (n : Nat) : Mem → Int32 → Option (Int32 × Mem) := lpM (fun _ _ => none) (f_X6_takeKind_2B K a0) n

def f_X6_takeKind (K : Kn) (a0 : Nat) (m : Mem) : Option (Int32 × Mem) :=
  f_X6_takeKind_2 K a0 FU m (0 : Int32)

def F_X6_takeKind (K : Kn) (m : Mem) (a0 : Nat) : Option (Int32 × Mem) := f_X6_takeKind K a0 m

def f_X6_takeSecond (K : Kn) (a0 : Nat) (x1 : Int32) (m : Mem) : Option (Int64 × Mem) :=
  (stA 2 x1).bind fun r1 =>
  if r1 = 0 then
    some ((0 : Int64), m)
  else
    (F_X6_takeBits K m a0 r1).bind fun q3 =>
    bd (q3.1) fun z4 =>
    if (lg_cmp z4 (lshl (1 : Int64) (r1 - (1 : Int32)))) ≤ 0 then
      some (z4, q3.2)
    else
      some (z4 - (lshl (1 : Int64) r1), q3.2)

def F_X6_takeSecond (K : Kn) (m : Mem) (a0 : Nat) (x1 : Int32) : Option (Int64 × Mem) := f_X6_takeSecond K a0 x1 m

def f_X6_takeValue_170 (K : Kn) (a0 : Nat) (m : Mem) (sa0 : Nat) (s1 : Int64) : Option Mem :=
  bd (sJ m sa0 15 s1) fun m1 =>
  some m1

def f_X6_takeValue_149 (K : Kn) (a0 : Nat) (m : Mem) (x2 : Int64) (sa0 : Nat) (s1 : Int32) : Option Mem :=
  gd (s1 = 0 ∨ s1 = 1) <|
  bd (sI m sa0 16 s1) fun m2 =>
  if (gI m2 a0 16) = 0 then
    f_X6_takeValue_170 K a0 m2 a0 (lshl x2 (gI m2 a0 14))
  else
    f_X6_takeValue_170 K a0 m2 a0 (0 : Int64)

def f_X6_takeValue_130 (K : Kn) (a0 : Nat) (m : Mem) (x1 : Int32) : Option Mem :=
  (F_X6_takeBits K m a0 x1).bind fun q1 =>
  bd (q1.1) fun z2 =>
  if 0 ≤ (gI q1.2 a0 14) then
    f_X6_takeValue_149 K a0 q1.2 z2 a0 (0 : Int32)
  else
    f_X6_takeValue_149 K a0 q1.2 z2 a0 (1 : Int32)

def f_X6_takeValue_87 (K : Kn) (a0 : Nat) (m : Mem) (s0 : Int32) : Option Mem :=
  f_X6_takeValue_130 K a0 m s0

def f_X6_takeValue (K : Kn) (a0 : Nat) (m : Mem) : Option Mem :=
  bd (sI m a0 13 (0 : Int32)) fun m1 =>
  bd (sI m1 a0 14 (0 : Int32)) fun m2 =>
  (F_X6_takeBits K m2 a0 (1 : Int32)).bind fun q3 =>
  if (lg_cmp q3.1 (0 : Int64)) = 0 then
    bd (sI q3.2 a0 12 (5 : Int32)) fun m5 =>
    f_X6_takeValue_130 K a0 m5 (0 : Int32)
  else
    (F_X6_takeBits K q3.2 a0 (1 : Int32)).bind fun q6 =>
    if (lg_cmp q6.1 (0 : Int64)) = 0 then
      bd (sI q6.2 a0 12 (6 : Int32)) fun m8 =>
      (ldO K m8 a0 0 1).bind fun b9 =>
      bd (sI m8 a0 14 (gI m8 b9 4)) fun m10 =>
      (ldO K m10 a0 0 1).bind fun b11 =>
      if (gI m10 b11 3) = (-1 : Int32) then
        f_X6_takeValue_87 K a0 m10 (0 : Int32)
      else
        (ldO K m10 a0 0 1).bind fun b13 =>
        f_X6_takeValue_87 K a0 m10 (((64 : Int32) - (gI m10 b13 3)) - (gI m10 a0 14))
    else
      bd (sI q6.2 a0 12 (7 : Int32)) fun m14 =>
      (F_X6_takeBits K m14 a0 (5 : Int32)).bind fun q15 =>
      bd (sI q15.2 a0 13 ((q15.1).toInt32)) fun m16 =>
      (F_X6_takeBits K m16 a0 (6 : Int32)).bind fun q17 =>
      bd (((q17.1).toInt32) + (1 : Int32)) fun z18 =>
      bd (sI q17.2 a0 14 (((64 : Int32) - (gI q17.2 a0 13)) - z18)) fun m19 =>
      f_X6_takeValue_130 K a0 m19 z18

def F_X6_takeValue (K : Kn) (m : Mem) (a0 : Nat) : Option Mem := f_X6_takeValue K a0 m

def f_X6_isToldSo_65 (K : Kn) (m : Mem) (a0 : Nat) : Option Int32 :=
  some (1 : Int32)

def f_X6_isToldSo_69 (K : Kn) (m : Mem) (a0 : Nat) : Option Int32 :=
  some (0 : Int32)

def f_X6_isToldSo (K : Kn) (m : Mem) (a0 : Nat) : Option Int32 :=
  (ldO K m a0 0 1).bind fun b1 =>
  if (gI m b1 8) = (gI m a0 11) then
    (ldO K m a0 0 1).bind fun b3 =>
    if (gI m b3 9) = (gI m a0 12) then
      if (gI m a0 12) = (7 : Int32) then
        (ldO K m a0 0 1).bind fun b6 =>
        if (gI m b6 12) = (gI m a0 13) then
          (ldO K m a0 0 1).bind fun b8 =>
          if (gI m b8 13) = (gI m a0 14) then
            f_X6_isToldSo_65 K m a0
          else
            f_X6_isToldSo_69 K m a0
        else
          f_X6_isToldSo_69 K m a0
      else
        f_X6_isToldSo_65 K m a0
    else
      f_X6_isToldSo_69 K m a0
  else
    f_X6_isToldSo_69 K m a0

def F_X6_isToldSo (K : Kn) (m : Mem) (a0 : Nat) : Option Int32 := f_X6_isToldSo K m a0

def f_X6_read (K : Kn) (a0 : Nat) (m : Mem) : Option (Int32 × Mem) :=
  (F_X6_takeKind K m a0).bind fun q1 =>
  bd (sI q1.2 a0 11 q1.1) fun m2 =>
  (F_X6_takeSecond K m2 a0 (gI m2 a0 11)).bind fun q3 =>
  bd (q3.1) fun z4 =>
  (F_X6_takeValue K q3.2 a0).bind fun q5 =>
  if (gI q5 a0 10) = 0 then
    (ldO K q5 a0 0 1).bind fun b7 =>
    bd (((gI q5 b7 1).toInt64) + z4) fun z8 =>
    (ldO K q5 a0 0 1).bind fun b9 =>
    bd (((gI q5 b9 0).toInt64) + z8) fun z10 =>
    if (lg_cmp z8 (1 : Int64)) < 0 then
      some ((3 : Int32), q5)
    else
      if (lg_cmp z10 (2000000000 : Int64)) ≤ 0 then
        if (gI q5 a0 16) = 0 then
          (ldO K q5 a0 0 1).bind fun b14 =>
          (ldO K q5 a0 0 1).bind fun b15 =>
          (F_X1_weigh K q5 b14 ((z10).toInt32) ((gJ q5 b15 2) ^^^ (gJ q5 a0 15))).bind fun q16 =>
          (F_X6_isToldSo K q16 a0).bind fun q17 =>
          if q17 = 0 then
            some ((4 : Int32), q16)
          else
            (ldO K q16 a0 0 1).bind fun b19 =>
            (F_X1_step K q16 b19).bind fun q20 =>
            some ((0 : Int32), q20)
        else
          some ((4 : Int32), q5)
      else
        some ((3 : Int32), q5)
  else
    some ((2 : Int32), q5)

def F_X6_read (K : Kn) (m : Mem) (a0 : Nat) : Option (Int32 × Mem) := f_X6_read K a0 m

def f_X5_push (K : Kn) (a0 : Nat) (x1 : Int32) (x2 : Int64) (m : Mem) : Option Mem :=
  (ldA K m a0 0 0).bind fun b1 =>
  if (Int32.ofNat (lenK K b1)) ≤ (gI m a0 2) then
    some m
  else
    (ldA K m a0 0 0).bind fun b3 =>
    (asI K m b3 (gI m a0 2) x1).bind fun m4 =>
    (ldA K m4 a0 1 1).bind fun b5 =>
    (asJ K m4 b5 (gI m4 a0 2) x2).bind fun m6 =>
    bd (sI m6 a0 2 ((gI m6 a0 2) + (1 : Int32))) fun m7 =>
    some m7

def F_X5_push (K : Kn) (m : Mem) (a0 : Nat) (x1 : Int32) (x2 : Int64) : Option Mem := f_X5_push K a0 x1 x2 m

def f_X7_gatherBlock_172 (K : Kn) (a0 : Nat) (a1 : Nat) (x2 : Int32) (x3 : Int32) (x4 : Int32) (a5 : Nat) (a6 : Nat) (m : Mem) (x7 : Int32) : Option (Int32 × Mem) :=
  some (x7, m)

def f_X7_gatherBlock_166 (K : Kn) (a0 : Nat) (a1 : Nat) (x2 : Int32) (x3 : Int32) (x4 : Int32) (a5 : Nat) (a6 : Nat) (k13 : Mem → Int32 → Int32 → Option (Int32 × Mem)) (m : Mem) (x7 : Int32) (x8 : Int32) : Option (Int32 × Mem) :=
  bd (x8 + (1 : Int32)) fun z1 =>
  k13 m x7 z1

def f_X7_gatherBlock_151 (K : Kn) (a0 : Nat) (a1 : Nat) (x2 : Int32) (x3 : Int32) (x4 : Int32) (a5 : Nat) (a6 : Nat) (k13 : Mem → Int32 → Int32 → Option (Int32 × Mem)) (m : Mem) (x7 : Int32) (x8 : Int32) (x9 : Int32) : Option (Int32 × Mem) :=
  (ldO K m a5 0 1).bind fun b1 =>
  (F_X5_push K m a6 x9 (gJ m b1 2)).bind fun q2 =>
  f_X7_gatherBlock_166 K a0 a1 x2 x3 x4 a5 a6 k13 q2 x7 x8

def f_X7_gatherBlock_124 (K : Kn) (a0 : Nat) (a1 : Nat) (x2 : Int32) (x3 : Int32) (x4 : Int32) (a5 : Nat) (a6 : Nat) (k13 : Mem → Int32 → Int32 → Option (Int32 × Mem)) (m : Mem) (x7 : Int32) (x8 : Int32) (x9 : Int32) : Option (Int32 × Mem) :=
  (ldO K m a0 1 4).bind fun b1 =>
  if (gI m b1 2) ≤ x7 then
    f_X7_gatherBlock_151 K a0 a1 x2 x3 x4 a5 a6 k13 m x7 x8 x9
  else
    (ldO K m a0 1 4).bind fun b3 =>
    (ldA K m b3 0 0).bind fun b4 =>
    (alI K m b4 x7).bind fun r5 =>
    if r5 = x9 then
      f_X7_gatherBlock_166 K a0 a1 x2 x3 x4 a5 a6 k13 m x7 x8
    else
      f_X7_gatherBlock_151 K a0 a1 x2 x3 x4 a5 a6 k13 m x7 x8 x9

def f_X7_gatherBlock_66B (K : Kn) (a0 : Nat) (a1 : Nat) (x2 : Int32) (x3 : Int32) (x4 : Int32) (a5 : Nat) (a6 : Nat) (k13 : Mem → Int32 → Int32 → Option (Int32 × Mem)) (k66 : Mem → Int32 → Int32 → Int32 → Option (Int32 × Mem)) (m : Mem) (x7 : Int32) (x8 : Int32) (x9 : Int32) : Option (Int32 × Mem) :=
  (ldO K m a0 1 4).bind fun b1 =>
  if (gI m b1 2) ≤ x7 then
    f_X7_gatherBlock_124 K a0 a1 x2 x3 x4 a5 a6 k13 m x7 x8 x9
  else
    (ldO K m a0 1 4).bind fun b3 =>
    (ldA K m b3 0 0).bind fun b4 =>
    (alI K m b4 x7).bind fun r5 =>
    if x9 ≤ r5 then
      f_X7_gatherBlock_124 K a0 a1 x2 x3 x4 a5 a6 k13 m x7 x8 x9
    else
      (ldO K m a0 1 4).bind fun b7 =>
      (ldA K m b7 0 0).bind fun b8 =>
      (alI K m b8 x7).bind fun r9 =>
      (ldO K m a0 1 4).bind fun b10 =>
      (ldA K m b10 1 1).bind fun b11 =>
      (alJ K m b11 x7).bind fun r12 =>
      (F_X5_push K m a6 r9 r12).bind fun q13 =>
      bd (x7 + (1 : Int32)) fun z14 =>
      k66 q13 z14 x8 x9

def f_X7_gatherBlock_66 (K : Kn) (a0 : Nat) (a1 : Nat) (x2 : Int32) (x3 : Int32) (x4 : Int32) (a5 : Nat) (a6 : Nat) (k13 : Mem → Int32 → Int32 → Option (Int32 × Mem)) (n : Nat) : Mem → Int32 → Int32 → Int32 → Option (Int32 × Mem) := lpM (fun _ _ _ _ => none) (fun k => f_X7_gatherBlock_66B K a0 a1 x2 x3 x4 a5 a6 k13 k) n

def f_X7_gatherBlock_38 (K : Kn) (a0 : Nat) (a1 : Nat) (x2 : Int32) (x3 : Int32) (x4 : Int32) (a5 : Nat) (a6 : Nat) (k13 : Mem → Int32 → Int32 → Option (Int32 × Mem)) (m : Mem) (x7 : Int32) (x8 : Int32) : Option (Int32 × Mem) :=
  (ldO K m a5 0 1).bind fun b1 =>
  bd (gI m b1 0) fun z2 =>
  if z2 ≤ x3 then
    if x2 ≤ z2 then
      f_X7_gatherBlock_66 K a0 a1 x2 x3 x4 a5 a6 k13 FU m x7 x8 z2
    else
      f_X7_gatherBlock_166 K a0 a1 x2 x3 x4 a5 a6 k13 m x7 x8
  else
    f_X7_gatherBlock_172 K a0 a1 x2 x3 x4 a5 a6 m x7

def f_X7_gatherBlock_13B (K : Kn) (a0 : Nat) (a1 : Nat) (x2 : Int32) (x3 : Int32) (x4 : Int32) (a5 : Nat) (a6 : Nat) (k13 : Mem → Int32 → Int32 → Option (Int32 × Mem)) (m : Mem) (x7 : Int32) (x8 : Int32) : Option (Int32 × Mem) :=
  if (gI m a1 3) ≤ x8 then
    f_X7_gatherBlock_172 K a0 a1 x2 x3 x4 a5 a6 m x7
  else
    if x8 ≤ 0 then
      f_X7_gatherBlock_38 K a0 a1 x2 x3 x4 a5 a6 k13 m x7 x8
    else
      (F_X6_read K m a5).bind fun q3 =>
      if q3.1 = 0 then
        f_X7_gatherBlock_38 K a0 a1 x2 x3 x4 a5 a6 k13 q3.2 x7 x8
      else
        f_X7_gatherBlock_172 K a0 a1 x2 x3 x4 a5 a6 q3.2 x7

def f_X7_gatherBlock_13 (K : Kn) (a0 : Nat) (a1 : Nat) (x2 : Int32) (x3 : Int32) (x4 : Int32) (a5 : Nat) (a6 : Nat) (n : Nat) : Mem → Int32 → Int32 → Option (Int32 × Mem) := lpM (fun _ _ _ => none) (f_X7_gatherBlock_13B K a0 a1 x2 x3 x4 a5 a6) n

def f_X7_gatherBlock (K : Kn) (a0 : Nat) (a1 : Nat) (x2 : Int32) (x3 : Int32) (x4 : Int32) (a5 : Nat) (a6 : Nat) (m : Mem) : Option (Int32 × Mem) :=
  (F_X6_open K m a5 a1).bind fun q1 =>
  f_X7_gatherBlock_13 K a0 a1 x2 x3 x4 a5 a6 FU q1 x4 (0 : Int32)

def F_X7_gatherBlock (K : Kn) (m : Mem) (a0 : Nat) (a1 : Nat) (x2 : Int32) (x3 : Int32) (x4 : Int32) (a5 : Nat) (a6 : Nat) : Option (Int32 × Mem) := f_X7_gatherBlock K a0 a1 x2 x3 x4 a5 a6 m

def f_X7_gather_63 (K : Kn) (a0 : Nat) (x1 : Int32) (x2 : Int32) (a3 : Nat) (a4 : Nat) (k19 : Mem → Int32 → Int32 → Option Mem) (m : Mem) (x5 : Int32) (x6 : Int32) : Option Mem :=
  bd (x6 + (1 : Int32)) fun z1 =>
  k19 m x5 z1

def f_X7_gather_69B (K : Kn) (a0 : Nat) (x1 : Int32) (x2 : Int32) (a3 : Nat) (a4 : Nat) (k69 : Mem → Int32 → Option Mem) (m : Mem) (x5 : Int32) : Option Mem :=
  (ldO K m a0 1 4).bind fun b1 =>
  if (gI m b1 2) ≤ x5 then
    some m
  else
    (ldO K m a0 1 4).bind fun b3 =>
    (ldA K m b3 0 0).bind fun b4 =>
    (alI K m b4 x5).bind fun r5 =>
    if x2 < r5 then
      some m
    else
      (ldO K m a0 1 4).bind fun b7 =>
      (ldA K m b7 0 0).bind fun b8 =>
      (alI K m b8 x5).bind fun r9 =>
      (ldO K m a0 1 4).bind fun b10 =>
      (ldA K m b10 1 1).bind fun b11 =>
      (alJ K m b11 x5).bind fun r12 =>
      (F_X5_push K m a4 r9 r12).bind fun q13 =>
      bd (x5 + (1 : Int32)) fun z14 =>
      k69 q13 z14

def f_X7_gather_69 (K : Kn) (a0 : Nat) (x1 : Int32) (x2 : Int32) (a3 : Nat) (a4 : Nat) (n : Nat) : Mem → Int32 → Option Mem := lpM (fun _ _ => none) (f_X7_gather_69B K a0 x1 x2 a3 a4) n

def f_X7_gather_19B (K : Kn) (a0 : Nat) (x1 : Int32) (x2 : Int32) (a3 : Nat) (a4 : Nat) (k19 : Mem → Int32 → Int32 → Option Mem) (m : Mem) (x5 : Int32) (x6 : Int32) : Option Mem :=
  if (gI m a0 3) ≤ x6 then
    f_X7_gather_69 K a0 x1 x2 a3 a4 FU m x5
  else
    (ldA K m a0 0 4).bind fun b2 =>
    (alO K m b2 x6 0).bind fun b3 =>
    (F_X0_touches K m b3 x1 x2).bind fun q4 =>
    if q4 = 0 then
      f_X7_gather_63 K a0 x1 x2 a3 a4 k19 m x5 x6
    else
      (ldA K m a0 0 4).bind fun b6 =>
      (alO K m b6 x6 0).bind fun b7 =>
      (F_X7_gatherBlock K m a0 b7 x1 x2 x5 a3 a4).bind fun q8 =>
      bd (q8.1) fun z9 =>
      f_X7_gather_63 K a0 x1 x2 a3 a4 k19 q8.2 z9 x6

def f_X7_gather_19 (K : Kn) (a0 : Nat) (x1 : Int32) (x2 : Int32) (a3 : Nat) (a4 : Nat) (n : Nat) : Mem → Int32 → Int32 → Option Mem := lpM (fun _ _ _ => none) (f_X7_gather_19B K a0 x1 x2 a3 a4) n

def f_X7_gather (K : Kn) (a0 : Nat) (x1 : Int32) (x2 : Int32) (a3 : Nat) (a4 : Nat) (m : Mem) : Option Mem :=
  bd (sI m a4 2 (0 : Int32)) fun m1 =>
  (ldO K m1 a0 1 4).bind fun b2 =>
  (F_X5_firstFrom K m1 b2 x1).bind fun q3 =>
  f_X7_gather_19 K a0 x1 x2 a3 a4 FU m1 q3 (0 : Int32)

def F_X7_gather (K : Kn) (m : Mem) (a0 : Nat) (x1 : Int32) (x2 : Int32) (a3 : Nat) (a4 : Nat) : Option Mem := f_X7_gather K a0 x1 x2 a3 a4 m

def f_X8_gathered (K : Kn) (a0 : Nat) (x1 : Int32) (m : Mem) : Option (Nat × Mem) :=
  (ldA K m a0 0 3).bind fun b1 =>
  (alO K m b1 x1 6).bind fun b2 =>
  (ldO K m a0 5 5).bind fun b3 =>
  (ldO K m a0 2 4).bind fun b4 =>
  (F_X7_gather K m b2 (0 : Int32) (2000000000 : Int32) b3 b4).bind fun q5 =>
  (ldO K q5 a0 2 4).bind fun b6 =>
  some (b6, q5)

def F_X8_gathered (K : Kn) (m : Mem) (a0 : Nat) (x1 : Int32) : Option (Nat × Mem) := f_X8_gathered K a0 x1 m

def f_X8_useSpare (K : Kn) (a0 : Nat) (x1 : Int32) (m : Mem) : Option (Int32 × Mem) :=
  (ldA K m a0 0 3).bind fun b1 =>
  (alO K m b1 x1 6).bind fun b2 =>
  (ldA K m a0 0 3).bind fun b3 =>
  (ldO K m a0 1 6).bind fun b4 =>
  (asO K m b3 x1 b4).bind fun m5 =>
  bd (sR m5 a0 1 (some b2)) fun m6 =>
  (ldA K m6 a0 0 3).bind fun b7 =>
  (alO K m6 b7 x1 6).bind fun b8 =>
  some (gI m6 b8 3, m6)

def F_X8_useSpare (K : Kn) (m : Mem) (a0 : Nat) (x1 : Int32) : Option (Int32 × Mem) := f_X8_useSpare K a0 x1 m

def f_X8_packMine_10B (K : Kn) (a0 : Nat) (x1 : Int32) (x2 : Int32) (k10 : Mem → Int32 → Option (Int32 × Mem)) (m : Mem) (x3 : Int32) : Option (Int32 × Mem) :=
  (ldO K m a0 2 4).bind fun b1 =>
  if (gI m b1 2) ≤ x3 then
    (F_X8_useSpare K m a0 x1).bind fun q3 =>
    some (q3.1, q3.2)
  else
    (ldO K m a0 1 6).bind fun b4 =>
    (ldO K m a0 2 4).bind fun b5 =>
    (ldA K m b5 0 0).bind fun b6 =>
    (alI K m b6 x3).bind fun r7 =>
    (ldO K m a0 2 4).bind fun b8 =>
    (ldA K m b8 1 1).bind fun b9 =>
    (alJ K m b9 x3).bind fun r10 =>
    (F_X7_put K m b4 r7 r10).bind fun q11 =>
    if 0 ≤ q11.1 then
      bd (x3 + (1 : Int32)) fun z13 =>
      k10 q11.2 z13
    else
      some ((-4 : Int32), q11.2)

def f_X8_packMine_10 (K : Kn) (a0 : Nat) (x1 : Int32) (x2 : Int32) (n : Nat) : Mem → Int32 → Option (Int32 × Mem) := lpM (fun _ _ => none) (f_X8_packMine_10B K a0 x1 x2) n

def f_X8_packMine (K : Kn) (a0 : Nat) (x1 : Int32) (x2 : Int32) (m : Mem) : Option (Int32 × Mem) :=
  (ldO K m a0 1 6).bind fun b1 =>
  (F_X7_start K m b1 x2).bind fun q2 =>
  f_X8_packMine_10 K a0 x1 x2 FU q2 (0 : Int32)

def F_X8_packMine (K : Kn) (m : Mem) (a0 : Nat) (x1 : Int32) (x2 : Int32) : Option (Int32 × Mem) := f_X8_packMine K a0 x1 x2 m

def f_X8_merge (K : Kn) (a0 : Nat) (x1 : Int32) (m : Mem) : Option (Int32 × Mem) :=
  (F_X8_isNone K m a0 x1).bind fun q1 =>
  if q1 = 0 then
    (ldA K m a0 0 3).bind fun b3 =>
    (alO K m b3 x1 6).bind fun b4 =>
    (F_X7_broken K m b4).bind fun q5 =>
    if q5 = 0 then
      (F_X8_gathered K m a0 x1).bind fun q7 =>
      gd (K q7.1 = some (.inl 4)) <|
      (ldA K q7.2 a0 0 3).bind fun b9 =>
      (alO K q7.2 b9 x1 6).bind fun b10 =>
      (F_X8_packMine K q7.2 a0 x1 (gI q7.2 b10 4)).bind fun q11 =>
      some (q11.1, q11.2)
    else
      some ((-6 : Int32), m)
  else
    some ((-2 : Int32), m)

def F_X8_merge (K : Kn) (m : Mem) (a0 : Nat) (x1 : Int32) : Option (Int32 × Mem) := f_X8_merge K a0 x1 m

def f_X7_soundPoints_36 (K : Kn) (m : Mem) (a0 : Nat) (k4 : Int32 → Int32 → Option Int32) (x1 : Int32) (x2 : Int32) : Option Int32 :=
  bd (x2 + (1 : Int32)) fun z1 =>
  k4 x1 z1

def f_X7_soundPoints_4B (K : Kn) (m : Mem) (a0 : Nat) (k4 : Int32 → Int32 → Option Int32) (x1 : Int32) (x2 : Int32) : Option Int32 :=
  if (gI m a0 3) ≤ x2 then
    some x1
  else
    (ldA K m a0 0 4).bind fun b2 =>
    (alO K m b2 x2 0).bind fun b3 =>
    if (gI m b3 7) = 0 then
      (ldA K m a0 0 4).bind fun b5 =>
      (alO K m b5 x2 0).bind fun b6 =>
      bd (x1 + (gI m b6 3)) fun z7 =>
      f_X7_soundPoints_36 K m a0 k4 z7 x2
    else
      f_X7_soundPoints_36 K m a0 k4 x1 x2

def f_X7_soundPoints_4 (K : Kn) (m : Mem) (a0 : Nat) (n : Nat) : Int32 → Int32 → Option Int32 := lpM (fun _ _ => none) (f_X7_soundPoints_4B K m a0) n

def f_X7_soundPoints (K : Kn) (m : Mem) (a0 : Nat) : Option Int32 :=
  f_X7_soundPoints_4 K m a0 FU (0 : Int32) (0 : Int32)

def F_X7_soundPoints (K : Kn) (m : Mem) (a0 : Nat) : Option Int32 := f_X7_soundPoints K m a0

def f_X7_bytes_4B (K : Kn) (m : Mem) (a0 : Nat) (k4 : Int32 → Int32 → Option Int32) (x1 : Int32) (x2 : Int32) : Option Int32 :=
  if (gI m a0 3) ≤ x2 then
    some x1
  else
    (ldA K m a0 0 4).bind fun b2 =>
    (alO K m b2 x2 0).bind fun b3 =>
    bd (x1 + (gI m b3 1)) fun z4 =>
    bd (x2 + (1 : Int32)) fun z5 =>
    k4 z4 z5

def f_X7_bytes_4 (K : Kn) (m : Mem) (a0 : Nat) (n : Nat) : Int32 → Int32 → Option Int32 := lpM (fun _ _ => none) (f_X7_bytes_4B K m a0) n

def f_X7_bytes (K : Kn) (m : Mem) (a0 : Nat) : Option Int32 :=
  f_X7_bytes_4 K m a0 FU (0 : Int32) (0 : Int32)

def F_X7_bytes (K : Kn) (m : Mem) (a0 : Nat) : Option Int32 := f_X7_bytes K m a0

def f_X8_count_114 (K : Kn) (a0 : Nat) (x1 : Int32) (x2 : Int32) (m : Mem) (a3 : Nat) : Option (Int32 × Mem) :=
  some (gI m a3 5, m)

def f_X8_count_72 (K : Kn) (a0 : Nat) (x1 : Int32) (x2 : Int32) (m : Mem) (a3 : Nat) : Option (Int32 × Mem) :=
  some (gI m a3 4, m)

def f_X8_count_77 (K : Kn) (a0 : Nat) (x1 : Int32) (x2 : Int32) (m : Mem) (a3 : Nat) : Option (Int32 × Mem) :=
  (F_X7_soundPoints K m a3).bind fun q1 =>
  some (q1, m)

def f_X8_count_82 (K : Kn) (a0 : Nat) (x1 : Int32) (x2 : Int32) (m : Mem) (a3 : Nat) : Option (Int32 × Mem) :=
  some (gI m a3 3, m)

def f_X8_count_87 (K : Kn) (a0 : Nat) (x1 : Int32) (x2 : Int32) (m : Mem) (a3 : Nat) : Option (Int32 × Mem) :=
  (ldO K m a3 1 4).bind fun b1 =>
  some (gI m b1 2, m)

def f_X8_count_95 (K : Kn) (a0 : Nat) (x1 : Int32) (x2 : Int32) (m : Mem) (a3 : Nat) : Option (Int32 × Mem) :=
  (F_X7_bytes K m a3).bind fun q1 =>
  some (q1, m)

def f_X8_count_100 (K : Kn) (a0 : Nat) (x1 : Int32) (x2 : Int32) (m : Mem) (a3 : Nat) : Option (Int32 × Mem) :=
  (F_X7_broken K m a3).bind fun q1 =>
  some (q1, m)

def f_X8_count_105 (K : Kn) (a0 : Nat) (x1 : Int32) (x2 : Int32) (m : Mem) : Option (Int32 × Mem) :=
  (F_X8_gathered K m a0 x1).bind fun q1 =>
  gd (K q1.1 = some (.inl 4)) <|
  some (gI q1.2 q1.1 2, q1.2)

def f_X8_count (K : Kn) (a0 : Nat) (x1 : Int32) (x2 : Int32) (m : Mem) : Option (Int32 × Mem) :=
  (F_X8_isNone K m a0 x1).bind fun q1 =>
  if q1 = 0 then
    if x2 < 0 then
      some ((-2 : Int32), m)
    else
      if x2 ≤ (7 : Int32) then
        (ldA K m a0 0 3).bind fun b5 =>
        (alO K m b5 x1 6).bind fun b6 =>
        if x2 = 0 then
          f_X8_count_72 K a0 x1 x2 m b6
        else
        if x2 = 1 then
          f_X8_count_77 K a0 x1 x2 m b6
        else
        if x2 = 2 then
          f_X8_count_82 K a0 x1 x2 m b6
        else
        if x2 = 3 then
          f_X8_count_87 K a0 x1 x2 m b6
        else
        if x2 = 4 then
          f_X8_count_95 K a0 x1 x2 m b6
        else
        if x2 = 5 then
          f_X8_count_100 K a0 x1 x2 m b6
        else
        if x2 = 6 then
          f_X8_count_105 K a0 x1 x2 m
        else
        f_X8_count_114 K a0 x1 x2 m b6
      else
        some ((-2 : Int32), m)
  else
    some ((-2 : Int32), m)

def F_X8_count (K : Kn) (m : Mem) (a0 : Nat) (x1 : Int32) (x2 : Int32) : Option (Int32 × Mem) := f_X8_count K a0 x1 x2 m

def f_X8_blockOf_25 (K : Kn) (m : Mem) (a0 : Nat) (x1 : Int32) (x2 : Int32) : Option (Option Nat) :=
  some none

def f_X8_blockOf (K : Kn) (m : Mem) (a0 : Nat) (x1 : Int32) (x2 : Int32) : Option (Option Nat) :=
  (F_X8_isNone K m a0 x1).bind fun q1 =>
  if q1 = 0 then
    if x2 < 0 then
      f_X8_blockOf_25 K m a0 x1 x2
    else
      (ldA K m a0 0 3).bind fun b4 =>
      (alO K m b4 x1 6).bind fun b5 =>
      if x2 < (gI m b5 3) then
        (ldA K m a0 0 3).bind fun b7 =>
        (alO K m b7 x1 6).bind fun b8 =>
        (ldA K m b8 0 4).bind fun b9 =>
        (alO K m b9 x2 0).bind fun b10 =>
        some (some b10)
      else
        f_X8_blockOf_25 K m a0 x1 x2
  else
    f_X8_blockOf_25 K m a0 x1 x2

def F_X8_blockOf (K : Kn) (m : Mem) (a0 : Nat) (x1 : Int32) (x2 : Int32) : Option (Option Nat) := f_X8_blockOf K m a0 x1 x2

def f_X8_block_110 (K : Kn) (m : Mem) (a0 : Nat) (x1 : Int32) (x2 : Int32) (x3 : Int32) (a4 : Nat) : Option Int32 :=
  some (gI m a4 2)

def f_X8_block_92 (K : Kn) (m : Mem) (a0 : Nat) (x1 : Int32) (x2 : Int32) (x3 : Int32) (a4 : Nat) : Option Int32 :=
  some (gI m a4 4)

def f_X8_block_98 (K : Kn) (m : Mem) (a0 : Nat) (x1 : Int32) (x2 : Int32) (x3 : Int32) (a4 : Nat) : Option Int32 :=
  some (gI m a4 5)

def f_X8_block_104 (K : Kn) (m : Mem) (a0 : Nat) (x1 : Int32) (x2 : Int32) (x3 : Int32) (a4 : Nat) : Option Int32 :=
  some (gI m a4 3)

def f_X8_block (K : Kn) (m : Mem) (a0 : Nat) (x1 : Int32) (x2 : Int32) (x3 : Int32) : Option Int32 :=
  (F_X8_blockOf K m a0 x1 x2).bind fun q1 =>
  caseO q1 (
    some (-2 : Int32)) fun b2 =>
    gd (K b2 = some (.inl 0)) <|
    if x3 < 0 then
      some (-2 : Int32)
    else
      if x3 ≤ (5 : Int32) then
        if x3 = (3 : Int32) then
          some (gI m b2 1)
        else
          if x3 = (5 : Int32) then
            if (gI m b2 6) = 0 then
              some (0 : Int32)
            else
              some (1 : Int32)
          else
            if (gI m b2 7) = 0 then
              if x3 = 0 then
                f_X8_block_92 K m a0 x1 x2 x3 b2
              else
              if x3 = 1 then
                f_X8_block_98 K m a0 x1 x2 x3 b2
              else
              if x3 = 2 then
                f_X8_block_104 K m a0 x1 x2 x3 b2
              else
              f_X8_block_110 K m a0 x1 x2 x3 b2
            else
              some (-6 : Int32)
      else
        some (-2 : Int32)

def F_X8_block (K : Kn) (m : Mem) (a0 : Nat) (x1 : Int32) (x2 : Int32) (x3 : Int32) : Option Int32 := f_X8_block K m a0 x1 x2 x3

def f_X8_octet_29 (K : Kn) (m : Mem) (a0 : Nat) (x1 : Int32) (x2 : Int32) (x3 : Int32) : Option Int32 :=
  some (-1 : Int32)

def f_X8_octet (K : Kn) (m : Mem) (a0 : Nat) (x1 : Int32) (x2 : Int32) (x3 : Int32) : Option Int32 :=
  (F_X8_blockOf K m a0 x1 x2).bind fun q1 =>
  caseO q1 (
    some (-2 : Int32)) fun b2 =>
    gd (K b2 = some (.inl 0)) <|
    if x3 < 0 then
      f_X8_octet_29 K m a0 x1 x2 x3
    else
      if x3 < (gI m b2 1) then
        (ldA K m b2 0 0).bind fun b5 =>
        (alI K m b5 x3).bind fun r6 =>
        some r6
      else
        f_X8_octet_29 K m a0 x1 x2 x3

def F_X8_octet (K : Kn) (m : Mem) (a0 : Nat) (x1 : Int32) (x2 : Int32) (x3 : Int32) : Option Int32 := f_X8_octet K m a0 x1 x2 x3

def f_X8_fault (K : Kn) (m : Mem) (a0 : Nat) (x1 : Int32) (x2 : Int32) (x3 : Int32) : Option Int32 :=
  (F_X8_blockOf K m a0 x1 x2).bind fun q1 =>
  caseO q1 (
    some (-2 : Int32)) fun b2 =>
    gd (K b2 = some (.inl 0)) <|
    if x3 < 0 then
      some (-2 : Int32)
    else
      if x3 ≤ (1 : Int32) then
        if x3 = 0 then
          some (gI m b2 7)
        else
          some (gI m b2 8)
      else
        some (-2 : Int32)

def F_X8_fault (K : Kn) (m : Mem) (a0 : Nat) (x1 : Int32) (x2 : Int32) (x3 : Int32) : Option Int32 := f_X8_fault K m a0 x1 x2 x3

def f_X6_examine_189 (K : Kn) (a0 : Nat) (a1 : Nat) (x2 : Int32) (m : Mem) : Option (Int32 × Mem) :=
  bd (sI m a0 4 (0 : Int32)) fun m1 =>
  some ((7 : Int32), m1)

def f_X6_examine_197 (K : Kn) (a0 : Nat) (a1 : Nat) (x2 : Int32) (m : Mem) : Option (Int32 × Mem) :=
  bd (sI m a0 4 (-1 : Int32)) fun m1 =>
  some ((0 : Int32), m1)

def f_X6_examine_73B (K : Kn) (a0 : Nat) (a1 : Nat) (x2 : Int32) (k73 : Mem → Int32 → Option (Int32 × Mem)) (m : Mem) (x3 : Int32) : Option (Int32 × Mem) :=
  if (gI m a0 2) ≤ x3 then
    bd (sI m a0 3 ((gI m a0 8) - (112 : Int32))) fun m2 =>
    bd (sI m2 a0 4 (gI m2 a0 3)) fun m3 =>
    bd ((gI m3 a0 9) - (gI m3 a0 8)) fun z4 =>
    if (7 : Int32) < z4 then
      some ((6 : Int32), m3)
    else
      (F_X6_takeBits K m3 a0 z4).bind fun q6 =>
      if (lg_cmp q6.1 (0 : Int64)) = 0 then
        if x2 = 0 then
          f_X6_examine_197 K a0 a1 x2 q6.2
        else
          if (gI q6.2 a0 1) = (gI q6.2 a1 4) then
            (ldO K q6.2 a0 0 1).bind fun b10 =>
            if (gI q6.2 b10 0) = (gI q6.2 a1 5) then
              f_X6_examine_197 K a0 a1 x2 q6.2
            else
              f_X6_examine_189 K a0 a1 x2 q6.2
          else
            f_X6_examine_189 K a0 a1 x2 q6.2
      else
        some ((6 : Int32), q6.2)
  else
    bd (sI m a0 4 ((gI m a0 8) - (112 : Int32))) fun m12 =>
    (F_X6_read K m12 a0).bind fun q13 =>
    bd (q13.1) fun z14 =>
    if z14 = 0 then
      bd (x3 + (1 : Int32)) fun z16 =>
      k73 q13.2 z16
    else
      some (z14, q13.2)

def f_X6_examine_73 (K : Kn) (a0 : Nat) (a1 : Nat) (x2 : Int32) (n : Nat) : Mem → Int32 → Option (Int32 × Mem) := lpM (fun _ _ => none) (f_X6_examine_73B K a0 a1 x2) n

def f_X6_examine (K : Kn) (a0 : Nat) (a1 : Nat) (x2 : Int32) (m : Mem) : Option (Int32 × Mem) :=
  bd (sI m a0 4 (-1 : Int32)) fun m1 =>
  if (gI m1 a1 1) ≤ (14 : Int32) then
    some ((1 : Int32), m1)
  else
    (ldA K m1 a1 0 0).bind fun b3 =>
    (alI K m1 b3 ((gI m1 a1 1) - (1 : Int32))).bind fun r4 =>
    (F_X0_checkOf K m1 a1 ((gI m1 a1 1) - (1 : Int32))).bind fun q5 =>
    if r4 = q5 then
      (F_X6_open K m1 a0 a1).bind fun q7 =>
      bd (sI q7 a0 4 (0 : Int32)) fun m8 =>
      if (gI m8 a0 2) = 0 then
        some ((5 : Int32), m8)
      else
        (F_X8_isStamp (gI m8 a0 1)).bind fun q10 =>
        if q10 = 0 then
          some ((3 : Int32), m8)
        else
          f_X6_examine_73 K a0 a1 x2 FU m8 (1 : Int32)
    else
      some ((1 : Int32), m1)

def F_X6_examine (K : Kn) (m : Mem) (a0 : Nat) (a1 : Nat) (x2 : Int32) : Option (Int32 × Mem) := f_X6_examine K a0 a1 x2 m

def f_X0_settle (K : Kn) (a0 : Nat) (x1 : Int32) (a2 : Nat) (m : Mem) : Option Mem :=
  bd (sI m a0 7 x1) fun m1 =>
  bd (sI m1 a0 8 (gI m1 a2 4)) fun m2 =>
  if x1 = 0 then
    bd (sI m2 a0 3 (gI m2 a2 2)) fun m4 =>
    bd (sI m4 a0 2 (gI m4 a2 3)) fun m5 =>
    some m5
  else
    some m2

def F_X0_settle (K : Kn) (m : Mem) (a0 : Nat) (x1 : Int32) (a2 : Nat) : Option Mem := f_X0_settle K a0 x1 a2 m

def f_X8_damage (K : Kn) (a0 : Nat) (x1 : Int32) (x2 : Int32) (x3 : Int32) (x4 : Int32) (m : Mem) : Option (Int32 × Mem) :=
  (F_X8_blockOf K m a0 x1 x2).bind fun q1 =>
  caseO q1 (
    some ((-2 : Int32), m)) fun b2 =>
    gd (K b2 = some (.inl 0)) <|
    if x3 < 0 then
      some ((-2 : Int32), m)
    else
      if (gI m b2 1) ≤ x3 then
        some ((-2 : Int32), m)
      else
        if x4 < 0 then
          some ((-2 : Int32), m)
        else
          if x4 ≤ (255 : Int32) then
            if (gI m b2 6) = 0 then
              some ((-5 : Int32), m)
            else
              (ldA K m b2 0 0).bind fun b8 =>
              (alI K m b8 x3).bind fun r9 =>
              (ldA K m b2 0 0).bind fun b10 =>
              (asI K m b10 x3 x4).bind fun m11 =>
              (ldO K m11 a0 5 5).bind fun b12 =>
              (F_X6_examine K m11 b12 b2 (1 : Int32)).bind fun q13 =>
              (ldO K q13.2 a0 5 5).bind fun b14 =>
              (F_X0_settle K q13.2 b2 q13.1 b14).bind fun q15 =>
              some (r9, q15)
          else
            some ((-2 : Int32), m)

def F_X8_damage (K : Kn) (m : Mem) (a0 : Nat) (x1 : Int32) (x2 : Int32) (x3 : Int32) (x4 : Int32) : Option (Int32 × Mem) := f_X8_damage K a0 x1 x2 x3 x4 m

def f_X8_has (K : Kn) (a0 : Nat) (x1 : Int32) (x2 : Int32) (m : Mem) : Option (Int32 × Mem) :=
  (F_X8_isNone K m a0 x1).bind fun q1 =>
  if q1 = 0 then
    (F_X8_isStamp x2).bind fun q3 =>
    if q3 = 0 then
      some ((-2 : Int32), m)
    else
      (ldA K m a0 0 3).bind fun b5 =>
      (alO K m b5 x1 6).bind fun b6 =>
      (ldO K m a0 5 5).bind fun b7 =>
      (ldO K m a0 2 4).bind fun b8 =>
      (F_X7_gather K m b6 x2 x2 b7 b8).bind fun q9 =>
      (ldO K q9 a0 2 4).bind fun b10 =>
      if (gI q9 b10 2) ≤ 0 then
        some ((0 : Int32), q9)
      else
        some ((1 : Int32), q9)
  else
    some ((-2 : Int32), m)

def F_X8_has (K : Kn) (m : Mem) (a0 : Nat) (x1 : Int32) (x2 : Int32) : Option (Int32 × Mem) := f_X8_has K a0 x1 x2 m

def f_X8_at (K : Kn) (a0 : Nat) (x1 : Int32) (x2 : Int32) (m : Mem) : Option (Int64 × Mem) :=
  (F_X8_isNone K m a0 x1).bind fun q1 =>
  if q1 = 0 then
    (F_X8_isStamp x2).bind fun q3 =>
    if q3 = 0 then
      some ((0 : Int64), m)
    else
      (ldA K m a0 0 3).bind fun b5 =>
      (alO K m b5 x1 6).bind fun b6 =>
      (ldO K m a0 5 5).bind fun b7 =>
      (ldO K m a0 2 4).bind fun b8 =>
      (F_X7_gather K m b6 x2 x2 b7 b8).bind fun q9 =>
      (ldO K q9 a0 2 4).bind fun b10 =>
      if (gI q9 b10 2) ≤ 0 then
        some ((0 : Int64), q9)
      else
        (ldO K q9 a0 2 4).bind fun b12 =>
        (ldA K q9 b12 1 1).bind fun b13 =>
        (alJ K q9 b13 (0 : Int32)).bind fun r14 =>
        some (r14, q9)
  else
    some ((0 : Int64), m)

def F_X8_at (K : Kn) (m : Mem) (a0 : Nat) (x1 : Int32) (x2 : Int32) : Option (Int64 × Mem) := f_X8_at K a0 x1 x2 m

def f_X5_closest_57 (K : Kn) (m : Mem) (a0 : Nat) (x1 : Int32) (x2 : Int32) : Option Int32 :=
  (ldA K m a0 0 0).bind fun b1 =>
  (alI K m b1 (x2 - (1 : Int32))).bind fun r2 =>
  some r2

def f_X5_closest (K : Kn) (m : Mem) (a0 : Nat) (x1 : Int32) : Option Int32 :=
  (F_X5_firstFrom K m a0 x1).bind fun q1 =>
  if q1 = 0 then
    if (gI m a0 2) ≤ 0 then
      some (-1 : Int32)
    else
      (ldA K m a0 0 0).bind fun b4 =>
      (alI K m b4 (0 : Int32)).bind fun r5 =>
      some r5
  else
    if q1 = (gI m a0 2) then
      f_X5_closest_57 K m a0 x1 q1
    else
      (ldA K m a0 0 0).bind fun b7 =>
      (alI K m b7 (q1 - (1 : Int32))).bind fun r8 =>
      (ldA K m a0 0 0).bind fun b9 =>
      (alI K m b9 q1).bind fun r10 =>
      if (r10 - x1) < (x1 - r8) then
        (ldA K m a0 0 0).bind fun b12 =>
        (alI K m b12 q1).bind fun r13 =>
        some r13
      else
        f_X5_closest_57 K m a0 x1 q1

def F_X5_closest (K : Kn) (m : Mem) (a0 : Nat) (x1 : Int32) : Option Int32 := f_X5_closest K m a0 x1

def f_X8_nearest (K : Kn) (a0 : Nat) (x1 : Int32) (x2 : Int32) (m : Mem) : Option (Int32 × Mem) :=
  (F_X8_isNone K m a0 x1).bind fun q1 =>
  if q1 = 0 then
    (F_X8_isStamp x2).bind fun q3 =>
    if q3 = 0 then
      some ((-2 : Int32), m)
    else
      (F_X8_gathered K m a0 x1).bind fun q5 =>
      gd (K q5.1 = some (.inl 4)) <|
      (F_X5_closest K q5.2 q5.1 x2).bind fun q7 =>
      some (q7, q5.2)
  else
    some ((-2 : Int32), m)

def F_X8_nearest (K : Kn) (m : Mem) (a0 : Nat) (x1 : Int32) (x2 : Int32) : Option (Int32 × Mem) := f_X8_nearest K a0 x1 x2 m

def f_J9_abs_067f4 (x0 : Int64) : Option Int64 :=
  if 0 ≤ (lg_cmp x0 (0 : Int64)) then
    some x0
  else
    some (-x0)

def F_J9_abs_067f4 (x0 : Int64) : Option Int64 := f_J9_abs_067f4 x0

def f_X8_point (K : Kn) (a0 : Nat) (x1 : Int32) (x2 : Int32) (x3 : Int32) (m : Mem) : Option (Int64 × Mem) :=
  (F_X8_isNone K m a0 x1).bind fun q1 =>
  if q1 = 0 then
    if x3 < 0 then
      some ((-1 : Int64), m)
    else
      if (1 : Int32) < x3 then
        some ((-1 : Int64), m)
      else
        if 0 ≤ x2 then
          (F_X8_gathered K m a0 x1).bind fun q6 =>
          gd (K q6.1 = some (.inl 4)) <|
          if x2 < (gI q6.2 q6.1 2) then
            if x3 = 0 then
              (ldA K q6.2 q6.1 0 0).bind fun b10 =>
              (alI K q6.2 b10 x2).bind fun r11 =>
              some ((r11).toInt64, q6.2)
            else
              (ldA K q6.2 q6.1 1 1).bind fun b12 =>
              (alJ K q6.2 b12 x2).bind fun r13 =>
              some (r13, q6.2)
          else
            some ((-1 : Int64), q6.2)
        else
          some ((-1 : Int64), m)
  else
    some ((-1 : Int64), m)

def F_X8_point (K : Kn) (m : Mem) (a0 : Nat) (x1 : Int32) (x2 : Int32) (x3 : Int32) : Option (Int64 × Mem) := f_X8_point K a0 x1 x2 x3 m

def f_X7_opened_32 (K : Kn) (m : Mem) (a0 : Nat) (x1 : Int32) (x2 : Int32) (k5 : Int32 → Int32 → Option Int32) (x3 : Int32) (x4 : Int32) : Option Int32 :=
  bd (x4 + (1 : Int32)) fun z1 =>
  k5 x3 z1

def f_X7_opened_5B (K : Kn) (m : Mem) (a0 : Nat) (x1 : Int32) (x2 : Int32) (k5 : Int32 → Int32 → Option Int32) (x3 : Int32) (x4 : Int32) : Option Int32 :=
  if (gI m a0 3) ≤ x4 then
    some x3
  else
    (ldA K m a0 0 4).bind fun b2 =>
    (alO K m b2 x4 0).bind fun b3 =>
    (F_X0_touches K m b3 x1 x2).bind fun q4 =>
    if q4 = 0 then
      f_X7_opened_32 K m a0 x1 x2 k5 x3 x4
    else
      bd (x3 + (1 : Int32)) fun z6 =>
      f_X7_opened_32 K m a0 x1 x2 k5 z6 x4

def f_X7_opened_5 (K : Kn) (m : Mem) (a0 : Nat) (x1 : Int32) (x2 : Int32) (n : Nat) : Int32 → Int32 → Option Int32 := lpM (fun _ _ => none) (f_X7_opened_5B K m a0 x1 x2) n

def f_X7_opened (K : Kn) (m : Mem) (a0 : Nat) (x1 : Int32) (x2 : Int32) : Option Int32 :=
  f_X7_opened_5 K m a0 x1 x2 FU (0 : Int32) (0 : Int32)

def F_X7_opened (K : Kn) (m : Mem) (a0 : Nat) (x1 : Int32) (x2 : Int32) : Option Int32 := f_X7_opened K m a0 x1 x2

def f_X5_lastStamp (K : Kn) (m : Mem) (a0 : Nat) : Option Int32 :=
  if (gI m a0 2) ≤ 0 then
    some (-1 : Int32)
  else
    (ldA K m a0 0 0).bind fun b2 =>
    (alI K m b2 ((gI m a0 2) - (1 : Int32))).bind fun r3 =>
    some r3

def F_X5_lastStamp (K : Kn) (m : Mem) (a0 : Nat) : Option Int32 := f_X5_lastStamp K m a0

def f_X3_isNumber (x0 : Int64) : Option Int32 :=
  if 0 < (lg_cmp (x0 &&& (9223372036854775807 : Int64)) (9218868437227405312 : Int64)) then
    some (0 : Int32)
  else
    some (1 : Int32)

def F_X3_isNumber (x0 : Int64) : Option Int32 := f_X3_isNumber x0

def f_X3_isInfinite (x0 : Int64) : Option Int32 :=
  if (lg_cmp (x0 &&& (9223372036854775807 : Int64)) (9218868437227405312 : Int64)) = 0 then
    some (1 : Int32)
  else
    some (0 : Int32)

def F_X3_isInfinite (x0 : Int64) : Option Int32 := f_X3_isInfinite x0

def f_X5_countKind_82 (K : Kn) (m : Mem) (a0 : Nat) (x1 : Int32) (k4 : Int32 → Int32 → Option Int32) (x2 : Int32) (x3 : Int32) : Option Int32 :=
  bd (x3 + (1 : Int32)) fun z1 =>
  k4 x2 z1

def f_X5_countKind_72 (K : Kn) (m : Mem) (a0 : Nat) (x1 : Int32) (k4 : Int32 → Int32 → Option Int32) (x2 : Int32) (x3 : Int32) (s0 : Int32) : Option Int32 :=
  if s0 = 0 then
    f_X5_countKind_82 K m a0 x1 k4 x2 x3
  else
    bd (x2 + (1 : Int32)) fun z2 =>
    f_X5_countKind_82 K m a0 x1 k4 z2 x3

def f_X5_countKind_4B (K : Kn) (m : Mem) (a0 : Nat) (x1 : Int32) (k4 : Int32 → Int32 → Option Int32) (x2 : Int32) (x3 : Int32) : Option Int32 :=
  if (gI m a0 2) ≤ x3 then
    some x2
  else
    if x1 = (4 : Int32) then
      (ldA K m a0 1 1).bind fun b3 =>
      (alJ K m b3 x3).bind fun r4 =>
      (F_X3_isNumber r4).bind fun q5 =>
      if q5 = 0 then
        f_X5_countKind_72 K m a0 x1 k4 x2 x3 (1 : Int32)
      else
        f_X5_countKind_72 K m a0 x1 k4 x2 x3 (0 : Int32)
    else
      if x1 = (5 : Int32) then
        (ldA K m a0 1 1).bind fun b8 =>
        (alJ K m b8 x3).bind fun r9 =>
        if (lg_cmp r9 (-9223372036854775808 : Int64)) = 0 then
          f_X5_countKind_72 K m a0 x1 k4 x2 x3 (1 : Int32)
        else
          f_X5_countKind_72 K m a0 x1 k4 x2 x3 (0 : Int32)
      else
        (ldA K m a0 1 1).bind fun b11 =>
        (alJ K m b11 x3).bind fun r12 =>
        (F_X3_isInfinite r12).bind fun q13 =>
        f_X5_countKind_72 K m a0 x1 k4 x2 x3 q13

def f_X5_countKind_4 (K : Kn) (m : Mem) (a0 : Nat) (x1 : Int32) (n : Nat) : Int32 → Int32 → Option Int32 := lpM (fun _ _ => none) (f_X5_countKind_4B K m a0 x1) n

def f_X5_countKind (K : Kn) (m : Mem) (a0 : Nat) (x1 : Int32) : Option Int32 :=
  f_X5_countKind_4 K m a0 x1 FU (0 : Int32) (0 : Int32)

def F_X5_countKind (K : Kn) (m : Mem) (a0 : Nat) (x1 : Int32) : Option Int32 := f_X5_countKind K m a0 x1

def f_X8_span_136 (K : Kn) (a0 : Nat) (x1 : Int32) (x2 : Int32) (x3 : Int32) (x4 : Int32) (m : Mem) : Option (Int32 × Mem) :=
  (ldO K m a0 2 4).bind fun b1 =>
  (F_X5_countKind K m b1 x4).bind fun q2 =>
  some (q2, m)

def f_X8_span_96 (K : Kn) (a0 : Nat) (x1 : Int32) (x2 : Int32) (x3 : Int32) (x4 : Int32) (m : Mem) : Option (Int32 × Mem) :=
  (ldO K m a0 2 4).bind fun b1 =>
  some (gI m b1 2, m)

def f_X8_span_104 (K : Kn) (a0 : Nat) (x1 : Int32) (x2 : Int32) (x3 : Int32) (x4 : Int32) (m : Mem) : Option (Int32 × Mem) :=
  (ldO K m a0 2 4).bind fun b1 =>
  if (gI m b1 2) ≤ 0 then
    some ((-1 : Int32), m)
  else
    (ldO K m a0 2 4).bind fun b3 =>
    (ldA K m b3 0 0).bind fun b4 =>
    (alI K m b4 (0 : Int32)).bind fun r5 =>
    some (r5, m)

def f_X8_span_128 (K : Kn) (a0 : Nat) (x1 : Int32) (x2 : Int32) (x3 : Int32) (x4 : Int32) (m : Mem) : Option (Int32 × Mem) :=
  (ldO K m a0 2 4).bind fun b1 =>
  (F_X5_lastStamp K m b1).bind fun q2 =>
  some (q2, m)

def f_X8_span (K : Kn) (a0 : Nat) (x1 : Int32) (x2 : Int32) (x3 : Int32) (x4 : Int32) (m : Mem) : Option (Int32 × Mem) :=
  (F_X8_isNone K m a0 x1).bind fun q1 =>
  if q1 = 0 then
    if x3 < x2 then
      some ((-2 : Int32), m)
    else
      if x4 < 0 then
        some ((-2 : Int32), m)
      else
        if x4 ≤ (6 : Int32) then
          if x4 = (1 : Int32) then
            (ldA K m a0 0 3).bind fun b7 =>
            (alO K m b7 x1 6).bind fun b8 =>
            (F_X7_opened K m b8 x2 x3).bind fun q9 =>
            some (q9, m)
          else
            (ldA K m a0 0 3).bind fun b10 =>
            (alO K m b10 x1 6).bind fun b11 =>
            (ldO K m a0 5 5).bind fun b12 =>
            (ldO K m a0 2 4).bind fun b13 =>
            (F_X7_gather K m b11 x2 x3 b12 b13).bind fun q14 =>
            if x4 = 0 then
              f_X8_span_96 K a0 x1 x2 x3 x4 q14
            else
            if x4 = 1 then
              f_X8_span_136 K a0 x1 x2 x3 x4 q14
            else
            if x4 = 2 then
              f_X8_span_104 K a0 x1 x2 x3 x4 q14
            else
            if x4 = 3 then
              f_X8_span_128 K a0 x1 x2 x3 x4 q14
            else
            f_X8_span_136 K a0 x1 x2 x3 x4 q14
        else
          some ((-2 : Int32), m)
  else
    some ((-2 : Int32), m)

def F_X8_span (K : Kn) (m : Mem) (a0 : Nat) (x1 : Int32) (x2 : Int32) (x3 : Int32) (x4 : Int32) : Option (Int32 × Mem) := f_X8_span K a0 x1 x2 x3 x4 m

def f_X5_keep (K : Kn) (a0 : Nat) (x1 : Int32) (x2 : Int32) (m : Mem) : Option Mem :=
  (ldA K m a0 0 0).bind fun b1 =>
  (ldA K m a0 0 0).bind fun b2 =>
  (alI K m b2 x2).bind fun r3 =>
  (asI K m b1 x1 r3).bind fun m4 =>
  (ldA K m4 a0 1 1).bind fun b5 =>
  (ldA K m4 a0 1 1).bind fun b6 =>
  (alJ K m4 b6 x2).bind fun r7 =>
  (asJ K m4 b5 x1 r7).bind fun m8 =>
  some m8

def F_X5_keep (K : Kn) (m : Mem) (a0 : Nat) (x1 : Int32) (x2 : Int32) : Option Mem := f_X5_keep K a0 x1 x2 m

def f_X5_keepNumbers_33 (K : Kn) (a0 : Nat) (k4 : Mem → Int32 → Int32 → Option Mem) (m : Mem) (x1 : Int32) (x2 : Int32) : Option Mem :=
  bd (x2 + (1 : Int32)) fun z1 =>
  k4 m x1 z1

def f_X5_keepNumbers_4B (K : Kn) (a0 : Nat) (k4 : Mem → Int32 → Int32 → Option Mem) (m : Mem) (x1 : Int32) (x2 : Int32) : Option Mem :=
  if (gI m a0 2) ≤ x2 then
    bd (sI m a0 2 x1) fun m2 =>
    some m2
  else
    (ldA K m a0 1 1).bind fun b3 =>
    (alJ K m b3 x2).bind fun r4 =>
    (F_X3_isNumber r4).bind fun q5 =>
    if q5 = 0 then
      f_X5_keepNumbers_33 K a0 k4 m x1 x2
    else
      (F_X5_keep K m a0 x1 x2).bind fun q7 =>
      bd (x1 + (1 : Int32)) fun z8 =>
      f_X5_keepNumbers_33 K a0 k4 q7 z8 x2

def f_X5_keepNumbers_4 (K : Kn) (a0 : Nat) (n : Nat) : Mem → Int32 → Int32 → Option Mem := lpM (fun _ _ _ => none) (f_X5_keepNumbers_4B K a0) n

def f_X5_keepNumbers (K : Kn) (a0 : Nat) (m : Mem) : Option Mem :=
  f_X5_keepNumbers_4 K a0 FU m (0 : Int32) (0 : Int32)

def F_X5_keepNumbers (K : Kn) (m : Mem) (a0 : Nat) : Option Mem := f_X5_keepNumbers K a0 m

def f_X3_order (x0 : Int64) : Option Int64 :=
  if (lg_cmp x0 (0 : Int64)) < 0 then
    some (-(x0 &&& (9223372036854775807 : Int64)))
  else
    some x0

def F_X3_order (x0 : Int64) : Option Int64 := f_X3_order x0

def f_X5_leastOf_41 (K : Kn) (m : Mem) (a0 : Nat) (k9 : Int64 → Int32 → Option Int64) (x1 : Int64) (x3 : Int32) : Option Int64 :=
  bd (x3 + (1 : Int32)) fun z1 =>
  k9 x1 z1

def f_X5_leastOf_9B (K : Kn) (m : Mem) (a0 : Nat) (k9 : Int64 → Int32 → Option Int64) (x1 : Int64) (x3 : Int32) : Option Int64 :=
  if (gI m a0 2) ≤ x3 then
    some x1
  else
    (ldA K m a0 1 1).bind fun b2 =>
    (alJ K m b2 x3).bind fun r3 =>
    (F_X3_order r3).bind fun q4 =>
    (F_X3_order x1).bind fun q5 =>
    if 0 ≤ (lg_cmp q4 q5) then
      f_X5_leastOf_41 K m a0 k9 x1 x3
    else
      (ldA K m a0 1 1).bind fun b7 =>
      (alJ K m b7 x3).bind fun r8 =>
      f_X5_leastOf_41 K m a0 k9 r8 x3

def f_X5_leastOf_9 (K : Kn) (m : Mem) (a0 : Nat) (n : Nat) : Int64 → Int32 → Option Int64 := lpM (fun _ _ => none) (f_X5_leastOf_9B K m a0) n

def f_X5_leastOf (K : Kn) (m : Mem) (a0 : Nat) : Option Int64 :=
  (ldA K m a0 1 1).bind fun b1 =>
  (alJ K m b1 (0 : Int32)).bind fun r2 =>
  f_X5_leastOf_9 K m a0 FU r2 (1 : Int32)

def F_X5_leastOf (K : Kn) (m : Mem) (a0 : Nat) : Option Int64 := f_X5_leastOf K m a0

def f_X5_greatestOf_41 (K : Kn) (m : Mem) (a0 : Nat) (k9 : Int64 → Int32 → Option Int64) (x1 : Int64) (x3 : Int32) : Option Int64 :=
  bd (x3 + (1 : Int32)) fun z1 =>
  k9 x1 z1

def f_X5_greatestOf_9B (K : Kn) (m : Mem) (a0 : Nat) (k9 : Int64 → Int32 → Option Int64) (x1 : Int64) (x3 : Int32) : Option Int64 :=
  if (gI m a0 2) ≤ x3 then
    some x1
  else
    (ldA K m a0 1 1).bind fun b2 =>
    (alJ K m b2 x3).bind fun r3 =>
    (F_X3_order r3).bind fun q4 =>
    (F_X3_order x1).bind fun q5 =>
    if (lg_cmp q4 q5) ≤ 0 then
      f_X5_greatestOf_41 K m a0 k9 x1 x3
    else
      (ldA K m a0 1 1).bind fun b7 =>
      (alJ K m b7 x3).bind fun r8 =>
      f_X5_greatestOf_41 K m a0 k9 r8 x3

def f_X5_greatestOf_9 (K : Kn) (m : Mem) (a0 : Nat) (n : Nat) : Int64 → Int32 → Option Int64 := lpM (fun _ _ => none) (f_X5_greatestOf_9B K m a0) n

def f_X5_greatestOf (K : Kn) (m : Mem) (a0 : Nat) : Option Int64 :=
  (ldA K m a0 1 1).bind fun b1 =>
  (alJ K m b1 (0 : Int32)).bind fun r2 =>
  f_X5_greatestOf_9 K m a0 FU r2 (1 : Int32)

def F_X5_greatestOf (K : Kn) (m : Mem) (a0 : Nat) : Option Int64 := f_X5_greatestOf K m a0

def f_X3_exponent (x0 : Int64) : Option Int32 :=
  (F_J9_max_7cf53 (1 : Int32) ((lushr (x0 &&& (9223372036854775807 : Int64)) (52 : Int32)).toInt32)).bind fun q1 =>
  some q1

def F_X3_exponent (x0 : Int64) : Option Int32 := f_X3_exponent x0

def f_X3_fraction (x0 : Int64) : Option Int64 :=
  bd (x0 &&& (4503599627370495 : Int64)) fun z1 =>
  if (lg_cmp (x0 &&& (9218868437227405312 : Int64)) (0 : Int64)) = 0 then
    some z1
  else
    some (z1 ||| (4503599627370496 : Int64))

def F_X3_fraction (x0 : Int64) : Option Int64 := f_X3_fraction x0

def f_X3_shiftedDown_40 (x0 : Int64) (x2 : Int32) (s0 : Int64) (s1 : Int32) : Option Int64 :=
  some (s0 ||| ((s1).toInt64))

def f_X3_shiftedDown (x0 : Int64) (x2 : Int32) : Option Int64 :=
  if x2 ≤ (62 : Int32) then
    bd (x0 &&& ((lshl (1 : Int64) x2) - (1 : Int64))) fun z2 =>
    if (lg_cmp z2 (0 : Int64)) = 0 then
      f_X3_shiftedDown_40 x0 x2 (lushr x0 x2) (0 : Int32)
    else
      f_X3_shiftedDown_40 x0 x2 (lushr x0 x2) (1 : Int32)
  else
    if (lg_cmp x0 (0 : Int64)) = 0 then
      some (0 : Int64)
    else
      some (1 : Int64)

def F_X3_shiftedDown (x0 : Int64) (x2 : Int32) : Option Int64 := f_X3_shiftedDown x0 x2

def f_J9_min_f86c9 (x0 : Int64) (x2 : Int64) : Option Int64 :=
  if 0 < (lg_cmp x0 x2) then
    some x2
  else
    some x0

def F_J9_min_f86c9 (x0 : Int64) (x2 : Int64) : Option Int64 := f_J9_min_f86c9 x0 x2

def f_X3_roundedOff_155 (x0 : Int64) (x2 : Int32) (x3 : Int64) (s0 : Int64) : Option Int64 :=
  (F_J9_min_f86c9 s0 (9218868437227405312 : Int64)).bind fun q1 =>
  some (x0 ||| q1)

def f_X3_roundedOff_130 (x0 : Int64) (x2 : Int32) (x3 : Int64) (x6 : Int32) (x7 : Int64) : Option Int64 :=
  if x6 < (2047 : Int32) then
    f_X3_roundedOff_155 x0 x2 x3 ((lshl ((x6 - (1 : Int32)).toInt64) (52 : Int32)) + x7)
  else
    f_X3_roundedOff_155 x0 x2 x3 (9218868437227405312 : Int64)

def f_X3_roundedOff_124 (x0 : Int64) (x2 : Int32) (x3 : Int64) (x6 : Int32) (x7 : Int64) : Option Int64 :=
  bd (x7 + (1 : Int64)) fun z1 =>
  f_X3_roundedOff_130 x0 x2 x3 x6 z1

def f_X3_roundedOff_70 (x0 : Int64) (x2 : Int32) (x3 : Int64) (x6 : Int32) (x7 : Int64) : Option Int64 :=
  if (lg_cmp x7 (0 : Int64)) = 0 then
    some x0
  else
    bd (x7 &&& (255 : Int64)) fun z2 =>
    bd (lushr x7 (8 : Int32)) fun z3 =>
    if 0 < (lg_cmp z2 (128 : Int64)) then
      f_X3_roundedOff_124 x0 x2 x3 x6 z3
    else
      if (lg_cmp z2 (128 : Int64)) = 0 then
        if (lg_cmp (z3 &&& (1 : Int64)) (1 : Int64)) = 0 then
          f_X3_roundedOff_124 x0 x2 x3 x6 z3
        else
          f_X3_roundedOff_130 x0 x2 x3 x6 z3
      else
        f_X3_roundedOff_130 x0 x2 x3 x6 z3

def f_X3_roundedOff (x0 : Int64) (x2 : Int32) (x3 : Int64) : Option Int64 :=
  if (lg_cmp (lushr x3 ((60 : Int32) + (1 : Int32))) (0 : Int64)) = 0 then
    (F_J13_numberOfLeadingZeros_95d88 x3).bind fun q2 =>
    (F_J9_min_7cf53 (q2 - ((63 : Int32) - (60 : Int32))) (x2 - (1 : Int32))).bind fun q3 =>
    bd (lshl x3 q3) fun z4 =>
    bd (x2 - q3) fun z5 =>
    f_X3_roundedOff_70 x0 x2 x3 z5 z4
  else
    (F_X3_shiftedDown x3 (1 : Int32)).bind fun q6 =>
    bd (x2 + (1 : Int32)) fun z7 =>
    f_X3_roundedOff_70 x0 x2 x3 z7 q6

def F_X3_roundedOff (x0 : Int64) (x2 : Int32) (x3 : Int64) : Option Int64 := f_X3_roundedOff x0 x2 x3

def f_X3_plus_26 (x0 : Int64) (x2 : Int64) : Option Int64 :=
  some x0

def f_X3_plus_80 (x0 : Int64) (x2 : Int64) (x5 : Int64) (s0 : Int64) : Option Int64 :=
  (F_X3_exponent x5).bind fun q1 =>
  (F_X3_fraction x5).bind fun q2 =>
  bd (lshl q2 (8 : Int32)) fun z3 =>
  (F_X3_fraction s0).bind fun q4 =>
  (F_X3_exponent s0).bind fun q5 =>
  (F_X3_shiftedDown (lshl q4 (8 : Int32)) (q1 - q5)).bind fun q6 =>
  if (lg_cmp (x0 ^^^ x2) (0 : Int64)) < 0 then
    if (lg_cmp z3 q6) = 0 then
      some (0 : Int64)
    else
      (F_X3_roundedOff (x5 &&& (-9223372036854775808 : Int64)) q1 (z3 - q6)).bind fun q9 =>
      some q9
  else
    (F_X3_roundedOff (x5 &&& (-9223372036854775808 : Int64)) q1 (z3 + q6)).bind fun q10 =>
    some q10

def f_X3_plus_68 (x0 : Int64) (x2 : Int64) (x4 : Int32) (s0 : Int64) : Option Int64 :=
  if x4 = 0 then
    f_X3_plus_80 x0 x2 s0 x0
  else
    f_X3_plus_80 x0 x2 s0 x2

def f_X3_plus_56 (x0 : Int64) (x2 : Int64) (s0 : Int32) : Option Int64 :=
  if s0 = 0 then
    f_X3_plus_68 x0 x2 s0 x2
  else
    f_X3_plus_68 x0 x2 s0 x0

def f_X3_plus (x0 : Int64) (x2 : Int64) : Option Int64 :=
  (F_X3_isInfinite x0).bind fun q1 =>
  if q1 = 0 then
    (F_X3_isInfinite x2).bind fun q3 =>
    if q3 = 0 then
      if (lg_cmp (x0 &&& (9223372036854775807 : Int64)) (x2 &&& (9223372036854775807 : Int64))) < 0 then
        f_X3_plus_56 x0 x2 (0 : Int32)
      else
        f_X3_plus_56 x0 x2 (1 : Int32)
    else
      some x2
  else
    (F_X3_isInfinite x2).bind fun q6 =>
    if q6 = 0 then
      f_X3_plus_26 x0 x2
    else
      if (lg_cmp x0 x2) = 0 then
        f_X3_plus_26 x0 x2
      else
        some (9221120237041090560 : Int64)

def F_X3_plus (x0 : Int64) (x2 : Int64) : Option Int64 := f_X3_plus x0 x2

def f_X5_total_37 (K : Kn) (m : Mem) (a0 : Nat) (x1 : Int64) : Option Int64 :=
  some x1

def f_X5_total_4B (K : Kn) (m : Mem) (a0 : Nat) (k4 : Int64 → Int32 → Option Int64) (x1 : Int64) (x3 : Int32) : Option Int64 :=
  if (gI m a0 2) ≤ x3 then
    f_X5_total_37 K m a0 x1
  else
    if (lg_cmp x1 (9221120237041090560 : Int64)) = 0 then
      f_X5_total_37 K m a0 x1
    else
      (ldA K m a0 1 1).bind fun b3 =>
      (alJ K m b3 x3).bind fun r4 =>
      (F_X3_plus x1 r4).bind fun q5 =>
      bd (x3 + (1 : Int32)) fun z6 =>
      k4 q5 z6

def f_X5_total_4 (K : Kn) (m : Mem) (a0 : Nat) (n : Nat) : Int64 → Int32 → Option Int64 := lpM (fun _ _ => none) (f_X5_total_4B K m a0) n

def f_X5_total (K : Kn) (m : Mem) (a0 : Nat) : Option Int64 :=
  f_X5_total_4 K m a0 FU (0 : Int64) (0 : Int32)

def F_X5_total (K : Kn) (m : Mem) (a0 : Nat) : Option Int64 := f_X5_total K m a0

def f_X8_value_144 (K : Kn) (a0 : Nat) (x1 : Int32) (x2 : Int32) (x3 : Int32) (x4 : Int32) (m : Mem) : Option (Int64 × Mem) :=
  (ldO K m a0 2 4).bind fun b1 =>
  (F_X5_total K m b1).bind fun q2 =>
  some (q2, m)

def f_X8_value_100 (K : Kn) (a0 : Nat) (x1 : Int32) (x2 : Int32) (x3 : Int32) (x4 : Int32) (m : Mem) : Option (Int64 × Mem) :=
  (ldO K m a0 2 4).bind fun b1 =>
  (ldA K m b1 1 1).bind fun b2 =>
  (alJ K m b2 (0 : Int32)).bind fun r3 =>
  some (r3, m)

def f_X8_value_110 (K : Kn) (a0 : Nat) (x1 : Int32) (x2 : Int32) (x3 : Int32) (x4 : Int32) (m : Mem) : Option (Int64 × Mem) :=
  (ldO K m a0 2 4).bind fun b1 =>
  (ldA K m b1 1 1).bind fun b2 =>
  (ldO K m a0 2 4).bind fun b3 =>
  (alJ K m b2 ((gI m b3 2) - (1 : Int32))).bind fun r4 =>
  some (r4, m)

def f_X8_value_128 (K : Kn) (a0 : Nat) (x1 : Int32) (x2 : Int32) (x3 : Int32) (x4 : Int32) (m : Mem) : Option (Int64 × Mem) :=
  (ldO K m a0 2 4).bind fun b1 =>
  (F_X5_leastOf K m b1).bind fun q2 =>
  some (q2, m)

def f_X8_value_136 (K : Kn) (a0 : Nat) (x1 : Int32) (x2 : Int32) (x3 : Int32) (x4 : Int32) (m : Mem) : Option (Int64 × Mem) :=
  (ldO K m a0 2 4).bind fun b1 =>
  (F_X5_greatestOf K m b1).bind fun q2 =>
  some (q2, m)

def f_X8_value (K : Kn) (a0 : Nat) (x1 : Int32) (x2 : Int32) (x3 : Int32) (x4 : Int32) (m : Mem) : Option (Int64 × Mem) :=
  (F_X8_isNone K m a0 x1).bind fun q1 =>
  if q1 = 0 then
    if x3 < x2 then
      some ((9221120237041090560 : Int64), m)
    else
      if x4 < 0 then
        some ((9221120237041090560 : Int64), m)
      else
        if x4 ≤ (4 : Int32) then
          (ldA K m a0 0 3).bind fun b6 =>
          (alO K m b6 x1 6).bind fun b7 =>
          (ldO K m a0 5 5).bind fun b8 =>
          (ldO K m a0 2 4).bind fun b9 =>
          (F_X7_gather K m b7 x2 x3 b8 b9).bind fun q10 =>
          (ldO K q10 a0 2 4).bind fun b11 =>
          (F_X5_keepNumbers K q10 b11).bind fun q12 =>
          (ldO K q12 a0 2 4).bind fun b13 =>
          if (gI q12 b13 2) = 0 then
            some ((9221120237041090560 : Int64), q12)
          else
            if x4 = 0 then
              f_X8_value_100 K a0 x1 x2 x3 x4 q12
            else
            if x4 = 1 then
              f_X8_value_110 K a0 x1 x2 x3 x4 q12
            else
            if x4 = 2 then
              f_X8_value_128 K a0 x1 x2 x3 x4 q12
            else
            if x4 = 3 then
              f_X8_value_136 K a0 x1 x2 x3 x4 q12
            else
            f_X8_value_144 K a0 x1 x2 x3 x4 q12
        else
          some ((9221120237041090560 : Int64), m)
  else
    some ((9221120237041090560 : Int64), m)

def F_X8_value (K : Kn) (m : Mem) (a0 : Nat) (x1 : Int32) (x2 : Int32) (x3 : Int32) (x4 : Int32) : Option (Int64 × Mem) := f_X8_value K a0 x1 x2 x3 x4 m

def f_Jxe99ae_isNaN_b9ae7 (x0 : UInt64) : Option Int32 :=
  if (Op.cmpValue (FP.dcmp x0 x0) .l) = 0 then
    some (0 : Int32)
  else
    some (1 : Int32)

def F_Jxe99ae_isNaN_b9ae7 (x0 : UInt64) : Option Int32 := f_Jxe99ae_isNaN_b9ae7 x0

def f_Jxe99ae_doubleToLongBits_ccdee (x0 : UInt64) : Option Int64 :=
  (F_Jxe99ae_isNaN_b9ae7 x0).bind fun q1 =>
  if q1 = 0 then
    gd (isNaN64 x0 = false) <|
    some ((x0).toInt64)
  else
    some (9221120237041090560 : Int64)

def F_Jxe99ae_doubleToLongBits_ccdee (x0 : UInt64) : Option Int64 := f_Jxe99ae_doubleToLongBits_ccdee x0

def f_X5_countAbove_35 (K : Kn) (m : Mem) (a0 : Nat) (x1 : Int64) (k5 : Int32 → Int32 → Option Int32) (x3 : Int32) (x4 : Int32) : Option Int32 :=
  bd (x4 + (1 : Int32)) fun z1 =>
  k5 x3 z1

def f_X5_countAbove_5B (K : Kn) (m : Mem) (a0 : Nat) (x1 : Int64) (k5 : Int32 → Int32 → Option Int32) (x3 : Int32) (x4 : Int32) : Option Int32 :=
  if (gI m a0 2) ≤ x4 then
    some x3
  else
    (ldA K m a0 1 1).bind fun b2 =>
    (alJ K m b2 x4).bind fun r3 =>
    (F_X3_order r3).bind fun q4 =>
    (F_X3_order x1).bind fun q5 =>
    if (lg_cmp q4 q5) ≤ 0 then
      f_X5_countAbove_35 K m a0 x1 k5 x3 x4
    else
      bd (x3 + (1 : Int32)) fun z7 =>
      f_X5_countAbove_35 K m a0 x1 k5 z7 x4

def f_X5_countAbove_5 (K : Kn) (m : Mem) (a0 : Nat) (x1 : Int64) (n : Nat) : Int32 → Int32 → Option Int32 := lpM (fun _ _ => none) (f_X5_countAbove_5B K m a0 x1) n

def f_X5_countAbove (K : Kn) (m : Mem) (a0 : Nat) (x1 : Int64) : Option Int32 :=
  f_X5_countAbove_5 K m a0 x1 FU (0 : Int32) (0 : Int32)

def F_X5_countAbove (K : Kn) (m : Mem) (a0 : Nat) (x1 : Int64) : Option Int32 := f_X5_countAbove K m a0 x1

def f_X8_above (K : Kn) (a0 : Nat) (x1 : Int32) (x2 : Int32) (x3 : Int32) (x4 : Int64) (m : Mem) : Option (Int32 × Mem) :=
  (F_X8_isNone K m a0 x1).bind fun q1 =>
  if q1 = 0 then
    if x2 ≤ x3 then
      (F_X3_isNumber x4).bind fun q4 =>
      if q4 = 0 then
        some ((-1 : Int32), m)
      else
        (ldA K m a0 0 3).bind fun b6 =>
        (alO K m b6 x1 6).bind fun b7 =>
        (ldO K m a0 5 5).bind fun b8 =>
        (ldO K m a0 2 4).bind fun b9 =>
        (F_X7_gather K m b7 x2 x3 b8 b9).bind fun q10 =>
        (ldO K q10 a0 2 4).bind fun b11 =>
        (F_X5_keepNumbers K q10 b11).bind fun q12 =>
        (ldO K q12 a0 2 4).bind fun b13 =>
        (F_X5_countAbove K q12 b13 x4).bind fun q14 =>
        some (q14, q12)
    else
      some ((-2 : Int32), m)
  else
    some ((-2 : Int32), m)

def F_X8_above (K : Kn) (m : Mem) (a0 : Nat) (x1 : Int32) (x2 : Int32) (x3 : Int32) (x4 : Int64) : Option (Int32 × Mem) := f_X8_above K a0 x1 x2 x3 x4 m

def f_X6_countWay_45 (K : Kn) (a0 : Nat) (a1 : Nat) (x2 : Int32) (k10 : Mem → Int32 → Int32 → Option (Int32 × Mem)) (m : Mem) (x3 : Int32) (x4 : Int32) : Option (Int32 × Mem) :=
  bd (x4 + (1 : Int32)) fun z1 =>
  k10 m x3 z1

def f_X6_countWay_42 (K : Kn) (a0 : Nat) (a1 : Nat) (x2 : Int32) (k10 : Mem → Int32 → Int32 → Option (Int32 × Mem)) (m : Mem) (x3 : Int32) (x4 : Int32) : Option (Int32 × Mem) :=
  bd (x3 + (1 : Int32)) fun z1 =>
  f_X6_countWay_45 K a0 a1 x2 k10 m z1 x4

def f_X6_countWay_51 (K : Kn) (a0 : Nat) (a1 : Nat) (x2 : Int32) (m : Mem) (x3 : Int32) : Option (Int32 × Mem) :=
  some (x3, m)

def f_X6_countWay_10B (K : Kn) (a0 : Nat) (a1 : Nat) (x2 : Int32) (k10 : Mem → Int32 → Int32 → Option (Int32 × Mem)) (m : Mem) (x3 : Int32) (x4 : Int32) : Option (Int32 × Mem) :=
  if (gI m a1 3) ≤ x4 then
    f_X6_countWay_51 K a0 a1 x2 m x3
  else
    (F_X6_read K m a0).bind fun q2 =>
    if q2.1 = 0 then
      if x2 = (gI q2.2 a0 11) then
        f_X6_countWay_42 K a0 a1 x2 k10 q2.2 x3 x4
      else
        if x2 = (gI q2.2 a0 12) then
          f_X6_countWay_42 K a0 a1 x2 k10 q2.2 x3 x4
        else
          f_X6_countWay_45 K a0 a1 x2 k10 q2.2 x3 x4
    else
      f_X6_countWay_51 K a0 a1 x2 q2.2 x3

def f_X6_countWay_10 (K : Kn) (a0 : Nat) (a1 : Nat) (x2 : Int32) (n : Nat) : Mem → Int32 → Int32 → Option (Int32 × Mem) := lpM (fun _ _ _ => none) (f_X6_countWay_10B K a0 a1 x2) n

def f_X6_countWay (K : Kn) (a0 : Nat) (a1 : Nat) (x2 : Int32) (m : Mem) : Option (Int32 × Mem) :=
  (F_X6_open K m a0 a1).bind fun q1 =>
  f_X6_countWay_10 K a0 a1 x2 FU q1 (0 : Int32) (1 : Int32)

def F_X6_countWay (K : Kn) (m : Mem) (a0 : Nat) (a1 : Nat) (x2 : Int32) : Option (Int32 × Mem) := f_X6_countWay K a0 a1 x2 m

def f_X8_ways_75 (K : Kn) (a0 : Nat) (x1 : Int32) (x2 : Int32) (k34 : Mem → Nat → Int32 → Int32 → Option (Int32 × Mem)) (m : Mem) (a3 : Nat) (x4 : Int32) (x5 : Int32) : Option (Int32 × Mem) :=
  bd (x5 + (1 : Int32)) fun z1 =>
  k34 m a3 x4 z1

def f_X8_ways_34B (K : Kn) (a0 : Nat) (x1 : Int32) (x2 : Int32) (k34 : Mem → Nat → Int32 → Int32 → Option (Int32 × Mem)) (m : Mem) (a3 : Nat) (x4 : Int32) (x5 : Int32) : Option (Int32 × Mem) :=
  if (gI m a3 3) ≤ x5 then
    some (x4, m)
  else
    (ldA K m a3 0 4).bind fun b2 =>
    (alO K m b2 x5 0).bind fun b3 =>
    if (gI m b3 7) = 0 then
      (ldO K m a0 5 5).bind fun b5 =>
      (F_X6_countWay K m b5 b3 x2).bind fun q6 =>
      bd (x4 + q6.1) fun z7 =>
      f_X8_ways_75 K a0 x1 x2 k34 q6.2 a3 z7 x5
    else
      f_X8_ways_75 K a0 x1 x2 k34 m a3 x4 x5

def f_X8_ways_34 (K : Kn) (a0 : Nat) (x1 : Int32) (x2 : Int32) (n : Nat) : Mem → Nat → Int32 → Int32 → Option (Int32 × Mem) := lpM (fun _ _ _ _ => none) (f_X8_ways_34B K a0 x1 x2) n

def f_X8_ways (K : Kn) (a0 : Nat) (x1 : Int32) (x2 : Int32) (m : Mem) : Option (Int32 × Mem) :=
  (F_X8_isNone K m a0 x1).bind fun q1 =>
  if q1 = 0 then
    if x2 < 0 then
      some ((-2 : Int32), m)
    else
      if x2 ≤ (7 : Int32) then
        (ldA K m a0 0 3).bind fun b5 =>
        (alO K m b5 x1 6).bind fun b6 =>
        f_X8_ways_34 K a0 x1 x2 FU m b6 (0 : Int32) (0 : Int32)
      else
        some ((-2 : Int32), m)
  else
    some ((-2 : Int32), m)

def F_X8_ways (K : Kn) (m : Mem) (a0 : Nat) (x1 : Int32) (x2 : Int32) : Option (Int32 × Mem) := f_X8_ways K a0 x1 x2 m

def f_X8_window (K : Kn) (m : Mem) (a0 : Nat) (x1 : Int32) (x2 : Int32) : Option Int32 :=
  (F_X8_isNone K m a0 x1).bind fun q1 =>
  if q1 = 0 then
    if x2 < 0 then
      some (-2 : Int32)
    else
      if x2 ≤ (1 : Int32) then
        (ldA K m a0 0 3).bind fun b5 =>
        (alO K m b5 x1 6).bind fun b6 =>
        (F_X7_openBlock K m b6).bind fun q7 =>
        caseO q7 (
          some (-1 : Int32)) fun b8 =>
          gd (K b8 = some (.inl 0)) <|
          (ldO K m b6 2 1).bind fun b9 =>
          if (gI m b9 3) = (-1 : Int32) then
            some (-1 : Int32)
          else
            if x2 = 0 then
              (ldO K m b6 2 1).bind fun b12 =>
              some (gI m b12 3)
            else
              (ldO K m b6 2 1).bind fun b13 =>
              some (gI m b13 4)
      else
        some (-2 : Int32)
  else
    some (-2 : Int32)

def F_X8_window (K : Kn) (m : Mem) (a0 : Nat) (x1 : Int32) (x2 : Int32) : Option Int32 := f_X8_window K m a0 x1 x2

def f_X5_longestGap_54 (K : Kn) (m : Mem) (a0 : Nat) (x1 : Int32) (k7 : Int32 → Int32 → Int32 → Option Int32) (x2 : Int32) (x3 : Int32) (x4 : Int32) : Option Int32 :=
  bd (x4 + (1 : Int32)) fun z1 =>
  k7 x2 x3 z1

def f_X5_longestGap_7B (K : Kn) (m : Mem) (a0 : Nat) (x1 : Int32) (k7 : Int32 → Int32 → Int32 → Option Int32) (x2 : Int32) (x3 : Int32) (x4 : Int32) : Option Int32 :=
  if (gI m a0 2) ≤ x4 then
    if x1 = 0 then
      some x3
    else
      some x2
  else
    (ldA K m a0 0 0).bind fun b3 =>
    (alI K m b3 x4).bind fun r4 =>
    (ldA K m a0 0 0).bind fun b5 =>
    (alI K m b5 (x4 - (1 : Int32))).bind fun r6 =>
    bd (r4 - r6) fun z7 =>
    if z7 ≤ x2 then
      f_X5_longestGap_54 K m a0 x1 k7 x2 x3 x4
    else
      (ldA K m a0 0 0).bind fun b9 =>
      (alI K m b9 (x4 - (1 : Int32))).bind fun r10 =>
      f_X5_longestGap_54 K m a0 x1 k7 z7 r10 x4

def f_X5_longestGap_7 (K : Kn) (m : Mem) (a0 : Nat) (x1 : Int32) (n : Nat) : Int32 → Int32 → Int32 → Option Int32 := lpM (fun _ _ _ => none) (f_X5_longestGap_7B K m a0 x1) n

def f_X5_longestGap (K : Kn) (m : Mem) (a0 : Nat) (x1 : Int32) : Option Int32 :=
  f_X5_longestGap_7 K m a0 x1 FU (-1 : Int32) (-1 : Int32) (1 : Int32)

def F_X5_longestGap (K : Kn) (m : Mem) (a0 : Nat) (x1 : Int32) : Option Int32 := f_X5_longestGap K m a0 x1

def f_X8_gap_34 (K : Kn) (a0 : Nat) (x1 : Int32) (x2 : Int32) (m : Mem) (sa0 : Nat) (s1 : Int32) : Option (Int32 × Mem) :=
  (F_X5_longestGap K m sa0 s1).bind fun q1 =>
  some (q1, m)

def f_X8_gap (K : Kn) (a0 : Nat) (x1 : Int32) (x2 : Int32) (m : Mem) : Option (Int32 × Mem) :=
  (F_X8_isNone K m a0 x1).bind fun q1 =>
  if q1 = 0 then
    if x2 < 0 then
      some ((-2 : Int32), m)
    else
      if x2 ≤ (1 : Int32) then
        (F_X8_gathered K m a0 x1).bind fun q5 =>
        gd (K q5.1 = some (.inl 4)) <|
        if x2 = 0 then
          f_X8_gap_34 K a0 x1 x2 q5.2 q5.1 (1 : Int32)
        else
          f_X8_gap_34 K a0 x1 x2 q5.2 q5.1 (0 : Int32)
      else
        some ((-2 : Int32), m)
  else
    some ((-2 : Int32), m)

def F_X8_gap (K : Kn) (m : Mem) (a0 : Nat) (x1 : Int32) (x2 : Int32) : Option (Int32 × Mem) := f_X8_gap K a0 x1 x2 m

def f_X5_longestSame_43 (K : Kn) (m : Mem) (a0 : Nat) (k6 : Int32 → Int32 → Int32 → Option Int32) (x1 : Int32) (x3 : Int32) (s0 : Int32) : Option Int32 :=
  (F_J9_max_7cf53 x1 s0).bind fun q1 =>
  bd (x3 + (1 : Int32)) fun z2 =>
  k6 q1 s0 z2

def f_X5_longestSame_42 (K : Kn) (m : Mem) (a0 : Nat) (k6 : Int32 → Int32 → Int32 → Option Int32) (x1 : Int32) (x3 : Int32) : Option Int32 :=
  f_X5_longestSame_43 K m a0 k6 x1 x3 (1 : Int32)

def f_X5_longestSame_6B (K : Kn) (m : Mem) (a0 : Nat) (k6 : Int32 → Int32 → Int32 → Option Int32) (x1 : Int32) (x2 : Int32) (x3 : Int32) : Option Int32 :=
  if (gI m a0 2) ≤ x3 then
    some x1
  else
    if x3 ≤ 0 then
      f_X5_longestSame_42 K m a0 k6 x1 x3
    else
      (ldA K m a0 1 1).bind fun b3 =>
      (alJ K m b3 x3).bind fun r4 =>
      (ldA K m a0 1 1).bind fun b5 =>
      (alJ K m b5 (x3 - (1 : Int32))).bind fun r6 =>
      if (lg_cmp r4 r6) = 0 then
        f_X5_longestSame_43 K m a0 k6 x1 x3 (x2 + (1 : Int32))
      else
        f_X5_longestSame_42 K m a0 k6 x1 x3

def f_X5_longestSame_6 (K : Kn) (m : Mem) (a0 : Nat) (n : Nat) : Int32 → Int32 → Int32 → Option Int32 := lpM (fun _ _ _ => none) (f_X5_longestSame_6B K m a0) n

def f_X5_longestSame (K : Kn) (m : Mem) (a0 : Nat) : Option Int32 :=
  f_X5_longestSame_6 K m a0 FU (0 : Int32) (0 : Int32) (0 : Int32)

def F_X5_longestSame (K : Kn) (m : Mem) (a0 : Nat) : Option Int32 := f_X5_longestSame K m a0

def f_X5_longestRise_67 (K : Kn) (m : Mem) (a0 : Nat) (k6 : Int32 → Int32 → Int32 → Option Int32) (x1 : Int32) (x2 : Int32) (x3 : Int32) : Option Int32 :=
  (F_J9_max_7cf53 x1 x2).bind fun q1 =>
  bd (x3 + (1 : Int32)) fun z2 =>
  k6 q1 x2 z2

def f_X5_longestRise_65 (K : Kn) (m : Mem) (a0 : Nat) (k6 : Int32 → Int32 → Int32 → Option Int32) (x1 : Int32) (x3 : Int32) : Option Int32 :=
  f_X5_longestRise_67 K m a0 k6 x1 (1 : Int32) x3

def f_X5_longestRise_6B (K : Kn) (m : Mem) (a0 : Nat) (k6 : Int32 → Int32 → Int32 → Option Int32) (x1 : Int32) (x2 : Int32) (x3 : Int32) : Option Int32 :=
  if (gI m a0 2) ≤ x3 then
    some x1
  else
    (ldA K m a0 1 1).bind fun b2 =>
    (alJ K m b2 x3).bind fun r3 =>
    (F_X3_isNumber r3).bind fun q4 =>
    if q4 = 0 then
      f_X5_longestRise_67 K m a0 k6 x1 (0 : Int32) x3
    else
      if x2 ≤ 0 then
        f_X5_longestRise_65 K m a0 k6 x1 x3
      else
        (ldA K m a0 1 1).bind fun b7 =>
        (alJ K m b7 x3).bind fun r8 =>
        (F_X3_order r8).bind fun q9 =>
        (ldA K m a0 1 1).bind fun b10 =>
        (alJ K m b10 (x3 - (1 : Int32))).bind fun r11 =>
        (F_X3_order r11).bind fun q12 =>
        if (lg_cmp q9 q12) ≤ 0 then
          f_X5_longestRise_65 K m a0 k6 x1 x3
        else
          bd (x2 + (1 : Int32)) fun z14 =>
          f_X5_longestRise_67 K m a0 k6 x1 z14 x3

def f_X5_longestRise_6 (K : Kn) (m : Mem) (a0 : Nat) (n : Nat) : Int32 → Int32 → Int32 → Option Int32 := lpM (fun _ _ _ => none) (f_X5_longestRise_6B K m a0) n

def f_X5_longestRise (K : Kn) (m : Mem) (a0 : Nat) : Option Int32 :=
  f_X5_longestRise_6 K m a0 FU (0 : Int32) (0 : Int32) (0 : Int32)

def F_X5_longestRise (K : Kn) (m : Mem) (a0 : Nat) : Option Int32 := f_X5_longestRise K m a0

def f_X8_row (K : Kn) (a0 : Nat) (x1 : Int32) (x2 : Int32) (m : Mem) : Option (Int32 × Mem) :=
  (F_X8_isNone K m a0 x1).bind fun q1 =>
  if q1 = 0 then
    if x2 < 0 then
      some ((-2 : Int32), m)
    else
      if x2 ≤ (1 : Int32) then
        (F_X8_gathered K m a0 x1).bind fun q5 =>
        gd (K q5.1 = some (.inl 4)) <|
        if x2 = 0 then
          (F_X5_longestSame K q5.2 q5.1).bind fun q8 =>
          some (q8, q5.2)
        else
          (F_X5_longestRise K q5.2 q5.1).bind fun q9 =>
          some (q9, q5.2)
      else
        some ((-2 : Int32), m)
  else
    some ((-2 : Int32), m)

def F_X8_row (K : Kn) (m : Mem) (a0 : Nat) (x1 : Int32) (x2 : Int32) : Option (Int32 × Mem) := f_X8_row K a0 x1 x2 m

def f_X8_gatherBoth (K : Kn) (a0 : Nat) (x1 : Int32) (x2 : Int32) (m : Mem) : Option Mem :=
  (ldA K m a0 0 3).bind fun b1 =>
  (alO K m b1 x1 6).bind fun b2 =>
  (ldO K m a0 5 5).bind fun b3 =>
  (ldO K m a0 2 4).bind fun b4 =>
  (F_X7_gather K m b2 (0 : Int32) (2000000000 : Int32) b3 b4).bind fun q5 =>
  (ldA K q5 a0 0 3).bind fun b6 =>
  (alO K q5 b6 x2 6).bind fun b7 =>
  (ldO K q5 a0 5 5).bind fun b8 =>
  (ldO K q5 a0 3 4).bind fun b9 =>
  (F_X7_gather K q5 b7 (0 : Int32) (2000000000 : Int32) b8 b9).bind fun q10 =>
  some q10

def F_X8_gatherBoth (K : Kn) (m : Mem) (a0 : Nat) (x1 : Int32) (x2 : Int32) : Option Mem := f_X8_gatherBoth K a0 x1 x2 m

def f_X4_begin (K : Kn) (a0 : Nat) (m : Mem) : Option (Int32 × Mem) :=
  bd (sI m a0 2 (0 : Int32)) fun m1 =>
  bd (sI m1 a0 3 (0 : Int32)) fun m2 =>
  (ldO K m2 a0 0 4).bind fun b3 =>
  (ldO K m2 a0 1 4).bind fun b4 =>
  some ((gI m2 b3 2) + (gI m2 b4 2), m2)

def F_X4_begin (K : Kn) (m : Mem) (a0 : Nat) : Option (Int32 × Mem) := f_X4_begin K a0 m

def f_X4_advance_303 (K : Kn) (a0 : Nat) (m : Mem) (sa0 : Nat) (s1 : Int32) (s2 : Int32) : Option (Int32 × Mem) :=
  bd (sI m sa0 3 (s1 + s2)) fun m1 =>
  some ((1 : Int32), m1)

def f_X4_advance_282 (K : Kn) (a0 : Nat) (m : Mem) (sa0 : Nat) (s1 : Int32) (s2 : Int32) : Option (Int32 × Mem) :=
  bd (sI m sa0 2 (s1 + s2)) fun m1 =>
  if (gI m1 a0 5) = 0 then
    f_X4_advance_303 K a0 m1 a0 (gI m1 a0 3) (0 : Int32)
  else
    f_X4_advance_303 K a0 m1 a0 (gI m1 a0 3) (1 : Int32)

def f_X4_advance_262 (K : Kn) (a0 : Nat) (m : Mem) (sa0 : Nat) (s1 : Int64) : Option (Int32 × Mem) :=
  bd (sJ m sa0 8 s1) fun m1 =>
  if (gI m1 a0 4) = 0 then
    f_X4_advance_282 K a0 m1 a0 (gI m1 a0 2) (0 : Int32)
  else
    f_X4_advance_282 K a0 m1 a0 (gI m1 a0 2) (1 : Int32)

def f_X4_advance_224 (K : Kn) (a0 : Nat) (m : Mem) (sa0 : Nat) (s1 : Int32) : Option (Int32 × Mem) :=
  bd (sI m sa0 7 s1) fun m1 =>
  if (gI m1 a0 4) = 0 then
    (ldO K m1 a0 1 4).bind fun b3 =>
    (ldA K m1 b3 1 1).bind fun b4 =>
    (alJ K m1 b4 (gI m1 a0 3)).bind fun r5 =>
    f_X4_advance_262 K a0 m1 a0 r5
  else
    (ldO K m1 a0 0 4).bind fun b6 =>
    (ldA K m1 b6 1 1).bind fun b7 =>
    (alJ K m1 b7 (gI m1 a0 2)).bind fun r8 =>
    f_X4_advance_262 K a0 m1 a0 r8

def f_X4_advance_186 (K : Kn) (a0 : Nat) (m : Mem) (sa0 : Nat) (s1 : Int32) : Option (Int32 × Mem) :=
  gd (s1 = 0 ∨ s1 = 1) <|
  bd (sI m sa0 6 s1) fun m2 =>
  if (gI m2 a0 4) = 0 then
    (ldO K m2 a0 1 4).bind fun b4 =>
    (ldA K m2 b4 0 0).bind fun b5 =>
    (alI K m2 b5 (gI m2 a0 3)).bind fun r6 =>
    f_X4_advance_224 K a0 m2 a0 r6
  else
    (ldO K m2 a0 0 4).bind fun b7 =>
    (ldA K m2 b7 0 0).bind fun b8 =>
    (alI K m2 b8 (gI m2 a0 2)).bind fun r9 =>
    f_X4_advance_224 K a0 m2 a0 r9

def f_X4_advance_185 (K : Kn) (a0 : Nat) (m : Mem) (sa0 : Nat) : Option (Int32 × Mem) :=
  f_X4_advance_186 K a0 m sa0 (0 : Int32)

def f_X4_advance_135 (K : Kn) (a0 : Nat) (m : Mem) (sa0 : Nat) (s1 : Int32) : Option (Int32 × Mem) :=
  gd (s1 = 0 ∨ s1 = 1) <|
  bd (sI m sa0 5 s1) fun m2 =>
  if (gI m2 a0 4) = 0 then
    f_X4_advance_185 K a0 m2 a0
  else
    if (gI m2 a0 5) = 0 then
      f_X4_advance_185 K a0 m2 a0
    else
      (ldO K m2 a0 0 4).bind fun b5 =>
      (ldA K m2 b5 1 1).bind fun b6 =>
      (alJ K m2 b6 (gI m2 a0 2)).bind fun r7 =>
      (ldO K m2 a0 1 4).bind fun b8 =>
      (ldA K m2 b8 1 1).bind fun b9 =>
      (alJ K m2 b9 (gI m2 a0 3)).bind fun r10 =>
      if (lg_cmp r7 r10) = 0 then
        f_X4_advance_186 K a0 m2 a0 (1 : Int32)
      else
        f_X4_advance_185 K a0 m2 a0

def f_X4_advance_130 (K : Kn) (a0 : Nat) (m : Mem) (sa0 : Nat) : Option (Int32 × Mem) :=
  f_X4_advance_135 K a0 m sa0 (1 : Int32)

def f_X4_advance_134 (K : Kn) (a0 : Nat) (m : Mem) (sa0 : Nat) : Option (Int32 × Mem) :=
  f_X4_advance_135 K a0 m sa0 (0 : Int32)

def f_X4_advance_91 (K : Kn) (a0 : Nat) (m : Mem) (x1 : Int32) (x2 : Int32) (sa0 : Nat) (s1 : Int32) : Option (Int32 × Mem) :=
  gd (s1 = 0 ∨ s1 = 1) <|
  bd (sI m sa0 4 s1) fun m2 =>
  if x2 = 0 then
    f_X4_advance_134 K a0 m2 a0
  else
    if x1 = 0 then
      f_X4_advance_130 K a0 m2 a0
    else
      (ldO K m2 a0 1 4).bind fun b5 =>
      (ldA K m2 b5 0 0).bind fun b6 =>
      (alI K m2 b6 (gI m2 a0 3)).bind fun r7 =>
      (ldO K m2 a0 0 4).bind fun b8 =>
      (ldA K m2 b8 0 0).bind fun b9 =>
      (alI K m2 b9 (gI m2 a0 2)).bind fun r10 =>
      if r10 < r7 then
        f_X4_advance_134 K a0 m2 a0
      else
        f_X4_advance_130 K a0 m2 a0

def f_X4_advance_86 (K : Kn) (a0 : Nat) (m : Mem) (x1 : Int32) (x2 : Int32) (sa0 : Nat) : Option (Int32 × Mem) :=
  f_X4_advance_91 K a0 m x1 x2 sa0 (1 : Int32)

def f_X4_advance_90 (K : Kn) (a0 : Nat) (m : Mem) (x1 : Int32) (x2 : Int32) (sa0 : Nat) : Option (Int32 × Mem) :=
  f_X4_advance_91 K a0 m x1 x2 sa0 (0 : Int32)

def f_X4_advance_50 (K : Kn) (a0 : Nat) (m : Mem) (x1 : Int32) (x2 : Int32) : Option (Int32 × Mem) :=
  if x1 = 0 then
    f_X4_advance_90 K a0 m x1 x2 a0
  else
    if x2 = 0 then
      f_X4_advance_86 K a0 m x1 x2 a0
    else
      (ldO K m a0 0 4).bind fun b3 =>
      (ldA K m b3 0 0).bind fun b4 =>
      (alI K m b4 (gI m a0 2)).bind fun r5 =>
      (ldO K m a0 1 4).bind fun b6 =>
      (ldA K m b6 0 0).bind fun b7 =>
      (alI K m b7 (gI m a0 3)).bind fun r8 =>
      if r8 < r5 then
        f_X4_advance_90 K a0 m x1 x2 a0
      else
        f_X4_advance_86 K a0 m x1 x2 a0

def f_X4_advance_39 (K : Kn) (a0 : Nat) (m : Mem) (x1 : Int32) (s0 : Int32) : Option (Int32 × Mem) :=
  if x1 = 0 then
    if s0 = 0 then
      some ((0 : Int32), m)
    else
      f_X4_advance_50 K a0 m x1 s0
  else
    f_X4_advance_50 K a0 m x1 s0

def f_X4_advance_19 (K : Kn) (a0 : Nat) (m : Mem) (s0 : Int32) : Option (Int32 × Mem) :=
  (ldO K m a0 1 4).bind fun b1 =>
  if (gI m b1 2) ≤ (gI m a0 3) then
    f_X4_advance_39 K a0 m s0 (0 : Int32)
  else
    f_X4_advance_39 K a0 m s0 (1 : Int32)

def f_X4_advance (K : Kn) (a0 : Nat) (m : Mem) : Option (Int32 × Mem) :=
  (ldO K m a0 0 4).bind fun b1 =>
  if (gI m b1 2) ≤ (gI m a0 2) then
    f_X4_advance_19 K a0 m (0 : Int32)
  else
    f_X4_advance_19 K a0 m (1 : Int32)

def F_X4_advance (K : Kn) (m : Mem) (a0 : Nat) : Option (Int32 × Mem) := f_X4_advance K a0 m

def f_X4_isInBoth_18 (K : Kn) (m : Mem) (a0 : Nat) : Option Int32 :=
  some (0 : Int32)

def f_X4_isInBoth (K : Kn) (m : Mem) (a0 : Nat) : Option Int32 :=
  if (gI m a0 4) = 0 then
    f_X4_isInBoth_18 K m a0
  else
    if (gI m a0 5) = 0 then
      f_X4_isInBoth_18 K m a0
    else
      some (1 : Int32)

def F_X4_isInBoth (K : Kn) (m : Mem) (a0 : Nat) : Option Int32 := f_X4_isInBoth K m a0

def f_X4_isAlike (K : Kn) (m : Mem) (a0 : Nat) : Option Int32 :=
  gd (gI m a0 6 = 0 ∨ gI m a0 6 = 1) <|
  some (gI m a0 6)

def F_X4_isAlike (K : Kn) (m : Mem) (a0 : Nat) : Option Int32 := f_X4_isAlike K m a0

def f_X8_both_91 (K : Kn) (a0 : Nat) (x1 : Int32) (x2 : Int32) (x3 : Int32) (k46 : Mem → Int32 → Int32 → Option (Int32 × Mem)) (m : Mem) (x4 : Int32) (x5 : Int32) : Option (Int32 × Mem) :=
  bd (x5 + (-1 : Int32)) fun z1 =>
  k46 m x4 z1

def f_X8_both_88 (K : Kn) (a0 : Nat) (x1 : Int32) (x2 : Int32) (x3 : Int32) (k46 : Mem → Int32 → Int32 → Option (Int32 × Mem)) (m : Mem) (x4 : Int32) (x5 : Int32) : Option (Int32 × Mem) :=
  bd (x4 + (1 : Int32)) fun z1 =>
  f_X8_both_91 K a0 x1 x2 x3 k46 m z1 x5

def f_X8_both_97 (K : Kn) (a0 : Nat) (x1 : Int32) (x2 : Int32) (x3 : Int32) (m : Mem) (x4 : Int32) : Option (Int32 × Mem) :=
  some (x4, m)

def f_X8_both_46B (K : Kn) (a0 : Nat) (x1 : Int32) (x2 : Int32) (x3 : Int32) (k46 : Mem → Int32 → Int32 → Option (Int32 × Mem)) (m : Mem) (x4 : Int32) (x5 : Int32) : Option (Int32 × Mem) :=
  if x5 ≤ 0 then
    f_X8_both_97 K a0 x1 x2 x3 m x4
  else
    (ldO K m a0 4 3).bind fun b2 =>
    (F_X4_advance K m b2).bind fun q3 =>
    if q3.1 = 0 then
      f_X8_both_97 K a0 x1 x2 x3 q3.2 x4
    else
      if x3 = 0 then
        (ldO K q3.2 a0 4 3).bind fun b6 =>
        (F_X4_isInBoth K q3.2 b6).bind fun q7 =>
        if q7 = 0 then
          f_X8_both_91 K a0 x1 x2 x3 k46 q3.2 x4 x5
        else
          f_X8_both_88 K a0 x1 x2 x3 k46 q3.2 x4 x5
      else
        (ldO K q3.2 a0 4 3).bind fun b9 =>
        (F_X4_isAlike K q3.2 b9).bind fun q10 =>
        if q10 = 0 then
          f_X8_both_91 K a0 x1 x2 x3 k46 q3.2 x4 x5
        else
          f_X8_both_88 K a0 x1 x2 x3 k46 q3.2 x4 x5

def f_X8_both_46 (K : Kn) (a0 : Nat) (x1 : Int32) (x2 : Int32) (x3 : Int32) (n : Nat) : Mem → Int32 → Int32 → Option (Int32 × Mem) := lpM (fun _ _ _ => none) (f_X8_both_46B K a0 x1 x2 x3) n

def f_X8_both (K : Kn) (a0 : Nat) (x1 : Int32) (x2 : Int32) (x3 : Int32) (m : Mem) : Option (Int32 × Mem) :=
  (F_X8_isNone K m a0 x1).bind fun q1 =>
  if q1 = 0 then
    (F_X8_isNone K m a0 x2).bind fun q3 =>
    if q3 = 0 then
      if x3 < 0 then
        some ((-2 : Int32), m)
      else
        if x3 ≤ (1 : Int32) then
          (F_X8_gatherBoth K m a0 x1 x2).bind fun q7 =>
          (ldO K q7 a0 4 3).bind fun b8 =>
          (F_X4_begin K q7 b8).bind fun q9 =>
          bd (q9.1) fun z10 =>
          f_X8_both_46 K a0 x1 x2 x3 FU q9.2 (0 : Int32) z10
        else
          some ((-2 : Int32), m)
    else
      some ((-2 : Int32), m)
  else
    some ((-2 : Int32), m)

def F_X8_both (K : Kn) (m : Mem) (a0 : Nat) (x1 : Int32) (x2 : Int32) (x3 : Int32) : Option (Int32 × Mem) := f_X8_both K a0 x1 x2 x3 m

def f_X8_differ_33B (K : Kn) (a0 : Nat) (x1 : Int32) (x2 : Int32) (k33 : Mem → Int32 → Option (Int32 × Mem)) (m : Mem) (x3 : Int32) : Option (Int32 × Mem) :=
  if x3 ≤ 0 then
    some ((-1 : Int32), m)
  else
    (ldO K m a0 4 3).bind fun b2 =>
    (F_X4_advance K m b2).bind fun q3 =>
    if q3.1 = 0 then
      some ((-1 : Int32), q3.2)
    else
      (ldO K q3.2 a0 4 3).bind fun b5 =>
      (F_X4_isAlike K q3.2 b5).bind fun q6 =>
      if q6 = 0 then
        (ldO K q3.2 a0 4 3).bind fun b8 =>
        some (gI q3.2 b8 7, q3.2)
      else
        bd (x3 + (-1 : Int32)) fun z9 =>
        k33 q3.2 z9

def f_X8_differ_33 (K : Kn) (a0 : Nat) (x1 : Int32) (x2 : Int32) (n : Nat) : Mem → Int32 → Option (Int32 × Mem) := lpM (fun _ _ => none) (f_X8_differ_33B K a0 x1 x2) n

def f_X8_differ (K : Kn) (a0 : Nat) (x1 : Int32) (x2 : Int32) (m : Mem) : Option (Int32 × Mem) :=
  (F_X8_isNone K m a0 x1).bind fun q1 =>
  if q1 = 0 then
    (F_X8_isNone K m a0 x2).bind fun q3 =>
    if q3 = 0 then
      (F_X8_gatherBoth K m a0 x1 x2).bind fun q5 =>
      (ldO K q5 a0 4 3).bind fun b6 =>
      (F_X4_begin K q5 b6).bind fun q7 =>
      bd (q7.1) fun z8 =>
      f_X8_differ_33 K a0 x1 x2 FU q7.2 z8
    else
      some ((-2 : Int32), m)
  else
    some ((-2 : Int32), m)

def F_X8_differ (K : Kn) (m : Mem) (a0 : Nat) (x1 : Int32) (x2 : Int32) : Option (Int32 × Mem) := f_X8_differ K a0 x1 x2 m

def f_X1_bytesBy_115 (K : Kn) (a0 : Nat) (a1 : Nat) (x2 : Int32) (k11 : Mem → Int32 → Int32 → Int32 → Int32 → Option (Int32 × Mem)) (m : Mem) (x3 : Int32) (x4 : Int32) (x5 : Int32) (x6 : Int32) : Option (Int32 × Mem) :=
  bd (x6 + (1 : Int32)) fun z1 =>
  k11 m x3 x4 x5 z1

def f_X1_bytesBy_82 (K : Kn) (a0 : Nat) (a1 : Nat) (x2 : Int32) (k11 : Mem → Int32 → Int32 → Int32 → Int32 → Option (Int32 × Mem)) (m : Mem) (x3 : Int32) (x5 : Int32) (x6 : Int32) : Option (Int32 × Mem) :=
  if x3 < (16 : Int32) then
    bd (x3 + (1 : Int32)) fun z2 =>
    (ldA K m a1 0 0).bind fun b3 =>
    (alI K m b3 x6).bind fun r4 =>
    (ldA K m a1 1 1).bind fun b5 =>
    (alJ K m b5 x6).bind fun r6 =>
    (F_X1_begin K m a0 r4 r6).bind fun q7 =>
    f_X1_bytesBy_115 K a0 a1 x2 k11 q7 z2 (0 : Int32) x5 x6
  else
    some ((-4 : Int32), m)

def f_X1_bytesBy_11B (K : Kn) (a0 : Nat) (a1 : Nat) (x2 : Int32) (k11 : Mem → Int32 → Int32 → Int32 → Int32 → Option (Int32 × Mem)) (m : Mem) (x3 : Int32) (x4 : Int32) (x5 : Int32) (x6 : Int32) : Option (Int32 × Mem) :=
  if (gI m a1 2) ≤ x6 then
    if x3 ≤ 0 then
      some ((0 : Int32), m)
    else
      (F_X0_openBytes x4).bind fun q3 =>
      some (x5 + q3, m)
  else
    if x3 ≤ 0 then
      f_X1_bytesBy_82 K a0 a1 x2 k11 m x3 x5 x6
    else
      (ldA K m a1 0 0).bind fun b5 =>
      (alI K m b5 x6).bind fun r6 =>
      (ldA K m a1 1 1).bind fun b7 =>
      (alJ K m b7 x6).bind fun r8 =>
      (F_X1_weigh K m a0 r6 r8).bind fun q9 =>
      (F_X0_sealedBytes (x4 + (gI q9 a0 10))).bind fun q10 =>
      if x2 < q10 then
        (F_X0_sealedBytes x4).bind fun q12 =>
        bd (x5 + q12) fun z13 =>
        f_X1_bytesBy_82 K a0 a1 x2 k11 q9 x3 z13 x6
      else
        bd (x4 + (gI q9 a0 10)) fun z14 =>
        (F_X1_step K q9 a0).bind fun q15 =>
        f_X1_bytesBy_115 K a0 a1 x2 k11 q15 x3 z14 x5 x6

def f_X1_bytesBy_11 (K : Kn) (a0 : Nat) (a1 : Nat) (x2 : Int32) (n : Nat) : Mem → Int32 → Int32 → Int32 → Int32 → Option (Int32 × Mem) := lpM (fun _ _ _ _ _ => none) (f_X1_bytesBy_11B K a0 a1 x2) n

def f_X1_bytesBy (K : Kn) (a0 : Nat) (a1 : Nat) (x2 : Int32) (m : Mem) : Option (Int32 × Mem) :=
  f_X1_bytesBy_11 K a0 a1 x2 FU m (0 : Int32) (0 : Int32) (0 : Int32) (0 : Int32)

def F_X1_bytesBy (K : Kn) (m : Mem) (a0 : Nat) (a1 : Nat) (x2 : Int32) : Option (Int32 × Mem) := f_X1_bytesBy K a0 a1 x2 m

def f_X8_best_85 (K : Kn) (a0 : Nat) (x1 : Int32) (k40 : Mem → Int32 → Int32 → Int32 → Option (Int32 × Mem)) (m : Mem) (x2 : Int32) (x3 : Int32) (x4 : Int32) : Option (Int32 × Mem) :=
  bd (x4 + (1 : Int32)) fun z1 =>
  k40 m x2 x3 z1

def f_X8_best_79 (K : Kn) (a0 : Nat) (x1 : Int32) (k40 : Mem → Int32 → Int32 → Int32 → Option (Int32 × Mem)) (m : Mem) (x4 : Int32) (x5 : Int32) : Option (Int32 × Mem) :=
  f_X8_best_85 K a0 x1 k40 m x4 x5 x4

def f_X8_best_40B (K : Kn) (a0 : Nat) (x1 : Int32) (k40 : Mem → Int32 → Int32 → Int32 → Option (Int32 × Mem)) (m : Mem) (x2 : Int32) (x3 : Int32) (x4 : Int32) : Option (Int32 × Mem) :=
  if (200 : Int32) < x4 then
    some (x2, m)
  else
    (ldO K m a0 6 1).bind fun b2 =>
    (ldO K m a0 2 4).bind fun b3 =>
    (F_X1_bytesBy K m b2 b3 x4).bind fun q4 =>
    bd (q4.1) fun z5 =>
    if z5 < 0 then
      f_X8_best_85 K a0 x1 k40 q4.2 x2 x3 x4
    else
      if x2 = (-1 : Int32) then
        f_X8_best_79 K a0 x1 k40 q4.2 x4 z5
      else
        if x3 ≤ z5 then
          f_X8_best_85 K a0 x1 k40 q4.2 x2 x3 x4
        else
          f_X8_best_79 K a0 x1 k40 q4.2 x4 z5

def f_X8_best_40 (K : Kn) (a0 : Nat) (x1 : Int32) (n : Nat) : Mem → Int32 → Int32 → Int32 → Option (Int32 × Mem) := lpM (fun _ _ _ _ => none) (f_X8_best_40B K a0 x1) n

def f_X8_best (K : Kn) (a0 : Nat) (x1 : Int32) (m : Mem) : Option (Int32 × Mem) :=
  (F_X8_isNone K m a0 x1).bind fun q1 =>
  if q1 = 0 then
    (ldA K m a0 0 3).bind fun b3 =>
    (alO K m b3 x1 6).bind fun b4 =>
    (F_X7_broken K m b4).bind fun q5 =>
    if q5 = 0 then
      (F_X8_gathered K m a0 x1).bind fun q7 =>
      gd (K q7.1 = some (.inl 4)) <|
      f_X8_best_40 K a0 x1 FU q7.2 (-1 : Int32) (0 : Int32) (24 : Int32)
    else
      some ((-6 : Int32), m)
  else
    some ((-2 : Int32), m)

def F_X8_best (K : Kn) (m : Mem) (a0 : Nat) (x1 : Int32) : Option (Int32 × Mem) := f_X8_best K a0 x1 m

def f_X8_repack (K : Kn) (a0 : Nat) (x1 : Int32) (x2 : Int32) (m : Mem) : Option (Int32 × Mem) :=
  (F_X8_isNone K m a0 x1).bind fun q1 =>
  if q1 = 0 then
    (F_X8_isRoom x2).bind fun q3 =>
    if q3 = 0 then
      some ((-2 : Int32), m)
    else
      (ldA K m a0 0 3).bind fun b5 =>
      (alO K m b5 x1 6).bind fun b6 =>
      (F_X7_broken K m b6).bind fun q7 =>
      if q7 = 0 then
        (F_X8_gathered K m a0 x1).bind fun q9 =>
        gd (K q9.1 = some (.inl 4)) <|
        (F_X8_packMine K q9.2 a0 x1 x2).bind fun q11 =>
        some (q11.1, q11.2)
      else
        some ((-6 : Int32), m)
  else
    some ((-2 : Int32), m)

def F_X8_repack (K : Kn) (m : Mem) (a0 : Nat) (x1 : Int32) (x2 : Int32) : Option (Int32 × Mem) := f_X8_repack K a0 x1 x2 m

def f_X5_shrink (K : Kn) (a0 : Nat) (x1 : Int32) (m : Mem) : Option (Int32 × Mem) :=
  bd ((gI m a0 2) - x1) fun z1 =>
  bd (sI m a0 2 x1) fun m2 =>
  some (z1, m2)

def F_X5_shrink (K : Kn) (m : Mem) (a0 : Nat) (x1 : Int32) : Option (Int32 × Mem) := f_X5_shrink K a0 x1 m

def f_X5_dropAlike_46 (K : Kn) (a0 : Nat) (x1 : Int32) (k4 : Mem → Int32 → Int32 → Option (Int32 × Mem)) (m : Mem) (x2 : Int32) (x3 : Int32) : Option (Int32 × Mem) :=
  bd (x3 + (1 : Int32)) fun z1 =>
  k4 m x2 z1

def f_X5_dropAlike_37 (K : Kn) (a0 : Nat) (x1 : Int32) (k4 : Mem → Int32 → Int32 → Option (Int32 × Mem)) (m : Mem) (x2 : Int32) (x3 : Int32) : Option (Int32 × Mem) :=
  (F_X5_keep K m a0 x2 x3).bind fun q1 =>
  bd (x2 + (1 : Int32)) fun z2 =>
  f_X5_dropAlike_46 K a0 x1 k4 q1 z2 x3

def f_X5_dropAlike_4B (K : Kn) (a0 : Nat) (x1 : Int32) (k4 : Mem → Int32 → Int32 → Option (Int32 × Mem)) (m : Mem) (x2 : Int32) (x3 : Int32) : Option (Int32 × Mem) :=
  if (gI m a0 2) ≤ x3 then
    (F_X5_shrink K m a0 x2).bind fun q2 =>
    some (q2.1, q2.2)
  else
    if x2 = 0 then
      f_X5_dropAlike_37 K a0 x1 k4 m x2 x3
    else
      (ldA K m a0 0 0).bind fun b4 =>
      (alI K m b4 x3).bind fun r5 =>
      gd (¬ x1 = 0) <|
      (ldA K m a0 0 0).bind fun b7 =>
      (alI K m b7 (x2 - (1 : Int32))).bind fun r8 =>
      gd (¬ x1 = 0) <|
      if (r5 / x1) = (r8 / x1) then
        f_X5_dropAlike_46 K a0 x1 k4 m x2 x3
      else
        f_X5_dropAlike_37 K a0 x1 k4 m x2 x3

def f_X5_dropAlike_4 (K : Kn) (a0 : Nat) (x1 : Int32) (n : Nat) : Mem → Int32 → Int32 → Option (Int32 × Mem) := lpM (fun _ _ _ => none) (f_X5_dropAlike_4B K a0 x1) n

def f_X5_dropAlike (K : Kn) (a0 : Nat) (x1 : Int32) (m : Mem) : Option (Int32 × Mem) :=
  f_X5_dropAlike_4 K a0 x1 FU m (0 : Int32) (0 : Int32)

def F_X5_dropAlike (K : Kn) (m : Mem) (a0 : Nat) (x1 : Int32) : Option (Int32 × Mem) := f_X5_dropAlike K a0 x1 m

def f_X8_thin (K : Kn) (a0 : Nat) (x1 : Int32) (x2 : Int32) (m : Mem) : Option (Int32 × Mem) :=
  (F_X8_isNone K m a0 x1).bind fun q1 =>
  if q1 = 0 then
    if x2 < (1 : Int32) then
      some ((-2 : Int32), m)
    else
      if x2 ≤ (1000000 : Int32) then
        (ldA K m a0 0 3).bind fun b5 =>
        (alO K m b5 x1 6).bind fun b6 =>
        (F_X7_broken K m b6).bind fun q7 =>
        if q7 = 0 then
          (F_X8_gathered K m a0 x1).bind fun q9 =>
          gd (K q9.1 = some (.inl 4)) <|
          (F_X5_dropAlike K q9.2 q9.1 x2).bind fun q11 =>
          bd (q11.1) fun z12 =>
          (ldA K q11.2 a0 0 3).bind fun b13 =>
          (alO K q11.2 b13 x1 6).bind fun b14 =>
          (F_X8_packMine K q11.2 a0 x1 (gI q11.2 b14 4)).bind fun q15 =>
          if 0 ≤ q15.1 then
            some (z12, q15.2)
          else
            some ((-4 : Int32), q15.2)
        else
          some ((-6 : Int32), m)
      else
        some ((-2 : Int32), m)
  else
    some ((-2 : Int32), m)

def F_X8_thin (K : Kn) (m : Mem) (a0 : Nat) (x1 : Int32) (x2 : Int32) : Option (Int32 × Mem) := f_X8_thin K a0 x1 x2 m

def f_X5_dropSpan_46 (K : Kn) (a0 : Nat) (x1 : Int32) (x2 : Int32) (k5 : Mem → Int32 → Int32 → Option (Int32 × Mem)) (m : Mem) (x3 : Int32) (x4 : Int32) : Option (Int32 × Mem) :=
  bd (x4 + (1 : Int32)) fun z1 =>
  k5 m x3 z1

def f_X5_dropSpan_36 (K : Kn) (a0 : Nat) (x1 : Int32) (x2 : Int32) (k5 : Mem → Int32 → Int32 → Option (Int32 × Mem)) (m : Mem) (x3 : Int32) (x4 : Int32) : Option (Int32 × Mem) :=
  (F_X5_keep K m a0 x3 x4).bind fun q1 =>
  bd (x3 + (1 : Int32)) fun z2 =>
  f_X5_dropSpan_46 K a0 x1 x2 k5 q1 z2 x4

def f_X5_dropSpan_5B (K : Kn) (a0 : Nat) (x1 : Int32) (x2 : Int32) (k5 : Mem → Int32 → Int32 → Option (Int32 × Mem)) (m : Mem) (x3 : Int32) (x4 : Int32) : Option (Int32 × Mem) :=
  if (gI m a0 2) ≤ x4 then
    (F_X5_shrink K m a0 x3).bind fun q2 =>
    some (q2.1, q2.2)
  else
    (ldA K m a0 0 0).bind fun b3 =>
    (alI K m b3 x4).bind fun r4 =>
    if r4 < x1 then
      f_X5_dropSpan_36 K a0 x1 x2 k5 m x3 x4
    else
      (ldA K m a0 0 0).bind fun b6 =>
      (alI K m b6 x4).bind fun r7 =>
      if r7 ≤ x2 then
        f_X5_dropSpan_46 K a0 x1 x2 k5 m x3 x4
      else
        f_X5_dropSpan_36 K a0 x1 x2 k5 m x3 x4

def f_X5_dropSpan_5 (K : Kn) (a0 : Nat) (x1 : Int32) (x2 : Int32) (n : Nat) : Mem → Int32 → Int32 → Option (Int32 × Mem) := lpM (fun _ _ _ => none) (f_X5_dropSpan_5B K a0 x1 x2) n

def f_X5_dropSpan (K : Kn) (a0 : Nat) (x1 : Int32) (x2 : Int32) (m : Mem) : Option (Int32 × Mem) :=
  f_X5_dropSpan_5 K a0 x1 x2 FU m (0 : Int32) (0 : Int32)

def F_X5_dropSpan (K : Kn) (m : Mem) (a0 : Nat) (x1 : Int32) (x2 : Int32) : Option (Int32 × Mem) := f_X5_dropSpan K a0 x1 x2 m

def f_X8_cuts (K : Kn) (a0 : Nat) (x1 : Int32) (x2 : Int32) (x3 : Int32) (m : Mem) : Option (Int32 × Mem) :=
  (F_X8_isNone K m a0 x1).bind fun q1 =>
  if q1 = 0 then
    if x2 ≤ x3 then
      (ldA K m a0 0 3).bind fun b4 =>
      (alO K m b4 x1 6).bind fun b5 =>
      (F_X7_broken K m b5).bind fun q6 =>
      if q6 = 0 then
        (F_X8_gathered K m a0 x1).bind fun q8 =>
        gd (K q8.1 = some (.inl 4)) <|
        (F_X5_dropSpan K q8.2 q8.1 x2 x3).bind fun q10 =>
        bd (q10.1) fun z11 =>
        (ldA K q10.2 a0 0 3).bind fun b12 =>
        (alO K q10.2 b12 x1 6).bind fun b13 =>
        (F_X8_packMine K q10.2 a0 x1 (gI q10.2 b13 4)).bind fun q14 =>
        if 0 ≤ q14.1 then
          some (z11, q14.2)
        else
          some ((-4 : Int32), q14.2)
      else
        some ((-6 : Int32), m)
    else
      some ((-2 : Int32), m)
  else
    some ((-2 : Int32), m)

def F_X8_cuts (K : Kn) (m : Mem) (a0 : Nat) (x1 : Int32) (x2 : Int32) (x3 : Int32) : Option (Int32 × Mem) := f_X8_cuts K a0 x1 x2 x3 m

def f_X8_join_132 (K : Kn) (a0 : Nat) (x1 : Int32) (x2 : Int32) (x3 : Int32) (m : Mem) : Option (Int32 × Mem) :=
  (F_X8_useSpare K m a0 x3).bind fun q1 =>
  some (q1.1, q1.2)

def f_X8_join_84B (K : Kn) (a0 : Nat) (x1 : Int32) (x2 : Int32) (x3 : Int32) (k84 : Mem → Int32 → Option (Int32 × Mem)) (m : Mem) (x4 : Int32) : Option (Int32 × Mem) :=
  if x4 ≤ 0 then
    f_X8_join_132 K a0 x1 x2 x3 m
  else
    (ldO K m a0 4 3).bind fun b2 =>
    (F_X4_advance K m b2).bind fun q3 =>
    if q3.1 = 0 then
      f_X8_join_132 K a0 x1 x2 x3 q3.2
    else
      (ldO K q3.2 a0 1 6).bind fun b5 =>
      (ldO K q3.2 a0 4 3).bind fun b6 =>
      (ldO K q3.2 a0 4 3).bind fun b7 =>
      (F_X7_put K q3.2 b5 (gI q3.2 b6 7) (gJ q3.2 b7 8)).bind fun q8 =>
      if 0 ≤ q8.1 then
        bd (x4 + (-1 : Int32)) fun z10 =>
        k84 q8.2 z10
      else
        some ((-4 : Int32), q8.2)

def f_X8_join_84 (K : Kn) (a0 : Nat) (x1 : Int32) (x2 : Int32) (x3 : Int32) (n : Nat) : Mem → Int32 → Option (Int32 × Mem) := lpM (fun _ _ => none) (f_X8_join_84B K a0 x1 x2 x3) n

def f_X8_join (K : Kn) (a0 : Nat) (x1 : Int32) (x2 : Int32) (x3 : Int32) (m : Mem) : Option (Int32 × Mem) :=
  (F_X8_isNone K m a0 x1).bind fun q1 =>
  if q1 = 0 then
    (F_X8_isNone K m a0 x2).bind fun q3 =>
    if q3 = 0 then
      (F_X8_isSlot x3).bind fun q5 =>
      if q5 = 0 then
        some ((-2 : Int32), m)
      else
        (ldA K m a0 0 3).bind fun b7 =>
        (alO K m b7 x1 6).bind fun b8 =>
        (F_X7_broken K m b8).bind fun q9 =>
        if q9 = 0 then
          (ldA K m a0 0 3).bind fun b11 =>
          (alO K m b11 x2 6).bind fun b12 =>
          (F_X7_broken K m b12).bind fun q13 =>
          if q13 = 0 then
            (F_X8_gatherBoth K m a0 x1 x2).bind fun q15 =>
            (ldO K q15 a0 1 6).bind fun b16 =>
            (ldA K q15 a0 0 3).bind fun b17 =>
            (alO K q15 b17 x1 6).bind fun b18 =>
            (F_X7_start K q15 b16 (gI q15 b18 4)).bind fun q19 =>
            (ldO K q19 a0 4 3).bind fun b20 =>
            (F_X4_begin K q19 b20).bind fun q21 =>
            bd (q21.1) fun z22 =>
            f_X8_join_84 K a0 x1 x2 x3 FU q21.2 z22
          else
            some ((-6 : Int32), m)
        else
          some ((-6 : Int32), m)
    else
      some ((-2 : Int32), m)
  else
    some ((-2 : Int32), m)

def F_X8_join (K : Kn) (m : Mem) (a0 : Nat) (x1 : Int32) (x2 : Int32) (x3 : Int32) : Option (Int32 × Mem) := f_X8_join K a0 x1 x2 x3 m

def f_X3_isFinite (x0 : Int64) : Option Int32 :=
  if 0 ≤ (lg_cmp (x0 &&& (9223372036854775807 : Int64)) (9218868437227405312 : Int64)) then
    some (0 : Int32)
  else
    some (1 : Int32)

def F_X3_isFinite (x0 : Int64) : Option Int32 := f_X3_isFinite x0

def f_X5_clearLowest_68 (K : Kn) (a0 : Nat) (x1 : Int32) (k12 : Mem → Int64 → Int32 → Int32 → Option (Int32 × Mem)) (m : Mem) (x2 : Int64) (x4 : Int32) (x5 : Int32) : Option (Int32 × Mem) :=
  bd (x5 + (1 : Int32)) fun z1 =>
  k12 m x2 x4 z1

def f_X5_clearLowest_12B (K : Kn) (a0 : Nat) (x1 : Int32) (k12 : Mem → Int64 → Int32 → Int32 → Option (Int32 × Mem)) (m : Mem) (x2 : Int64) (x4 : Int32) (x5 : Int32) : Option (Int32 × Mem) :=
  if (gI m a0 2) ≤ x5 then
    some (x4, m)
  else
    (ldA K m a0 1 1).bind fun b2 =>
    (alJ K m b2 x5).bind fun r3 =>
    (F_X3_isFinite r3).bind fun q4 =>
    if q4 = 0 then
      f_X5_clearLowest_68 K a0 x1 k12 m x2 x4 x5
    else
      (ldA K m a0 1 1).bind fun b6 =>
      (alJ K m b6 x5).bind fun r7 =>
      (ldA K m a0 1 1).bind fun b8 =>
      (alJ K m b8 x5).bind fun r9 =>
      if (lg_cmp (r7 &&& x2) r9) = 0 then
        f_X5_clearLowest_68 K a0 x1 k12 m x2 x4 x5
      else
        (ldA K m a0 1 1).bind fun b11 =>
        (alJ K m b11 x5).bind fun r12 =>
        (asJ K m b11 x5 (r12 &&& x2)).bind fun m13 =>
        bd (x4 + (1 : Int32)) fun z14 =>
        f_X5_clearLowest_68 K a0 x1 k12 m13 x2 z14 x5

def f_X5_clearLowest_12 (K : Kn) (a0 : Nat) (x1 : Int32) (n : Nat) : Mem → Int64 → Int32 → Int32 → Option (Int32 × Mem) := lpM (fun _ _ _ _ => none) (f_X5_clearLowest_12B K a0 x1) n

def f_X5_clearLowest (K : Kn) (a0 : Nat) (x1 : Int32) (m : Mem) : Option (Int32 × Mem) :=
  bd (lshl (-1 : Int64) x1) fun z1 =>
  f_X5_clearLowest_12 K a0 x1 FU m z1 (0 : Int32) (0 : Int32)

def F_X5_clearLowest (K : Kn) (m : Mem) (a0 : Nat) (x1 : Int32) : Option (Int32 × Mem) := f_X5_clearLowest K a0 x1 m

def f_X8_rounds (K : Kn) (a0 : Nat) (x1 : Int32) (x2 : Int32) (m : Mem) : Option (Int32 × Mem) :=
  (F_X8_isNone K m a0 x1).bind fun q1 =>
  if q1 = 0 then
    if x2 < (1 : Int32) then
      some ((-2 : Int32), m)
    else
      if x2 ≤ (52 : Int32) then
        (ldA K m a0 0 3).bind fun b5 =>
        (alO K m b5 x1 6).bind fun b6 =>
        (F_X7_broken K m b6).bind fun q7 =>
        if q7 = 0 then
          (F_X8_gathered K m a0 x1).bind fun q9 =>
          gd (K q9.1 = some (.inl 4)) <|
          (F_X5_clearLowest K q9.2 q9.1 x2).bind fun q11 =>
          bd (q11.1) fun z12 =>
          (ldA K q11.2 a0 0 3).bind fun b13 =>
          (alO K q11.2 b13 x1 6).bind fun b14 =>
          (F_X8_packMine K q11.2 a0 x1 (gI q11.2 b14 4)).bind fun q15 =>
          if 0 ≤ q15.1 then
            some (z12, q15.2)
          else
            some ((-4 : Int32), q15.2)
        else
          some ((-6 : Int32), m)
      else
        some ((-2 : Int32), m)
  else
    some ((-2 : Int32), m)

def F_X8_rounds (K : Kn) (m : Mem) (a0 : Nat) (x1 : Int32) (x2 : Int32) : Option (Int32 × Mem) := f_X8_rounds K a0 x1 x2 m

def f_X8_rounded (K : Kn) (a0 : Nat) (x1 : Int32) (x2 : Int32) (m : Mem) : Option (Int32 × Mem) :=
  (F_X8_isNone K m a0 x1).bind fun q1 =>
  if q1 = 0 then
    if x2 < (1 : Int32) then
      some ((-2 : Int32), m)
    else
      if x2 ≤ (52 : Int32) then
        (ldA K m a0 0 3).bind fun b5 =>
        (alO K m b5 x1 6).bind fun b6 =>
        (F_X7_broken K m b6).bind fun q7 =>
        if q7 = 0 then
          (F_X8_gathered K m a0 x1).bind fun q9 =>
          gd (K q9.1 = some (.inl 4)) <|
          (F_X5_clearLowest K q9.2 q9.1 x2).bind fun q11 =>
          (ldO K q11.2 a0 6 1).bind fun b12 =>
          (ldO K q11.2 a0 2 4).bind fun b13 =>
          (ldA K q11.2 a0 0 3).bind fun b14 =>
          (alO K q11.2 b14 x1 6).bind fun b15 =>
          (F_X1_bytesBy K q11.2 b12 b13 (gI q11.2 b15 4)).bind fun q16 =>
          some (q16.1, q16.2)
        else
          some ((-6 : Int32), m)
      else
        some ((-2 : Int32), m)
  else
    some ((-2 : Int32), m)

def F_X8_rounded (K : Kn) (m : Mem) (a0 : Nat) (x1 : Int32) (x2 : Int32) : Option (Int32 × Mem) := f_X8_rounded K a0 x1 x2 m

def f_X6_findDearest_63 (K : Kn) (a0 : Nat) (a1 : Nat) (x2 : Int32) (k12 : Mem → Int32 → Option (Int32 × Mem)) (m : Mem) (x3 : Int32) : Option (Int32 × Mem) :=
  bd (x3 + (1 : Int32)) fun z1 =>
  k12 m z1

def f_X6_findDearest_69 (K : Kn) (a0 : Nat) (a1 : Nat) (x2 : Int32) (m : Mem) : Option (Int32 × Mem) :=
  if (gI m a0 5) ≤ x2 then
    some ((0 : Int32), m)
  else
    some ((1 : Int32), m)

def f_X6_findDearest_12B (K : Kn) (a0 : Nat) (a1 : Nat) (x2 : Int32) (k12 : Mem → Int32 → Option (Int32 × Mem)) (m : Mem) (x3 : Int32) : Option (Int32 × Mem) :=
  if (gI m a1 3) ≤ x3 then
    f_X6_findDearest_69 K a0 a1 x2 m
  else
    (F_X6_read K m a0).bind fun q2 =>
    if q2.1 = 0 then
      (ldO K q2.2 a0 0 1).bind fun b4 =>
      if (gI q2.2 b4 10) ≤ (gI q2.2 a0 5) then
        f_X6_findDearest_63 K a0 a1 x2 k12 q2.2 x3
      else
        (ldO K q2.2 a0 0 1).bind fun b6 =>
        bd (sI q2.2 a0 5 (gI q2.2 b6 10)) fun m7 =>
        (ldO K m7 a0 0 1).bind fun b8 =>
        bd (sI m7 a0 6 (gI m7 b8 0)) fun m9 =>
        f_X6_findDearest_63 K a0 a1 x2 k12 m9 x3
    else
      f_X6_findDearest_69 K a0 a1 x2 q2.2

def f_X6_findDearest_12 (K : Kn) (a0 : Nat) (a1 : Nat) (x2 : Int32) (n : Nat) : Mem → Int32 → Option (Int32 × Mem) := lpM (fun _ _ => none) (f_X6_findDearest_12B K a0 a1 x2) n

def f_X6_findDearest (K : Kn) (a0 : Nat) (a1 : Nat) (x2 : Int32) (m : Mem) : Option (Int32 × Mem) :=
  bd (sI m a0 5 x2) fun m1 =>
  (F_X6_open K m1 a0 a1).bind fun q2 =>
  f_X6_findDearest_12 K a0 a1 x2 FU q2 (1 : Int32)

def F_X6_findDearest (K : Kn) (m : Mem) (a0 : Nat) (a1 : Nat) (x2 : Int32) : Option (Int32 × Mem) := f_X6_findDearest K a0 a1 x2 m

def f_X8_dearest_94 (K : Kn) (a0 : Nat) (x1 : Int32) (x2 : Int32) (k36 : Mem → Nat → Int32 → Int32 → Int32 → Option (Int32 × Mem)) (m : Mem) (a3 : Nat) (x4 : Int32) (x5 : Int32) (x6 : Int32) : Option (Int32 × Mem) :=
  bd (x6 + (1 : Int32)) fun z1 =>
  k36 m a3 x4 x5 z1

def f_X8_dearest_110 (K : Kn) (a0 : Nat) (x1 : Int32) (x2 : Int32) (m : Mem) (x5 : Int32) : Option (Int32 × Mem) :=
  some (x5, m)

def f_X8_dearest_36B (K : Kn) (a0 : Nat) (x1 : Int32) (x2 : Int32) (k36 : Mem → Nat → Int32 → Int32 → Int32 → Option (Int32 × Mem)) (m : Mem) (a3 : Nat) (x4 : Int32) (x5 : Int32) (x6 : Int32) : Option (Int32 × Mem) :=
  if (gI m a3 3) ≤ x6 then
    if x2 = 0 then
      f_X8_dearest_110 K a0 x1 x2 m x5
    else
      if x5 = (-1 : Int32) then
        f_X8_dearest_110 K a0 x1 x2 m x5
      else
        some (x4, m)
  else
    (ldA K m a3 0 4).bind fun b4 =>
    (alO K m b4 x6 0).bind fun b5 =>
    if (gI m b5 7) = 0 then
      (ldO K m a0 5 5).bind fun b7 =>
      (F_X6_findDearest K m b7 b5 x4).bind fun q8 =>
      if q8.1 = 0 then
        f_X8_dearest_94 K a0 x1 x2 k36 q8.2 a3 x4 x5 x6
      else
        (ldO K q8.2 a0 5 5).bind fun b10 =>
        bd (gI q8.2 b10 5) fun z11 =>
        (ldO K q8.2 a0 5 5).bind fun b12 =>
        bd (gI q8.2 b12 6) fun z13 =>
        f_X8_dearest_94 K a0 x1 x2 k36 q8.2 a3 z11 z13 x6
    else
      f_X8_dearest_94 K a0 x1 x2 k36 m a3 x4 x5 x6

def f_X8_dearest_36 (K : Kn) (a0 : Nat) (x1 : Int32) (x2 : Int32) (n : Nat) : Mem → Nat → Int32 → Int32 → Int32 → Option (Int32 × Mem) := lpM (fun _ _ _ _ _ => none) (f_X8_dearest_36B K a0 x1 x2) n

def f_X8_dearest (K : Kn) (a0 : Nat) (x1 : Int32) (x2 : Int32) (m : Mem) : Option (Int32 × Mem) :=
  (F_X8_isNone K m a0 x1).bind fun q1 =>
  if q1 = 0 then
    if x2 < 0 then
      some ((-2 : Int32), m)
    else
      if x2 ≤ (1 : Int32) then
        (ldA K m a0 0 3).bind fun b5 =>
        (alO K m b5 x1 6).bind fun b6 =>
        f_X8_dearest_36 K a0 x1 x2 FU m b6 (0 : Int32) (-1 : Int32) (0 : Int32)
      else
        some ((-2 : Int32), m)
  else
    some ((-2 : Int32), m)

def F_X8_dearest (K : Kn) (m : Mem) (a0 : Nat) (x1 : Int32) (x2 : Int32) : Option (Int32 × Mem) := f_X8_dearest K a0 x1 x2 m

def f_X5_holds_28 (K : Kn) (m : Mem) (a0 : Nat) (x1 : Int32) : Option Int32 :=
  some (0 : Int32)

def f_X5_holds (K : Kn) (m : Mem) (a0 : Nat) (x1 : Int32) : Option Int32 :=
  (F_X5_firstFrom K m a0 x1).bind fun q1 =>
  if (gI m a0 2) ≤ q1 then
    f_X5_holds_28 K m a0 x1
  else
    (ldA K m a0 0 0).bind fun b3 =>
    (alI K m b3 q1).bind fun r4 =>
    if r4 = x1 then
      some (1 : Int32)
    else
      f_X5_holds_28 K m a0 x1

def F_X5_holds (K : Kn) (m : Mem) (a0 : Nat) (x1 : Int32) : Option Int32 := f_X5_holds K m a0 x1

def f_X8_where_41B (K : Kn) (a0 : Nat) (x1 : Int32) (x2 : Int32) (k41 : Mem → Nat → Int32 → Option (Int32 × Mem)) (m : Mem) (a3 : Nat) (x4 : Int32) : Option (Int32 × Mem) :=
  if (gI m a3 3) ≤ x4 then
    some ((-1 : Int32), m)
  else
    (ldA K m a3 0 4).bind fun b2 =>
    (alO K m b2 x4 0).bind fun b3 =>
    (F_X0_touches K m b3 x2 x2).bind fun q4 =>
    if q4 = 0 then
      bd (x4 + (1 : Int32)) fun z6 =>
      k41 m a3 z6
    else
      (ldO K m a0 5 5).bind fun b7 =>
      (ldO K m a0 2 4).bind fun b8 =>
      (F_X7_gather K m a3 x2 x2 b7 b8).bind fun q9 =>
      (ldO K q9 a0 2 4).bind fun b10 =>
      if (gI q9 b10 2) ≤ 0 then
        some ((-1 : Int32), q9)
      else
        some (x4, q9)

def f_X8_where_41 (K : Kn) (a0 : Nat) (x1 : Int32) (x2 : Int32) (n : Nat) : Mem → Nat → Int32 → Option (Int32 × Mem) := lpM (fun _ _ _ => none) (f_X8_where_41B K a0 x1 x2) n

def f_X8_where (K : Kn) (a0 : Nat) (x1 : Int32) (x2 : Int32) (m : Mem) : Option (Int32 × Mem) :=
  (F_X8_isNone K m a0 x1).bind fun q1 =>
  if q1 = 0 then
    (F_X8_isStamp x2).bind fun q3 =>
    if q3 = 0 then
      some ((-2 : Int32), m)
    else
      (ldA K m a0 0 3).bind fun b5 =>
      (alO K m b5 x1 6).bind fun b6 =>
      (ldO K m b6 1 4).bind fun b7 =>
      (F_X5_holds K m b7 x2).bind fun q8 =>
      if q8 = 0 then
        f_X8_where_41 K a0 x1 x2 FU m b6 (0 : Int32)
      else
        some ((-1 : Int32), m)
  else
    some ((-2 : Int32), m)

def F_X8_where (K : Kn) (m : Mem) (a0 : Nat) (x1 : Int32) (x2 : Int32) : Option (Int32 × Mem) := f_X8_where K a0 x1 x2 m

def f_X5_become_7B (K : Kn) (a0 : Nat) (a1 : Nat) (k7 : Mem → Int32 → Option Mem) (m : Mem) (x2 : Int32) : Option Mem :=
  if (gI m a1 2) ≤ x2 then
    some m
  else
    (ldA K m a1 0 0).bind fun b2 =>
    (alI K m b2 x2).bind fun r3 =>
    (ldA K m a1 1 1).bind fun b4 =>
    (alJ K m b4 x2).bind fun r5 =>
    (F_X5_push K m a0 r3 r5).bind fun q6 =>
    bd (x2 + (1 : Int32)) fun z7 =>
    k7 q6 z7

def f_X5_become_7 (K : Kn) (a0 : Nat) (a1 : Nat) (n : Nat) : Mem → Int32 → Option Mem := lpM (fun _ _ => none) (f_X5_become_7B K a0 a1) n

def f_X5_become (K : Kn) (a0 : Nat) (a1 : Nat) (m : Mem) : Option Mem :=
  bd (sI m a0 2 (0 : Int32)) fun m1 =>
  f_X5_become_7 K a0 a1 FU m1 (0 : Int32)

def F_X5_become (K : Kn) (m : Mem) (a0 : Nat) (a1 : Nat) : Option Mem := f_X5_become K a0 a1 m

def f_X1_become (K : Kn) (a0 : Nat) (a1 : Nat) (m : Mem) : Option Mem :=
  bd (sI m a0 0 (gI m a1 0)) fun m1 =>
  bd (sI m1 a0 1 (gI m1 a1 1)) fun m2 =>
  bd (sJ m2 a0 2 (gJ m2 a1 2)) fun m3 =>
  bd (sI m3 a0 3 (gI m3 a1 3)) fun m4 =>
  bd (sI m4 a0 4 (gI m4 a1 4)) fun m5 =>
  some m5

def F_X1_become (K : Kn) (m : Mem) (a0 : Nat) (a1 : Nat) : Option Mem := f_X1_become K a0 a1 m

def f_X0_become (K : Kn) (a0 : Nat) (a1 : Nat) (m : Mem) : Option Mem :=
  (ldA K m a1 0 0).bind fun b1 =>
  (ldA K m a0 0 0).bind fun b2 =>
  (acpI K m b1 (0 : Int32) b2 (0 : Int32) (gI m a1 1)).bind fun m3 =>
  bd (sI m3 a0 1 (gI m3 a1 1)) fun m4 =>
  bd (sI m4 a0 2 (gI m4 a1 2)) fun m5 =>
  bd (sI m5 a0 3 (gI m5 a1 3)) fun m6 =>
  bd (sI m6 a0 4 (gI m6 a1 4)) fun m7 =>
  bd (sI m7 a0 5 (gI m7 a1 5)) fun m8 =>
  gd (gI m8 a1 6 = 0 ∨ gI m8 a1 6 = 1) <|
  bd (sI m8 a0 6 (gI m8 a1 6)) fun m10 =>
  bd (sI m10 a0 7 (gI m10 a1 7)) fun m11 =>
  bd (sI m11 a0 8 (gI m11 a1 8)) fun m12 =>
  some m12

def F_X0_become (K : Kn) (m : Mem) (a0 : Nat) (a1 : Nat) : Option Mem := f_X0_become K a0 a1 m

def f_X7_become_56B (K : Kn) (a0 : Nat) (a1 : Nat) (k56 : Mem → Int32 → Option Mem) (m : Mem) (x2 : Int32) : Option Mem :=
  if (gI m a0 3) ≤ x2 then
    some m
  else
    (ldA K m a0 0 4).bind fun b2 =>
    (alO K m b2 x2 0).bind fun b3 =>
    (ldA K m a1 0 4).bind fun b4 =>
    (alO K m b4 x2 0).bind fun b5 =>
    (F_X0_become K m b3 b5).bind fun q6 =>
    bd (x2 + (1 : Int32)) fun z7 =>
    k56 q6 z7

def f_X7_become_56 (K : Kn) (a0 : Nat) (a1 : Nat) (n : Nat) : Mem → Int32 → Option Mem := lpM (fun _ _ => none) (f_X7_become_56B K a0 a1) n

def f_X7_become (K : Kn) (a0 : Nat) (a1 : Nat) (m : Mem) : Option Mem :=
  gd (gI m a1 6 = 0 ∨ gI m a1 6 = 1) <|
  bd (sI m a0 6 (gI m a1 6)) fun m2 =>
  bd (sI m2 a0 4 (gI m2 a1 4)) fun m3 =>
  bd (sI m3 a0 3 (gI m3 a1 3)) fun m4 =>
  bd (sI m4 a0 5 (gI m4 a1 5)) fun m5 =>
  (ldO K m5 a0 1 4).bind fun b6 =>
  (ldO K m5 a1 1 4).bind fun b7 =>
  (F_X5_become K m5 b6 b7).bind fun q8 =>
  (ldO K q8 a0 2 1).bind fun b9 =>
  (ldO K q8 a1 2 1).bind fun b10 =>
  (F_X1_become K q8 b9 b10).bind fun q11 =>
  f_X7_become_56 K a0 a1 FU q11 (0 : Int32)

def F_X7_become (K : Kn) (m : Mem) (a0 : Nat) (a1 : Nat) : Option Mem := f_X7_become K a0 a1 m

def f_X8_copy (K : Kn) (a0 : Nat) (x1 : Int32) (x2 : Int32) (m : Mem) : Option (Int32 × Mem) :=
  (F_X8_isNone K m a0 x1).bind fun q1 =>
  if q1 = 0 then
    (F_X8_isSlot x2).bind fun q3 =>
    if q3 = 0 then
      some ((-2 : Int32), m)
    else
      if x1 = x2 then
        some ((0 : Int32), m)
      else
        (ldA K m a0 0 3).bind fun b6 =>
        (alO K m b6 x2 6).bind fun b7 =>
        (ldA K m a0 0 3).bind fun b8 =>
        (alO K m b8 x1 6).bind fun b9 =>
        (F_X7_become K m b7 b9).bind fun q10 =>
        some ((0 : Int32), q10)
  else
    some ((-2 : Int32), m)

def F_X8_copy (K : Kn) (m : Mem) (a0 : Nat) (x1 : Int32) (x2 : Int32) : Option (Int32 × Mem) := f_X8_copy K a0 x1 x2 m

def f_J9_floorMod_7cf53_18 (x0 : Int32) (x1 : Int32) (x2 : Int32) : Option Int32 :=
  some x2

def f_J9_floorMod_7cf53 (x0 : Int32) (x1 : Int32) : Option Int32 :=
  gd (¬ x1 = 0) <|
  bd (x0 - x0 / x1 * x1) fun z2 =>
  if 0 ≤ (x0 ^^^ x1) then
    f_J9_floorMod_7cf53_18 x0 x1 z2
  else
    if z2 = 0 then
      f_J9_floorMod_7cf53_18 x0 x1 z2
    else
      some (z2 + x1)

def F_J9_floorMod_7cf53 (x0 : Int32) (x1 : Int32) : Option Int32 := f_J9_floorMod_7cf53 x0 x1

def f_X2_tryChange_72 (K : Kn) (a0 : Nat) (a1 : Nat) (x2 : Int32) (x3 : Int32) (m : Mem) (x4 : Int32) : Option Mem :=
  (ldA K m a1 0 0).bind fun b1 =>
  (asI K m b1 x2 x4).bind fun m2 =>
  some m2

def f_X2_tryChange_62 (K : Kn) (a0 : Nat) (a1 : Nat) (x2 : Int32) (x3 : Int32) (m : Mem) (x4 : Int32) : Option Mem :=
  bd (sI m a0 1 ((gI m a0 1) + (1 : Int32))) fun m1 =>
  f_X2_tryChange_72 K a0 a1 x2 x3 m1 x4

def f_X2_tryChange (K : Kn) (a0 : Nat) (a1 : Nat) (x2 : Int32) (x3 : Int32) (m : Mem) : Option Mem :=
  (ldA K m a1 0 0).bind fun b1 =>
  (alI K m b1 x2).bind fun r2 =>
  if (255 : Int32) < x3 then
    some m
  else
    if x3 = r2 then
      some m
    else
      (ldA K m a1 0 0).bind fun b5 =>
      (asI K m b5 x2 x3).bind fun m6 =>
      (ldO K m6 a0 0 5).bind fun b7 =>
      (F_X6_examine K m6 b7 a1 (1 : Int32)).bind fun q8 =>
      if q8.1 = 0 then
        if (gI q8.2 a0 1) = (gI q8.2 a0 2) then
          bd (sI q8.2 a0 3 x2) fun m11 =>
          bd (sI m11 a0 4 x3) fun m12 =>
          f_X2_tryChange_62 K a0 a1 x2 x3 m12 r2
        else
          f_X2_tryChange_62 K a0 a1 x2 x3 q8.2 r2
      else
        f_X2_tryChange_72 K a0 a1 x2 x3 q8.2 r2

def F_X2_tryChange (K : Kn) (m : Mem) (a0 : Nat) (a1 : Nat) (x2 : Int32) (x3 : Int32) : Option Mem := f_X2_tryChange K a0 a1 x2 x3 m

def f_X2_seek_161 (K : Kn) (a0 : Nat) (a1 : Nat) (x2 : Int32) (m : Mem) (x3 : Int32) (x4 : Int32) : Option (Int32 × Mem) :=
  (F_X2_tryChange K m a0 a1 x3 x4).bind fun q1 =>
  some (gI q1 a0 1, q1)

def f_X2_seek_83B (K : Kn) (a0 : Nat) (a1 : Nat) (x2 : Int32) (k83 : Mem → Int32 → Int32 → Int32 → Int32 → Int32 → Option (Int32 × Mem)) (m : Mem) (x3 : Int32) (x4 : Int32) (x5 : Int32) (x6 : Int32) (x7 : Int32) : Option (Int32 × Mem) :=
  if x3 ≤ x7 then
    f_X2_seek_161 K a0 a1 x2 m x3 x4
  else
    (ldA K m a1 0 0).bind fun b2 =>
    (alI K m b2 x3).bind fun r3 =>
    if (251 : Int32) ≤ r3 then
      f_X2_seek_161 K a0 a1 x2 m x3 x4
    else
      (ldA K m a1 0 0).bind fun b5 =>
      (alI K m b5 x7).bind fun r6 =>
      (F_J9_floorMod_7cf53 (r6 + (x5 * x6)) (251 : Int32)).bind fun q7 =>
      (F_X2_tryChange K m a0 a1 x7 q7).bind fun q8 =>
      (F_X2_tryChange K q8 a0 a1 x7 (q7 + (251 : Int32))).bind fun q9 =>
      bd ((x6 * (31 : Int32)) - (x6 * (31 : Int32)) / (251 : Int32) * (251 : Int32)) fun z10 =>
      bd (x7 + (1 : Int32)) fun z11 =>
      k83 q9 x3 x4 x5 z10 z11

def f_X2_seek_83 (K : Kn) (a0 : Nat) (a1 : Nat) (x2 : Int32) (n : Nat) : Mem → Int32 → Int32 → Int32 → Int32 → Int32 → Option (Int32 × Mem) := lpM (fun _ _ _ _ _ _ => none) (f_X2_seek_83B K a0 a1 x2) n

def f_X2_seek_57B (K : Kn) (a0 : Nat) (a1 : Nat) (x2 : Int32) (k57 : Mem → Int32 → Int32 → Int32 → Int32 → Int32 → Option (Int32 × Mem)) (m : Mem) (x3 : Int32) (x4 : Int32) (x5 : Int32) (x6 : Int32) (x7 : Int32) : Option (Int32 × Mem) :=
  if x3 ≤ x7 then
    f_X2_seek_83 K a0 a1 x2 FU m x3 x4 x5 x6 (0 : Int32)
  else
    bd ((x6 * (81 : Int32)) - (x6 * (81 : Int32)) / (251 : Int32) * (251 : Int32)) fun z2 =>
    bd (x7 + (1 : Int32)) fun z3 =>
    k57 m x3 x4 x5 z2 z3

def f_X2_seek_57 (K : Kn) (a0 : Nat) (a1 : Nat) (x2 : Int32) (n : Nat) : Mem → Int32 → Int32 → Int32 → Int32 → Int32 → Option (Int32 × Mem) := lpM (fun _ _ _ _ _ _ => none) (f_X2_seek_57B K a0 a1 x2) n

def f_X2_seek (K : Kn) (a0 : Nat) (a1 : Nat) (x2 : Int32) (m : Mem) : Option (Int32 × Mem) :=
  bd (sI m a0 1 (0 : Int32)) fun m1 =>
  bd (sI m1 a0 2 x2) fun m2 =>
  if (gI m2 a1 6) = 0 then
    some ((0 : Int32), m2)
  else
    if (gI m2 a1 7) = 0 then
      some ((0 : Int32), m2)
    else
      bd ((gI m2 a1 1) - (1 : Int32)) fun z5 =>
      (F_X0_checkOf K m2 a1 z5).bind fun q6 =>
      (ldA K m2 a1 0 0).bind fun b7 =>
      (alI K m2 b7 z5).bind fun r8 =>
      bd (r8 - q6) fun z9 =>
      f_X2_seek_57 K a0 a1 x2 FU m2 z5 q6 z9 (1 : Int32) (1 : Int32)

def F_X2_seek (K : Kn) (m : Mem) (a0 : Nat) (a1 : Nat) (x2 : Int32) : Option (Int32 × Mem) := f_X2_seek K a0 a1 x2 m

def f_X8_mends (K : Kn) (a0 : Nat) (x1 : Int32) (x2 : Int32) (m : Mem) : Option (Int32 × Mem) :=
  (F_X8_blockOf K m a0 x1 x2).bind fun q1 =>
  caseO q1 (
    some ((-2 : Int32), m)) fun b2 =>
    gd (K b2 = some (.inl 0)) <|
    (ldO K m a0 7 2).bind fun b3 =>
    (F_X2_seek K m b3 b2 (-1 : Int32)).bind fun q4 =>
    some (q4.1, q4.2)

def F_X8_mends (K : Kn) (m : Mem) (a0 : Nat) (x1 : Int32) (x2 : Int32) : Option (Int32 × Mem) := f_X8_mends K a0 x1 x2 m

def f_X8_mend (K : Kn) (a0 : Nat) (x1 : Int32) (x2 : Int32) (x3 : Int32) (x4 : Int32) (m : Mem) : Option (Int32 × Mem) :=
  (F_X8_blockOf K m a0 x1 x2).bind fun q1 =>
  caseO q1 (
    some ((-2 : Int32), m)) fun b2 =>
    gd (K b2 = some (.inl 0)) <|
    if x4 < 0 then
      some ((-2 : Int32), m)
    else
      if x4 ≤ (1 : Int32) then
        if x3 < 0 then
          some ((-1 : Int32), m)
        else
          (ldO K m a0 7 2).bind fun b6 =>
          (F_X2_seek K m b6 b2 x3).bind fun q7 =>
          if x3 < q7.1 then
            if x4 = 0 then
              (ldO K q7.2 a0 7 2).bind fun b10 =>
              some (gI q7.2 b10 3, q7.2)
            else
              (ldO K q7.2 a0 7 2).bind fun b11 =>
              some (gI q7.2 b11 4, q7.2)
          else
            some ((-1 : Int32), q7.2)
      else
        some ((-2 : Int32), m)

def F_X8_mend (K : Kn) (m : Mem) (a0 : Nat) (x1 : Int32) (x2 : Int32) (x3 : Int32) (x4 : Int32) : Option (Int32 × Mem) := f_X8_mend K a0 x1 x2 x3 x4 m

def f_X8_seals (K : Kn) (a0 : Nat) (x1 : Int32) (m : Mem) : Option (Int32 × Mem) :=
  (F_X8_isNone K m a0 x1).bind fun q1 =>
  if q1 = 0 then
    (ldA K m a0 0 3).bind fun b3 =>
    (alO K m b3 x1 6).bind fun b4 =>
    (F_X7_openBlock K m b4).bind fun q5 =>
    caseO q5 (
      some ((-5 : Int32), m)) fun b6 =>
      gd (K b6 = some (.inl 0)) <|
      (F_X0_close K m b6).bind fun q7 =>
      some (gI q7 b6 1, q7)
  else
    some ((-2 : Int32), m)

def F_X8_seals (K : Kn) (m : Mem) (a0 : Nat) (x1 : Int32) : Option (Int32 × Mem) := f_X8_seals K a0 x1 m

def f_X7_remove_9B (K : Kn) (a0 : Nat) (x1 : Int32) (k9 : Mem → Nat → Int32 → Option (Int32 × Mem)) (m : Mem) (a2 : Nat) (x3 : Int32) : Option (Int32 × Mem) :=
  if ((gI m a0 3) - (1 : Int32)) ≤ x3 then
    (ldA K m a0 0 4).bind fun b2 =>
    (asO K m b2 ((gI m a0 3) - (1 : Int32)) a2).bind fun m3 =>
    bd (sI m3 a0 3 ((gI m3 a0 3) - (1 : Int32))) fun m4 =>
    some (gI m4 a0 3, m4)
  else
    (ldA K m a0 0 4).bind fun b5 =>
    (ldA K m a0 0 4).bind fun b6 =>
    (alO K m b6 (x3 + (1 : Int32)) 0).bind fun b7 =>
    (asO K m b5 x3 b7).bind fun m8 =>
    bd (x3 + (1 : Int32)) fun z9 =>
    k9 m8 a2 z9

def f_X7_remove_9 (K : Kn) (a0 : Nat) (x1 : Int32) (n : Nat) : Mem → Nat → Int32 → Option (Int32 × Mem) := lpM (fun _ _ _ => none) (f_X7_remove_9B K a0 x1) n

def f_X7_remove (K : Kn) (a0 : Nat) (x1 : Int32) (m : Mem) : Option (Int32 × Mem) :=
  (ldA K m a0 0 4).bind fun b1 =>
  (alO K m b1 x1 0).bind fun b2 =>
  f_X7_remove_9 K a0 x1 FU m b2 x1

def F_X7_remove (K : Kn) (m : Mem) (a0 : Nat) (x1 : Int32) : Option (Int32 × Mem) := f_X7_remove K a0 x1 m

def f_X8_drops (K : Kn) (a0 : Nat) (x1 : Int32) (x2 : Int32) (m : Mem) : Option (Int32 × Mem) :=
  (F_X8_blockOf K m a0 x1 x2).bind fun q1 =>
  caseO q1 (
    some ((-2 : Int32), m)) fun b2 =>
    gd (K b2 = some (.inl 0)) <|
    (ldA K m a0 0 3).bind fun b3 =>
    (alO K m b3 x1 6).bind fun b4 =>
    (F_X7_remove K m b4 x2).bind fun q5 =>
    some (q5.1, q5.2)

def F_X8_drops (K : Kn) (m : Mem) (a0 : Nat) (x1 : Int32) (x2 : Int32) : Option (Int32 × Mem) := f_X8_drops K a0 x1 x2 m

def f_X5_countBelow_32 (K : Kn) (m : Mem) (a0 : Nat) (x1 : Int64) (k5 : Int32 → Int32 → Option Int32) (x3 : Int32) (x4 : Int32) : Option Int32 :=
  bd (x4 + (1 : Int32)) fun z1 =>
  k5 x3 z1

def f_X5_countBelow_5B (K : Kn) (m : Mem) (a0 : Nat) (x1 : Int64) (k5 : Int32 → Int32 → Option Int32) (x3 : Int32) (x4 : Int32) : Option Int32 :=
  if (gI m a0 2) ≤ x4 then
    some x3
  else
    (ldA K m a0 1 1).bind fun b2 =>
    (alJ K m b2 x4).bind fun r3 =>
    (F_X3_order r3).bind fun q4 =>
    if 0 ≤ (lg_cmp q4 x1) then
      f_X5_countBelow_32 K m a0 x1 k5 x3 x4
    else
      bd (x3 + (1 : Int32)) fun z6 =>
      f_X5_countBelow_32 K m a0 x1 k5 z6 x4

def f_X5_countBelow_5 (K : Kn) (m : Mem) (a0 : Nat) (x1 : Int64) (n : Nat) : Int32 → Int32 → Option Int32 := lpM (fun _ _ => none) (f_X5_countBelow_5B K m a0 x1) n

def f_X5_countBelow (K : Kn) (m : Mem) (a0 : Nat) (x1 : Int64) : Option Int32 :=
  f_X5_countBelow_5 K m a0 x1 FU (0 : Int32) (0 : Int32)

def F_X5_countBelow (K : Kn) (m : Mem) (a0 : Nat) (x1 : Int64) : Option Int32 := f_X5_countBelow K m a0 x1

def f_X5_ranked_61 (K : Kn) (m : Mem) (a0 : Nat) (x1 : Int32) (k12 : Int64 → Int64 → Int32 → Option Int64) (x2 : Int64) (x4 : Int64) (x6 : Int32) : Option Int64 :=
  bd (x6 + (1 : Int32)) fun z1 =>
  k12 x2 x4 z1

def f_X5_ranked_119 (K : Kn) (m : Mem) (a0 : Nat) (x1 : Int32) (k79 : Int64 → Int32 → Int32 → Option Int64) (x2 : Int64) (x6 : Int32) (x7 : Int32) : Option Int64 :=
  bd (x7 + (1 : Int32)) fun z1 =>
  k79 x2 x6 z1

def f_X5_ranked_79B (K : Kn) (m : Mem) (a0 : Nat) (x1 : Int32) (k79 : Int64 → Int32 → Int32 → Option Int64) (x2 : Int64) (x6 : Int32) (x7 : Int32) : Option Int64 :=
  if (gI m a0 2) ≤ x7 then
    some (9221120237041090560 : Int64)
  else
    (ldA K m a0 1 1).bind fun b2 =>
    (alJ K m b2 x7).bind fun r3 =>
    (F_X3_order r3).bind fun q4 =>
    if (lg_cmp q4 x2) = 0 then
      if x6 = 0 then
        (ldA K m a0 1 1).bind fun b7 =>
        (alJ K m b7 x7).bind fun r8 =>
        some r8
      else
        bd (x6 + (-1 : Int32)) fun z9 =>
        f_X5_ranked_119 K m a0 x1 k79 x2 z9 x7
    else
      f_X5_ranked_119 K m a0 x1 k79 x2 x6 x7

def f_X5_ranked_79 (K : Kn) (m : Mem) (a0 : Nat) (x1 : Int32) (n : Nat) : Int64 → Int32 → Int32 → Option Int64 := lpM (fun _ _ _ => none) (f_X5_ranked_79B K m a0 x1) n

def f_X5_ranked_67 (K : Kn) (m : Mem) (a0 : Nat) (x1 : Int32) (x2 : Int64) : Option Int64 :=
  (F_X5_countBelow K m a0 x2).bind fun q1 =>
  bd (x1 - q1) fun z2 =>
  f_X5_ranked_79 K m a0 x1 FU x2 z2 (0 : Int32)

def f_X5_ranked_12B (K : Kn) (m : Mem) (a0 : Nat) (x1 : Int32) (k12 : Int64 → Int64 → Int32 → Option Int64) (x2 : Int64) (x4 : Int64) (x6 : Int32) : Option Int64 :=
  if (64 : Int32) ≤ x6 then
    f_X5_ranked_67 K m a0 x1 x2
  else
    if 0 ≤ (lg_cmp x2 x4) then
      f_X5_ranked_67 K m a0 x1 x2
    else
      bd ((x2 ||| x4) - (lshr (x2 ^^^ x4) (1 : Int32))) fun z3 =>
      (F_X5_countBelow K m a0 z3).bind fun q4 =>
      if x1 < q4 then
        bd (z3 - (1 : Int64)) fun z6 =>
        f_X5_ranked_61 K m a0 x1 k12 x2 z6 x6
      else
        f_X5_ranked_61 K m a0 x1 k12 z3 x4 x6

def f_X5_ranked_12 (K : Kn) (m : Mem) (a0 : Nat) (x1 : Int32) (n : Nat) : Int64 → Int64 → Int32 → Option Int64 := lpM (fun _ _ _ => none) (f_X5_ranked_12B K m a0 x1) n

def f_X5_ranked (K : Kn) (m : Mem) (a0 : Nat) (x1 : Int32) : Option Int64 :=
  f_X5_ranked_12 K m a0 x1 FU (-9218868437227405312 : Int64) (9218868437227405312 : Int64) (0 : Int32)

def F_X5_ranked (K : Kn) (m : Mem) (a0 : Nat) (x1 : Int32) : Option Int64 := f_X5_ranked K m a0 x1

def f_X8_least (K : Kn) (a0 : Nat) (x1 : Int32) (x2 : Int32) (x3 : Int32) (x4 : Int32) (m : Mem) : Option (Int64 × Mem) :=
  (F_X8_isNone K m a0 x1).bind fun q1 =>
  if q1 = 0 then
    if x3 < x2 then
      some ((9221120237041090560 : Int64), m)
    else
      if 0 ≤ x4 then
        (ldA K m a0 0 3).bind fun b5 =>
        (alO K m b5 x1 6).bind fun b6 =>
        (ldO K m a0 5 5).bind fun b7 =>
        (ldO K m a0 2 4).bind fun b8 =>
        (F_X7_gather K m b6 x2 x3 b7 b8).bind fun q9 =>
        (ldO K q9 a0 2 4).bind fun b10 =>
        (F_X5_keepNumbers K q9 b10).bind fun q11 =>
        (ldO K q11 a0 2 4).bind fun b12 =>
        if (gI q11 b12 2) ≤ x4 then
          some ((9221120237041090560 : Int64), q11)
        else
          (ldO K q11 a0 2 4).bind fun b14 =>
          (F_X5_ranked K q11 b14 x4).bind fun q15 =>
          some (q15, q11)
      else
        some ((9221120237041090560 : Int64), m)
  else
    some ((9221120237041090560 : Int64), m)

def F_X8_least (K : Kn) (m : Mem) (a0 : Nat) (x1 : Int32) (x2 : Int32) (x3 : Int32) (x4 : Int32) : Option (Int64 × Mem) := f_X8_least K a0 x1 x2 x3 x4 m

def f_X5_passings_98 (K : Kn) (m : Mem) (a0 : Nat) (x1 : Int64) (k11 : Int32 → Int64 → Int32 → Option Int32) (x3 : Int32) (x4 : Int64) (x6 : Int32) : Option Int32 :=
  bd (x6 + (1 : Int32)) fun z1 =>
  k11 x3 x4 z1

def f_X5_passings_92 (K : Kn) (m : Mem) (a0 : Nat) (x1 : Int64) (k11 : Int32 → Int64 → Int32 → Option Int32) (x3 : Int32) (x4 : Int64) (x6 : Int32) (s0 : Int32) (s1 : Int32) : Option Int32 :=
  if s0 = s1 then
    f_X5_passings_98 K m a0 x1 k11 x3 x4 x6
  else
    bd (x3 + (1 : Int32)) fun z2 =>
    f_X5_passings_98 K m a0 x1 k11 z2 x4 x6

def f_X5_passings_71 (K : Kn) (m : Mem) (a0 : Nat) (x1 : Int64) (k11 : Int32 → Int64 → Int32 → Option Int32) (x3 : Int32) (x4 : Int64) (x6 : Int32) (s0 : Int32) : Option Int32 :=
  (ldA K m a0 1 1).bind fun b1 =>
  (alJ K m b1 x6).bind fun r2 =>
  (F_X3_order r2).bind fun q3 =>
  if 0 ≤ (lg_cmp q3 x4) then
    f_X5_passings_92 K m a0 x1 k11 x3 x4 x6 s0 (0 : Int32)
  else
    f_X5_passings_92 K m a0 x1 k11 x3 x4 x6 s0 (1 : Int32)

def f_X5_passings_11B (K : Kn) (m : Mem) (a0 : Nat) (x1 : Int64) (k11 : Int32 → Int64 → Int32 → Option Int32) (x3 : Int32) (x4 : Int64) (x6 : Int32) : Option Int32 :=
  if (gI m a0 2) ≤ x6 then
    some x3
  else
    (ldA K m a0 1 1).bind fun b2 =>
    (alJ K m b2 (x6 - (1 : Int32))).bind fun r3 =>
    (F_X3_isNumber r3).bind fun q4 =>
    if q4 = 0 then
      f_X5_passings_98 K m a0 x1 k11 x3 x4 x6
    else
      (ldA K m a0 1 1).bind fun b6 =>
      (alJ K m b6 x6).bind fun r7 =>
      (F_X3_isNumber r7).bind fun q8 =>
      if q8 = 0 then
        f_X5_passings_98 K m a0 x1 k11 x3 x4 x6
      else
        (ldA K m a0 1 1).bind fun b10 =>
        (alJ K m b10 (x6 - (1 : Int32))).bind fun r11 =>
        (F_X3_order r11).bind fun q12 =>
        if 0 ≤ (lg_cmp q12 x4) then
          f_X5_passings_71 K m a0 x1 k11 x3 x4 x6 (0 : Int32)
        else
          f_X5_passings_71 K m a0 x1 k11 x3 x4 x6 (1 : Int32)

def f_X5_passings_11 (K : Kn) (m : Mem) (a0 : Nat) (x1 : Int64) (n : Nat) : Int32 → Int64 → Int32 → Option Int32 := lpM (fun _ _ _ => none) (f_X5_passings_11B K m a0 x1) n

def f_X5_passings (K : Kn) (m : Mem) (a0 : Nat) (x1 : Int64) : Option Int32 :=
  (F_X3_order x1).bind fun q1 =>
  f_X5_passings_11 K m a0 x1 FU (0 : Int32) q1 (1 : Int32)

def F_X5_passings (K : Kn) (m : Mem) (a0 : Nat) (x1 : Int64) : Option Int32 := f_X5_passings K m a0 x1

def f_X8_passes (K : Kn) (a0 : Nat) (x1 : Int32) (x2 : Int64) (m : Mem) : Option (Int32 × Mem) :=
  (F_X8_isNone K m a0 x1).bind fun q1 =>
  if q1 = 0 then
    (F_X3_isNumber x2).bind fun q3 =>
    if q3 = 0 then
      some ((-1 : Int32), m)
    else
      (F_X8_gathered K m a0 x1).bind fun q5 =>
      gd (K q5.1 = some (.inl 4)) <|
      (F_X5_passings K q5.2 q5.1 x2).bind fun q7 =>
      some (q7, q5.2)
  else
    some ((-2 : Int32), m)

def F_X8_passes (K : Kn) (m : Mem) (a0 : Nat) (x1 : Int32) (x2 : Int64) : Option (Int32 × Mem) := f_X8_passes K a0 x1 x2 m

def f_X8_since (K : Kn) (a0 : Nat) (x1 : Int32) (x2 : Int32) (m : Mem) : Option (Int32 × Mem) :=
  (F_X8_isNone K m a0 x1).bind fun q1 =>
  if q1 = 0 then
    (F_X8_isStamp x2).bind fun q3 =>
    if q3 = 0 then
      some ((-2 : Int32), m)
    else
      (ldA K m a0 0 3).bind fun b5 =>
      (alO K m b5 x1 6).bind fun b6 =>
      (ldO K m a0 5 5).bind fun b7 =>
      (ldO K m a0 2 4).bind fun b8 =>
      (F_X7_gather K m b6 (0 : Int32) x2 b7 b8).bind fun q9 =>
      (ldO K q9 a0 2 4).bind fun b10 =>
      (F_X5_lastStamp K q9 b10).bind fun q11 =>
      some (q11, q9)
  else
    some ((-2 : Int32), m)

def F_X8_since (K : Kn) (m : Mem) (a0 : Nat) (x1 : Int32) (x2 : Int32) : Option (Int32 × Mem) := f_X8_since K a0 x1 x2 m

def f_X3_times_101 (x0 : Int64) (x2 : Int32) (x9 : Int32) (s0 : Int64) (s1 : Int32) : Option Int64 :=
  bd (s0 ||| ((s1).toInt64)) fun z1 =>
  (F_X3_exponent x0).bind fun q2 =>
  (F_X3_roundedOff (x0 &&& (-9223372036854775808 : Int64)) ((q2 + (8 : Int32)) + x9) z1).bind fun q3 =>
  some q3

def f_X3_times (x0 : Int64) (x2 : Int32) : Option Int64 :=
  (F_X3_isInfinite x0).bind fun q1 =>
  if q1 = 0 then
    (F_X3_fraction x0).bind fun q3 =>
    bd ((q3 &&& (4294967295 : Int64)) * ((x2).toInt64)) fun z4 =>
    bd (((lushr q3 (32 : Int32)) * ((x2).toInt64)) + (lushr z4 (32 : Int32))) fun z5 =>
    bd (z4 &&& (4294967295 : Int64)) fun z6 =>
    (F_J13_numberOfLeadingZeros_95d88 z5).bind fun q7 =>
    (F_J9_max_7cf53 (0 : Int32) (((64 : Int32) - q7) - (29 : Int32))).bind fun q8 =>
    bd (z6 &&& ((lshl (1 : Int64) q8) - (1 : Int64))) fun z9 =>
    if (lg_cmp z9 (0 : Int64)) = 0 then
      f_X3_times_101 x0 x2 q8 ((lshl z5 ((32 : Int32) - q8)) ||| (lushr z6 q8)) (0 : Int32)
    else
      f_X3_times_101 x0 x2 q8 ((lshl z5 ((32 : Int32) - q8)) ||| (lushr z6 q8)) (1 : Int32)
  else
    some x0

def F_X3_times (x0 : Int64) (x2 : Int32) : Option Int64 := f_X3_times x0 x2

def f_X5_surface_63 (K : Kn) (m : Mem) (a0 : Nat) (k4 : Int64 → Int32 → Option Int64) (x1 : Int64) (x3 : Int32) : Option Int64 :=
  bd (x3 + (1 : Int32)) fun z1 =>
  k4 x1 z1

def f_X5_surface_69 (K : Kn) (m : Mem) (a0 : Nat) (x1 : Int64) : Option Int64 :=
  some x1

def f_X5_surface_4B (K : Kn) (m : Mem) (a0 : Nat) (k4 : Int64 → Int32 → Option Int64) (x1 : Int64) (x3 : Int32) : Option Int64 :=
  if ((gI m a0 2) - (1 : Int32)) ≤ x3 then
    f_X5_surface_69 K m a0 x1
  else
    if (lg_cmp x1 (9221120237041090560 : Int64)) = 0 then
      f_X5_surface_69 K m a0 x1
    else
      (ldA K m a0 1 1).bind fun b3 =>
      (alJ K m b3 x3).bind fun r4 =>
      (F_X3_isNumber r4).bind fun q5 =>
      if q5 = 0 then
        f_X5_surface_63 K m a0 k4 x1 x3
      else
        (ldA K m a0 1 1).bind fun b7 =>
        (alJ K m b7 x3).bind fun r8 =>
        (ldA K m a0 0 0).bind fun b9 =>
        (alI K m b9 (x3 + (1 : Int32))).bind fun r10 =>
        (ldA K m a0 0 0).bind fun b11 =>
        (alI K m b11 x3).bind fun r12 =>
        (F_X3_times r8 (r10 - r12)).bind fun q13 =>
        (F_X3_plus x1 q13).bind fun q14 =>
        f_X5_surface_63 K m a0 k4 q14 x3

def f_X5_surface_4 (K : Kn) (m : Mem) (a0 : Nat) (n : Nat) : Int64 → Int32 → Option Int64 := lpM (fun _ _ => none) (f_X5_surface_4B K m a0) n

def f_X5_surface (K : Kn) (m : Mem) (a0 : Nat) : Option Int64 :=
  f_X5_surface_4 K m a0 FU (0 : Int64) (0 : Int32)

def F_X5_surface (K : Kn) (m : Mem) (a0 : Nat) : Option Int64 := f_X5_surface K m a0

def f_X8_area (K : Kn) (a0 : Nat) (x1 : Int32) (x2 : Int32) (x3 : Int32) (m : Mem) : Option (Int64 × Mem) :=
  (F_X8_isNone K m a0 x1).bind fun q1 =>
  if q1 = 0 then
    if x2 ≤ x3 then
      (ldA K m a0 0 3).bind fun b4 =>
      (alO K m b4 x1 6).bind fun b5 =>
      (ldO K m a0 5 5).bind fun b6 =>
      (ldO K m a0 2 4).bind fun b7 =>
      (F_X7_gather K m b5 x2 x3 b6 b7).bind fun q8 =>
      (ldO K q8 a0 2 4).bind fun b9 =>
      (F_X5_surface K q8 b9).bind fun q10 =>
      some (q10, q8)
    else
      some ((9221120237041090560 : Int64), m)
  else
    some ((9221120237041090560 : Int64), m)

def F_X8_area (K : Kn) (m : Mem) (a0 : Nat) (x1 : Int32) (x2 : Int32) (x3 : Int32) : Option (Int64 × Mem) := f_X8_area K a0 x1 x2 x3 m

def f_X8_feed (K : Kn) (a0 : Nat) (x1 : Int32) (x2 : Int32) (x3 : Int32) (x4 : Int32) (x5 : Int32) (m : Mem) : Option (Int32 × Mem) :=
  (ldO K m a0 8 0).bind fun b1 =>
  if ((gI m b1 1) + (20 : Int32)) ≤ (200 : Int32) then
    (ldO K m a0 8 0).bind fun b3 =>
    (F_X0_append K m b3 x1).bind fun q4 =>
    (ldO K q4 a0 8 0).bind fun b5 =>
    (F_X0_append K q4 b5 x2).bind fun q6 =>
    (ldO K q6 a0 8 0).bind fun b7 =>
    (F_X0_append K q6 b7 x3).bind fun q8 =>
    (ldO K q8 a0 8 0).bind fun b9 =>
    (F_X0_append K q8 b9 x4).bind fun q10 =>
    (ldO K q10 a0 8 0).bind fun b11 =>
    (F_X0_append K q10 b11 x5).bind fun q12 =>
    (ldO K q12 a0 8 0).bind fun b13 =>
    some (gI q12 b13 1, q12)
  else
    some ((-1 : Int32), m)

def F_X8_feed (K : Kn) (m : Mem) (a0 : Nat) (x1 : Int32) (x2 : Int32) (x3 : Int32) (x4 : Int32) (x5 : Int32) : Option (Int32 × Mem) := f_X8_feed K a0 x1 x2 x3 x4 x5 m

def f_X8_end (K : Kn) (a0 : Nat) (x1 : Int32) (m : Mem) : Option (Int32 × Mem) :=
  if x1 < 0 then
    some ((-1 : Int32), m)
  else
    (ldO K m a0 8 0).bind fun b2 =>
    if x1 ≤ (gI m b2 1) then
      (ldO K m a0 8 0).bind fun b4 =>
      bd (sI m b4 1 x1) fun m5 =>
      some (x1, m5)
    else
      some ((-1 : Int32), m)

def F_X8_end (K : Kn) (m : Mem) (a0 : Nat) (x1 : Int32) : Option (Int32 × Mem) := f_X8_end K a0 x1 m

def f_X7_take (K : Kn) (a0 : Nat) (a1 : Nat) (m : Mem) : Option (Int32 × Mem) :=
  if (gI m a0 3) < (16 : Int32) then
    (F_X7_closeOpen K m a0).bind fun q2 =>
    (ldA K q2 a0 0 4).bind fun b3 =>
    (alO K q2 b3 (gI q2 a0 3) 0).bind fun b4 =>
    (F_X0_become K q2 b4 a1).bind fun q5 =>
    bd (sI q5 a0 3 ((gI q5 a0 3) + (1 : Int32))) fun m6 =>
    bd (sI m6 a0 5 (gI m6 a1 5)) fun m7 =>
    some ((gI m7 a0 3) - (1 : Int32), m7)
  else
    some ((-4 : Int32), m)

def F_X7_take (K : Kn) (m : Mem) (a0 : Nat) (a1 : Nat) : Option (Int32 × Mem) := f_X7_take K a0 a1 m

def f_X8_takenBy (K : Kn) (a0 : Nat) (a1 : Nat) (m : Mem) : Option (Int32 × Mem) :=
  (ldO K m a0 5 5).bind fun b1 =>
  (ldO K m a0 8 0).bind fun b2 =>
  (F_X6_examine K m b1 b2 (0 : Int32)).bind fun q3 =>
  bd (q3.1) fun z4 =>
  if z4 = 0 then
    (ldO K q3.2 a0 8 0).bind fun b6 =>
    if (gI q3.2 b6 1) ≤ (gI q3.2 a1 4) then
      (ldO K q3.2 a0 5 5).bind fun b8 =>
      if (gI q3.2 a1 5) < (gI q3.2 b8 1) then
        (ldO K q3.2 a0 8 0).bind fun b10 =>
        (ldO K q3.2 a0 5 5).bind fun b11 =>
        bd (sI q3.2 b10 4 (gI q3.2 b11 1)) fun m12 =>
        (ldO K m12 a0 8 0).bind fun b13 =>
        (ldO K m12 a0 5 5).bind fun b14 =>
        (ldO K m12 b14 0 1).bind fun b15 =>
        bd (sI m12 b13 5 (gI m12 b15 0)) fun m16 =>
        (ldO K m16 a0 8 0).bind fun b17 =>
        (ldO K m16 a0 5 5).bind fun b18 =>
        (F_X0_settle K m16 b17 (0 : Int32) b18).bind fun q19 =>
        (ldO K q19 a0 8 0).bind fun b20 =>
        (F_X7_take K q19 a1 b20).bind fun q21 =>
        some (q21.1, q21.2)
      else
        some ((-5 : Int32), q3.2)
    else
      some ((-3 : Int32), q3.2)
  else
    some ((-10 : Int32) - z4, q3.2)

def F_X8_takenBy (K : Kn) (m : Mem) (a0 : Nat) (a1 : Nat) : Option (Int32 × Mem) := f_X8_takenBy K a0 a1 m

def f_X8_takes (K : Kn) (a0 : Nat) (x1 : Int32) (m : Mem) : Option (Int32 × Mem) :=
  (F_X8_isNone K m a0 x1).bind fun q1 =>
  if q1 = 0 then
    (ldO K m a0 8 0).bind fun b3 =>
    bd (sI m b3 6 (1 : Int32)) fun m4 =>
    (ldA K m4 a0 0 3).bind fun b5 =>
    (alO K m4 b5 x1 6).bind fun b6 =>
    (F_X8_takenBy K m4 a0 b6).bind fun q7 =>
    bd (q7.1) fun z8 =>
    (ldO K q7.2 a0 8 0).bind fun b9 =>
    bd (sI q7.2 b9 1 (0 : Int32)) fun m10 =>
    some (z8, m10)
  else
    some ((-2 : Int32), m)

def F_X8_takes (K : Kn) (m : Mem) (a0 : Nat) (x1 : Int32) : Option (Int32 × Mem) := f_X8_takes K a0 x1 m

def f_X8_taped (K : Kn) (m : Mem) (a0 : Nat) : Option Int32 :=
  (ldO K m a0 8 0).bind fun b1 =>
  some (gI m b1 1)

def F_X8_taped (K : Kn) (m : Mem) (a0 : Nat) : Option Int32 := f_X8_taped K m a0
