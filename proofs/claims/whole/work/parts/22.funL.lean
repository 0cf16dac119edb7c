/-! ===== the program as functions over the memory (printed by program out of the bytecode) ===== -/
def f_L_law_228 (K : Kn) (sL : Nat) (sx : Nat → Int32) (k18 : Mem → Nat → Nat → Int32 → Option Int32) (m : Mem) (a1 : Nat) (a2 : Nat) (x3 : Int32) : Option Int32 :=
  gd (inb (x3 + (1 : Int32)) sL = true) <|
  gd (inb (x3 + (2 : Int32)) sL = true) <|
  (F_X8_begins K m a1 (sx (x3 + (1 : Int32)).toNatClampNeg) (sx (x3 + (2 : Int32)).toNatClampNeg)).bind fun q3 =>
  gd (inb (x3 + (1 : Int32)) sL = true) <|
  gd (inb (x3 + (2 : Int32)) sL = true) <|
  (F_X9_begins K q3.2 a2 (sx (x3 + (1 : Int32)).toNatClampNeg) (sx (x3 + (2 : Int32)).toNatClampNeg)).bind fun q6 =>
  if q3.1 = q6.1 then
    bd (x3 + (6 : Int32)) fun z8 =>
    k18 q6.2 a1 a2 z8
  else
    some 0

def f_L_law_261 (K : Kn) (sL : Nat) (sx : Nat → Int32) (k18 : Mem → Nat → Nat → Int32 → Option Int32) (m : Mem) (a1 : Nat) (a2 : Nat) (x3 : Int32) : Option Int32 :=
  gd (inb (x3 + (1 : Int32)) sL = true) <|
  gd (inb (x3 + (2 : Int32)) sL = true) <|
  gd (inb (x3 + (3 : Int32)) sL = true) <|
  gd (inb (x3 + (4 : Int32)) sL = true) <|
  (F_X8_add K m a1 (sx (x3 + (1 : Int32)).toNatClampNeg) (sx (x3 + (2 : Int32)).toNatClampNeg) ((lshl ((sx (x3 + (3 : Int32)).toNatClampNeg).toInt64) (32 : Int32)) ||| (((sx (x3 + (4 : Int32)).toNatClampNeg).toInt64) &&& (4294967295 : Int64)))).bind fun q5 =>
  gd (inb (x3 + (1 : Int32)) sL = true) <|
  gd (inb (x3 + (2 : Int32)) sL = true) <|
  gd (inb (x3 + (3 : Int32)) sL = true) <|
  gd (inb (x3 + (4 : Int32)) sL = true) <|
  (F_X9_add K q5.2 a2 (sx (x3 + (1 : Int32)).toNatClampNeg) (sx (x3 + (2 : Int32)).toNatClampNeg) ((lshl ((sx (x3 + (3 : Int32)).toNatClampNeg).toInt64) (32 : Int32)) ||| (((sx (x3 + (4 : Int32)).toNatClampNeg).toInt64) &&& (4294967295 : Int64)))).bind fun q10 =>
  if q5.1 = q10.1 then
    bd (x3 + (6 : Int32)) fun z12 =>
    k18 q10.2 a1 a2 z12
  else
    some 0

def f_L_law_334 (K : Kn) (sL : Nat) (sx : Nat → Int32) (k18 : Mem → Nat → Nat → Int32 → Option Int32) (m : Mem) (a1 : Nat) (a2 : Nat) (x3 : Int32) : Option Int32 :=
  gd (inb (x3 + (1 : Int32)) sL = true) <|
  gd (inb (x3 + (2 : Int32)) sL = true) <|
  gd (inb (x3 + (3 : Int32)) sL = true) <|
  gd (inb (x3 + (4 : Int32)) sL = true) <|
  (F_X8_late K m a1 (sx (x3 + (1 : Int32)).toNatClampNeg) (sx (x3 + (2 : Int32)).toNatClampNeg) ((lshl ((sx (x3 + (3 : Int32)).toNatClampNeg).toInt64) (32 : Int32)) ||| (((sx (x3 + (4 : Int32)).toNatClampNeg).toInt64) &&& (4294967295 : Int64)))).bind fun q5 =>
  gd (inb (x3 + (1 : Int32)) sL = true) <|
  gd (inb (x3 + (2 : Int32)) sL = true) <|
  gd (inb (x3 + (3 : Int32)) sL = true) <|
  gd (inb (x3 + (4 : Int32)) sL = true) <|
  (F_X9_late K q5.2 a2 (sx (x3 + (1 : Int32)).toNatClampNeg) (sx (x3 + (2 : Int32)).toNatClampNeg) ((lshl ((sx (x3 + (3 : Int32)).toNatClampNeg).toInt64) (32 : Int32)) ||| (((sx (x3 + (4 : Int32)).toNatClampNeg).toInt64) &&& (4294967295 : Int64)))).bind fun q10 =>
  if q5.1 = q10.1 then
    bd (x3 + (6 : Int32)) fun z12 =>
    k18 q10.2 a1 a2 z12
  else
    some 0

def f_L_law_407 (K : Kn) (sL : Nat) (sx : Nat → Int32) (k18 : Mem → Nat → Nat → Int32 → Option Int32) (m : Mem) (a1 : Nat) (a2 : Nat) (x3 : Int32) : Option Int32 :=
  gd (inb (x3 + (1 : Int32)) sL = true) <|
  gd (inb (x3 + (2 : Int32)) sL = true) <|
  gd (inb (x3 + (3 : Int32)) sL = true) <|
  gd (inb (x3 + (4 : Int32)) sL = true) <|
  (F_X8_would K m a1 (sx (x3 + (1 : Int32)).toNatClampNeg) (sx (x3 + (2 : Int32)).toNatClampNeg) ((lshl ((sx (x3 + (3 : Int32)).toNatClampNeg).toInt64) (32 : Int32)) ||| (((sx (x3 + (4 : Int32)).toNatClampNeg).toInt64) &&& (4294967295 : Int64)))).bind fun q5 =>
  gd (inb (x3 + (1 : Int32)) sL = true) <|
  gd (inb (x3 + (2 : Int32)) sL = true) <|
  gd (inb (x3 + (3 : Int32)) sL = true) <|
  gd (inb (x3 + (4 : Int32)) sL = true) <|
  (F_X9_would K q5.2 a2 (sx (x3 + (1 : Int32)).toNatClampNeg) (sx (x3 + (2 : Int32)).toNatClampNeg) ((lshl ((sx (x3 + (3 : Int32)).toNatClampNeg).toInt64) (32 : Int32)) ||| (((sx (x3 + (4 : Int32)).toNatClampNeg).toInt64) &&& (4294967295 : Int64)))).bind fun q10 =>
  if q5.1 = q10.1 then
    bd (x3 + (6 : Int32)) fun z12 =>
    k18 q10.2 a1 a2 z12
  else
    some 0

def f_L_law_480 (K : Kn) (sL : Nat) (sx : Nat → Int32) (k18 : Mem → Nat → Nat → Int32 → Option Int32) (m : Mem) (a1 : Nat) (a2 : Nat) (x3 : Int32) : Option Int32 :=
  gd (inb (x3 + (1 : Int32)) sL = true) <|
  (F_X8_merge K m a1 (sx (x3 + (1 : Int32)).toNatClampNeg)).bind fun q2 =>
  gd (inb (x3 + (1 : Int32)) sL = true) <|
  (F_X9_merge K q2.2 a2 (sx (x3 + (1 : Int32)).toNatClampNeg)).bind fun q4 =>
  if q2.1 = q4.1 then
    bd (x3 + (6 : Int32)) fun z6 =>
    k18 q4.2 a1 a2 z6
  else
    some 0

def f_L_law_503 (K : Kn) (sL : Nat) (sx : Nat → Int32) (k18 : Mem → Nat → Nat → Int32 → Option Int32) (m : Mem) (a1 : Nat) (a2 : Nat) (x3 : Int32) : Option Int32 :=
  gd (inb (x3 + (1 : Int32)) sL = true) <|
  gd (inb (x3 + (2 : Int32)) sL = true) <|
  (F_X8_count K m a1 (sx (x3 + (1 : Int32)).toNatClampNeg) (sx (x3 + (2 : Int32)).toNatClampNeg)).bind fun q3 =>
  gd (inb (x3 + (1 : Int32)) sL = true) <|
  gd (inb (x3 + (2 : Int32)) sL = true) <|
  (F_X9_count K q3.2 a2 (sx (x3 + (1 : Int32)).toNatClampNeg) (sx (x3 + (2 : Int32)).toNatClampNeg)).bind fun q6 =>
  if q3.1 = q6.1 then
    bd (x3 + (6 : Int32)) fun z8 =>
    k18 q6.2 a1 a2 z8
  else
    some 0

def f_L_law_536 (K : Kn) (sL : Nat) (sx : Nat → Int32) (k18 : Mem → Nat → Nat → Int32 → Option Int32) (m : Mem) (a1 : Nat) (a2 : Nat) (x3 : Int32) : Option Int32 :=
  gd (inb (x3 + (1 : Int32)) sL = true) <|
  gd (inb (x3 + (2 : Int32)) sL = true) <|
  gd (inb (x3 + (3 : Int32)) sL = true) <|
  (F_X8_block K m a1 (sx (x3 + (1 : Int32)).toNatClampNeg) (sx (x3 + (2 : Int32)).toNatClampNeg) (sx (x3 + (3 : Int32)).toNatClampNeg)).bind fun q4 =>
  gd (inb (x3 + (1 : Int32)) sL = true) <|
  gd (inb (x3 + (2 : Int32)) sL = true) <|
  gd (inb (x3 + (3 : Int32)) sL = true) <|
  (F_X9_block K m a2 (sx (x3 + (1 : Int32)).toNatClampNeg) (sx (x3 + (2 : Int32)).toNatClampNeg) (sx (x3 + (3 : Int32)).toNatClampNeg)).bind fun q8 =>
  if q4 = q8.1 then
    bd (x3 + (6 : Int32)) fun z10 =>
    k18 q8.2 a1 a2 z10
  else
    some 0

def f_L_law_579 (K : Kn) (sL : Nat) (sx : Nat → Int32) (k18 : Mem → Nat → Nat → Int32 → Option Int32) (m : Mem) (a1 : Nat) (a2 : Nat) (x3 : Int32) : Option Int32 :=
  gd (inb (x3 + (1 : Int32)) sL = true) <|
  gd (inb (x3 + (2 : Int32)) sL = true) <|
  gd (inb (x3 + (3 : Int32)) sL = true) <|
  (F_X8_octet K m a1 (sx (x3 + (1 : Int32)).toNatClampNeg) (sx (x3 + (2 : Int32)).toNatClampNeg) (sx (x3 + (3 : Int32)).toNatClampNeg)).bind fun q4 =>
  gd (inb (x3 + (1 : Int32)) sL = true) <|
  gd (inb (x3 + (2 : Int32)) sL = true) <|
  gd (inb (x3 + (3 : Int32)) sL = true) <|
  (F_X9_octet K m a2 (sx (x3 + (1 : Int32)).toNatClampNeg) (sx (x3 + (2 : Int32)).toNatClampNeg) (sx (x3 + (3 : Int32)).toNatClampNeg)).bind fun q8 =>
  if q4 = q8 then
    bd (x3 + (6 : Int32)) fun z10 =>
    k18 m a1 a2 z10
  else
    some 0

def f_L_law_622 (K : Kn) (sL : Nat) (sx : Nat → Int32) (k18 : Mem → Nat → Nat → Int32 → Option Int32) (m : Mem) (a1 : Nat) (a2 : Nat) (x3 : Int32) : Option Int32 :=
  gd (inb (x3 + (1 : Int32)) sL = true) <|
  gd (inb (x3 + (2 : Int32)) sL = true) <|
  gd (inb (x3 + (3 : Int32)) sL = true) <|
  (F_X8_fault K m a1 (sx (x3 + (1 : Int32)).toNatClampNeg) (sx (x3 + (2 : Int32)).toNatClampNeg) (sx (x3 + (3 : Int32)).toNatClampNeg)).bind fun q4 =>
  gd (inb (x3 + (1 : Int32)) sL = true) <|
  gd (inb (x3 + (2 : Int32)) sL = true) <|
  gd (inb (x3 + (3 : Int32)) sL = true) <|
  (F_X9_fault K m a2 (sx (x3 + (1 : Int32)).toNatClampNeg) (sx (x3 + (2 : Int32)).toNatClampNeg) (sx (x3 + (3 : Int32)).toNatClampNeg)).bind fun q8 =>
  if q4 = q8.1 then
    bd (x3 + (6 : Int32)) fun z10 =>
    k18 q8.2 a1 a2 z10
  else
    some 0

def f_L_law_665 (K : Kn) (sL : Nat) (sx : Nat → Int32) (k18 : Mem → Nat → Nat → Int32 → Option Int32) (m : Mem) (a1 : Nat) (a2 : Nat) (x3 : Int32) : Option Int32 :=
  gd (inb (x3 + (1 : Int32)) sL = true) <|
  gd (inb (x3 + (2 : Int32)) sL = true) <|
  gd (inb (x3 + (3 : Int32)) sL = true) <|
  gd (inb (x3 + (4 : Int32)) sL = true) <|
  (F_X8_damage K m a1 (sx (x3 + (1 : Int32)).toNatClampNeg) (sx (x3 + (2 : Int32)).toNatClampNeg) (sx (x3 + (3 : Int32)).toNatClampNeg) (sx (x3 + (4 : Int32)).toNatClampNeg)).bind fun q5 =>
  gd (inb (x3 + (1 : Int32)) sL = true) <|
  gd (inb (x3 + (2 : Int32)) sL = true) <|
  gd (inb (x3 + (3 : Int32)) sL = true) <|
  gd (inb (x3 + (4 : Int32)) sL = true) <|
  (F_X9_damage K q5.2 a2 (sx (x3 + (1 : Int32)).toNatClampNeg) (sx (x3 + (2 : Int32)).toNatClampNeg) (sx (x3 + (3 : Int32)).toNatClampNeg) (sx (x3 + (4 : Int32)).toNatClampNeg)).bind fun q10 =>
  if q5.1 = q10.1 then
    bd (x3 + (6 : Int32)) fun z12 =>
    k18 q10.2 a1 a2 z12
  else
    some 0

def f_L_law_718 (K : Kn) (sL : Nat) (sx : Nat → Int32) (k18 : Mem → Nat → Nat → Int32 → Option Int32) (m : Mem) (a1 : Nat) (a2 : Nat) (x3 : Int32) : Option Int32 :=
  gd (inb (x3 + (1 : Int32)) sL = true) <|
  gd (inb (x3 + (2 : Int32)) sL = true) <|
  (F_X8_has K m a1 (sx (x3 + (1 : Int32)).toNatClampNeg) (sx (x3 + (2 : Int32)).toNatClampNeg)).bind fun q3 =>
  gd (inb (x3 + (1 : Int32)) sL = true) <|
  gd (inb (x3 + (2 : Int32)) sL = true) <|
  (F_X9_has K q3.2 a2 (sx (x3 + (1 : Int32)).toNatClampNeg) (sx (x3 + (2 : Int32)).toNatClampNeg)).bind fun q6 =>
  if q3.1 = q6.1 then
    bd (x3 + (6 : Int32)) fun z8 =>
    k18 q6.2 a1 a2 z8
  else
    some 0

def f_L_law_751 (K : Kn) (sL : Nat) (sx : Nat → Int32) (k18 : Mem → Nat → Nat → Int32 → Option Int32) (m : Mem) (a1 : Nat) (a2 : Nat) (x3 : Int32) : Option Int32 :=
  gd (inb (x3 + (1 : Int32)) sL = true) <|
  gd (inb (x3 + (2 : Int32)) sL = true) <|
  (F_X8_at K m a1 (sx (x3 + (1 : Int32)).toNatClampNeg) (sx (x3 + (2 : Int32)).toNatClampNeg)).bind fun q3 =>
  gd (inb (x3 + (1 : Int32)) sL = true) <|
  gd (inb (x3 + (2 : Int32)) sL = true) <|
  (F_X9_at K q3.2 a2 (sx (x3 + (1 : Int32)).toNatClampNeg) (sx (x3 + (2 : Int32)).toNatClampNeg)).bind fun q6 =>
  if (lg_cmp q3.1 q6.1) = 0 then
    bd (x3 + (6 : Int32)) fun z8 =>
    k18 q6.2 a1 a2 z8
  else
    some 0

def f_L_law_785 (K : Kn) (sL : Nat) (sx : Nat → Int32) (k18 : Mem → Nat → Nat → Int32 → Option Int32) (m : Mem) (a1 : Nat) (a2 : Nat) (x3 : Int32) : Option Int32 :=
  gd (inb (x3 + (1 : Int32)) sL = true) <|
  gd (inb (x3 + (2 : Int32)) sL = true) <|
  (F_X8_nearest K m a1 (sx (x3 + (1 : Int32)).toNatClampNeg) (sx (x3 + (2 : Int32)).toNatClampNeg)).bind fun q3 =>
  gd (inb (x3 + (1 : Int32)) sL = true) <|
  gd (inb (x3 + (2 : Int32)) sL = true) <|
  (F_X9_nearest K q3.2 a2 (sx (x3 + (1 : Int32)).toNatClampNeg) (sx (x3 + (2 : Int32)).toNatClampNeg)).bind fun q6 =>
  if q3.1 = q6.1 then
    bd (x3 + (6 : Int32)) fun z8 =>
    k18 q6.2 a1 a2 z8
  else
    some 0

def f_L_law_818 (K : Kn) (sL : Nat) (sx : Nat → Int32) (k18 : Mem → Nat → Nat → Int32 → Option Int32) (m : Mem) (a1 : Nat) (a2 : Nat) (x3 : Int32) : Option Int32 :=
  gd (inb (x3 + (1 : Int32)) sL = true) <|
  gd (inb (x3 + (2 : Int32)) sL = true) <|
  gd (inb (x3 + (3 : Int32)) sL = true) <|
  (F_X8_point K m a1 (sx (x3 + (1 : Int32)).toNatClampNeg) (sx (x3 + (2 : Int32)).toNatClampNeg) (sx (x3 + (3 : Int32)).toNatClampNeg)).bind fun q4 =>
  gd (inb (x3 + (1 : Int32)) sL = true) <|
  gd (inb (x3 + (2 : Int32)) sL = true) <|
  gd (inb (x3 + (3 : Int32)) sL = true) <|
  (F_X9_point K q4.2 a2 (sx (x3 + (1 : Int32)).toNatClampNeg) (sx (x3 + (2 : Int32)).toNatClampNeg) (sx (x3 + (3 : Int32)).toNatClampNeg)).bind fun q8 =>
  if (lg_cmp q4.1 q8.1) = 0 then
    bd (x3 + (6 : Int32)) fun z10 =>
    k18 q8.2 a1 a2 z10
  else
    some 0

def f_L_law_862 (K : Kn) (sL : Nat) (sx : Nat → Int32) (k18 : Mem → Nat → Nat → Int32 → Option Int32) (m : Mem) (a1 : Nat) (a2 : Nat) (x3 : Int32) : Option Int32 :=
  gd (inb (x3 + (1 : Int32)) sL = true) <|
  gd (inb (x3 + (2 : Int32)) sL = true) <|
  gd (inb (x3 + (3 : Int32)) sL = true) <|
  gd (inb (x3 + (4 : Int32)) sL = true) <|
  (F_X8_span K m a1 (sx (x3 + (1 : Int32)).toNatClampNeg) (sx (x3 + (2 : Int32)).toNatClampNeg) (sx (x3 + (3 : Int32)).toNatClampNeg) (sx (x3 + (4 : Int32)).toNatClampNeg)).bind fun q5 =>
  gd (inb (x3 + (1 : Int32)) sL = true) <|
  gd (inb (x3 + (2 : Int32)) sL = true) <|
  gd (inb (x3 + (3 : Int32)) sL = true) <|
  gd (inb (x3 + (4 : Int32)) sL = true) <|
  (F_X9_span K q5.2 a2 (sx (x3 + (1 : Int32)).toNatClampNeg) (sx (x3 + (2 : Int32)).toNatClampNeg) (sx (x3 + (3 : Int32)).toNatClampNeg) (sx (x3 + (4 : Int32)).toNatClampNeg)).bind fun q10 =>
  if q5.1 = q10.1 then
    bd (x3 + (6 : Int32)) fun z12 =>
    k18 q10.2 a1 a2 z12
  else
    some 0

def f_L_law_915 (K : Kn) (sL : Nat) (sx : Nat → Int32) (k18 : Mem → Nat → Nat → Int32 → Option Int32) (m : Mem) (a1 : Nat) (a2 : Nat) (x3 : Int32) : Option Int32 :=
  gd (inb (x3 + (1 : Int32)) sL = true) <|
  gd (inb (x3 + (2 : Int32)) sL = true) <|
  gd (inb (x3 + (3 : Int32)) sL = true) <|
  gd (inb (x3 + (4 : Int32)) sL = true) <|
  (F_X8_value K m a1 (sx (x3 + (1 : Int32)).toNatClampNeg) (sx (x3 + (2 : Int32)).toNatClampNeg) (sx (x3 + (3 : Int32)).toNatClampNeg) (sx (x3 + (4 : Int32)).toNatClampNeg)).bind fun q5 =>
  gd (inb (x3 + (1 : Int32)) sL = true) <|
  gd (inb (x3 + (2 : Int32)) sL = true) <|
  gd (inb (x3 + (3 : Int32)) sL = true) <|
  gd (inb (x3 + (4 : Int32)) sL = true) <|
  (F_X9_value K q5.2 a2 (sx (x3 + (1 : Int32)).toNatClampNeg) (sx (x3 + (2 : Int32)).toNatClampNeg) (sx (x3 + (3 : Int32)).toNatClampNeg) (sx (x3 + (4 : Int32)).toNatClampNeg)).bind fun q10 =>
  if (lg_cmp q5.1 q10.1) = 0 then
    bd (x3 + (6 : Int32)) fun z12 =>
    k18 q10.2 a1 a2 z12
  else
    some 0

def f_L_law_969 (K : Kn) (sL : Nat) (sx : Nat → Int32) (k18 : Mem → Nat → Nat → Int32 → Option Int32) (m : Mem) (a1 : Nat) (a2 : Nat) (x3 : Int32) : Option Int32 :=
  gd (inb (x3 + (1 : Int32)) sL = true) <|
  gd (inb (x3 + (2 : Int32)) sL = true) <|
  gd (inb (x3 + (3 : Int32)) sL = true) <|
  gd (inb (x3 + (4 : Int32)) sL = true) <|
  gd (inb (x3 + (5 : Int32)) sL = true) <|
  (F_X8_above K m a1 (sx (x3 + (1 : Int32)).toNatClampNeg) (sx (x3 + (2 : Int32)).toNatClampNeg) (sx (x3 + (3 : Int32)).toNatClampNeg) ((lshl ((sx (x3 + (4 : Int32)).toNatClampNeg).toInt64) (32 : Int32)) ||| (((sx (x3 + (5 : Int32)).toNatClampNeg).toInt64) &&& (4294967295 : Int64)))).bind fun q6 =>
  gd (inb (x3 + (1 : Int32)) sL = true) <|
  gd (inb (x3 + (2 : Int32)) sL = true) <|
  gd (inb (x3 + (3 : Int32)) sL = true) <|
  gd (inb (x3 + (4 : Int32)) sL = true) <|
  gd (inb (x3 + (5 : Int32)) sL = true) <|
  (F_X9_above K q6.2 a2 (sx (x3 + (1 : Int32)).toNatClampNeg) (sx (x3 + (2 : Int32)).toNatClampNeg) (sx (x3 + (3 : Int32)).toNatClampNeg) ((lshl ((sx (x3 + (4 : Int32)).toNatClampNeg).toInt64) (32 : Int32)) ||| (((sx (x3 + (5 : Int32)).toNatClampNeg).toInt64) &&& (4294967295 : Int64)))).bind fun q12 =>
  if q6.1 = q12.1 then
    bd (x3 + (6 : Int32)) fun z14 =>
    k18 q12.2 a1 a2 z14
  else
    some 0

def f_L_law_1052 (K : Kn) (sL : Nat) (sx : Nat → Int32) (k18 : Mem → Nat → Nat → Int32 → Option Int32) (m : Mem) (a1 : Nat) (a2 : Nat) (x3 : Int32) : Option Int32 :=
  gd (inb (x3 + (1 : Int32)) sL = true) <|
  gd (inb (x3 + (2 : Int32)) sL = true) <|
  (F_X8_ways K m a1 (sx (x3 + (1 : Int32)).toNatClampNeg) (sx (x3 + (2 : Int32)).toNatClampNeg)).bind fun q3 =>
  gd (inb (x3 + (1 : Int32)) sL = true) <|
  gd (inb (x3 + (2 : Int32)) sL = true) <|
  (F_X9_ways K q3.2 a2 (sx (x3 + (1 : Int32)).toNatClampNeg) (sx (x3 + (2 : Int32)).toNatClampNeg)).bind fun q6 =>
  if q3.1 = q6.1 then
    bd (x3 + (6 : Int32)) fun z8 =>
    k18 q6.2 a1 a2 z8
  else
    some 0

def f_L_law_1085 (K : Kn) (sL : Nat) (sx : Nat → Int32) (k18 : Mem → Nat → Nat → Int32 → Option Int32) (m : Mem) (a1 : Nat) (a2 : Nat) (x3 : Int32) : Option Int32 :=
  gd (inb (x3 + (1 : Int32)) sL = true) <|
  gd (inb (x3 + (2 : Int32)) sL = true) <|
  (F_X8_window K m a1 (sx (x3 + (1 : Int32)).toNatClampNeg) (sx (x3 + (2 : Int32)).toNatClampNeg)).bind fun q3 =>
  gd (inb (x3 + (1 : Int32)) sL = true) <|
  gd (inb (x3 + (2 : Int32)) sL = true) <|
  (F_X9_window K m a2 (sx (x3 + (1 : Int32)).toNatClampNeg) (sx (x3 + (2 : Int32)).toNatClampNeg)).bind fun q6 =>
  if q3 = q6.1 then
    bd (x3 + (6 : Int32)) fun z8 =>
    k18 q6.2 a1 a2 z8
  else
    some 0

def f_L_law_1118 (K : Kn) (sL : Nat) (sx : Nat → Int32) (k18 : Mem → Nat → Nat → Int32 → Option Int32) (m : Mem) (a1 : Nat) (a2 : Nat) (x3 : Int32) : Option Int32 :=
  gd (inb (x3 + (1 : Int32)) sL = true) <|
  gd (inb (x3 + (2 : Int32)) sL = true) <|
  (F_X8_gap K m a1 (sx (x3 + (1 : Int32)).toNatClampNeg) (sx (x3 + (2 : Int32)).toNatClampNeg)).bind fun q3 =>
  gd (inb (x3 + (1 : Int32)) sL = true) <|
  gd (inb (x3 + (2 : Int32)) sL = true) <|
  (F_X9_gap K q3.2 a2 (sx (x3 + (1 : Int32)).toNatClampNeg) (sx (x3 + (2 : Int32)).toNatClampNeg)).bind fun q6 =>
  if q3.1 = q6.1 then
    bd (x3 + (6 : Int32)) fun z8 =>
    k18 q6.2 a1 a2 z8
  else
    some 0

def f_L_law_1151 (K : Kn) (sL : Nat) (sx : Nat → Int32) (k18 : Mem → Nat → Nat → Int32 → Option Int32) (m : Mem) (a1 : Nat) (a2 : Nat) (x3 : Int32) : Option Int32 :=
  gd (inb (x3 + (1 : Int32)) sL = true) <|
  gd (inb (x3 + (2 : Int32)) sL = true) <|
  (F_X8_row K m a1 (sx (x3 + (1 : Int32)).toNatClampNeg) (sx (x3 + (2 : Int32)).toNatClampNeg)).bind fun q3 =>
  gd (inb (x3 + (1 : Int32)) sL = true) <|
  gd (inb (x3 + (2 : Int32)) sL = true) <|
  (F_X9_row K q3.2 a2 (sx (x3 + (1 : Int32)).toNatClampNeg) (sx (x3 + (2 : Int32)).toNatClampNeg)).bind fun q6 =>
  if q3.1 = q6.1 then
    bd (x3 + (6 : Int32)) fun z8 =>
    k18 q6.2 a1 a2 z8
  else
    some 0

def f_L_law_1184 (K : Kn) (sL : Nat) (sx : Nat → Int32) (k18 : Mem → Nat → Nat → Int32 → Option Int32) (m : Mem) (a1 : Nat) (a2 : Nat) (x3 : Int32) : Option Int32 :=
  gd (inb (x3 + (1 : Int32)) sL = true) <|
  gd (inb (x3 + (2 : Int32)) sL = true) <|
  gd (inb (x3 + (3 : Int32)) sL = true) <|
  (F_X8_both K m a1 (sx (x3 + (1 : Int32)).toNatClampNeg) (sx (x3 + (2 : Int32)).toNatClampNeg) (sx (x3 + (3 : Int32)).toNatClampNeg)).bind fun q4 =>
  gd (inb (x3 + (1 : Int32)) sL = true) <|
  gd (inb (x3 + (2 : Int32)) sL = true) <|
  gd (inb (x3 + (3 : Int32)) sL = true) <|
  (F_X9_both K q4.2 a2 (sx (x3 + (1 : Int32)).toNatClampNeg) (sx (x3 + (2 : Int32)).toNatClampNeg) (sx (x3 + (3 : Int32)).toNatClampNeg)).bind fun q8 =>
  if q4.1 = q8.1 then
    bd (x3 + (6 : Int32)) fun z10 =>
    k18 q8.2 a1 a2 z10
  else
    some 0

def f_L_law_1227 (K : Kn) (sL : Nat) (sx : Nat → Int32) (k18 : Mem → Nat → Nat → Int32 → Option Int32) (m : Mem) (a1 : Nat) (a2 : Nat) (x3 : Int32) : Option Int32 :=
  gd (inb (x3 + (1 : Int32)) sL = true) <|
  gd (inb (x3 + (2 : Int32)) sL = true) <|
  (F_X8_differ K m a1 (sx (x3 + (1 : Int32)).toNatClampNeg) (sx (x3 + (2 : Int32)).toNatClampNeg)).bind fun q3 =>
  gd (inb (x3 + (1 : Int32)) sL = true) <|
  gd (inb (x3 + (2 : Int32)) sL = true) <|
  (F_X9_differ K q3.2 a2 (sx (x3 + (1 : Int32)).toNatClampNeg) (sx (x3 + (2 : Int32)).toNatClampNeg)).bind fun q6 =>
  if q3.1 = q6.1 then
    bd (x3 + (6 : Int32)) fun z8 =>
    k18 q6.2 a1 a2 z8
  else
    some 0

def f_L_law_1260 (K : Kn) (sL : Nat) (sx : Nat → Int32) (k18 : Mem → Nat → Nat → Int32 → Option Int32) (m : Mem) (a1 : Nat) (a2 : Nat) (x3 : Int32) : Option Int32 :=
  gd (inb (x3 + (1 : Int32)) sL = true) <|
  (F_X8_best K m a1 (sx (x3 + (1 : Int32)).toNatClampNeg)).bind fun q2 =>
  gd (inb (x3 + (1 : Int32)) sL = true) <|
  (F_X9_best K q2.2 a2 (sx (x3 + (1 : Int32)).toNatClampNeg)).bind fun q4 =>
  if q2.1 = q4.1 then
    bd (x3 + (6 : Int32)) fun z6 =>
    k18 q4.2 a1 a2 z6
  else
    some 0

def f_L_law_1283 (K : Kn) (sL : Nat) (sx : Nat → Int32) (k18 : Mem → Nat → Nat → Int32 → Option Int32) (m : Mem) (a1 : Nat) (a2 : Nat) (x3 : Int32) : Option Int32 :=
  gd (inb (x3 + (1 : Int32)) sL = true) <|
  gd (inb (x3 + (2 : Int32)) sL = true) <|
  (F_X8_repack K m a1 (sx (x3 + (1 : Int32)).toNatClampNeg) (sx (x3 + (2 : Int32)).toNatClampNeg)).bind fun q3 =>
  gd (inb (x3 + (1 : Int32)) sL = true) <|
  gd (inb (x3 + (2 : Int32)) sL = true) <|
  (F_X9_repack K q3.2 a2 (sx (x3 + (1 : Int32)).toNatClampNeg) (sx (x3 + (2 : Int32)).toNatClampNeg)).bind fun q6 =>
  if q3.1 = q6.1 then
    bd (x3 + (6 : Int32)) fun z8 =>
    k18 q6.2 a1 a2 z8
  else
    some 0

def f_L_law_1316 (K : Kn) (sL : Nat) (sx : Nat → Int32) (k18 : Mem → Nat → Nat → Int32 → Option Int32) (m : Mem) (a1 : Nat) (a2 : Nat) (x3 : Int32) : Option Int32 :=
  gd (inb (x3 + (1 : Int32)) sL = true) <|
  gd (inb (x3 + (2 : Int32)) sL = true) <|
  (F_X8_thin K m a1 (sx (x3 + (1 : Int32)).toNatClampNeg) (sx (x3 + (2 : Int32)).toNatClampNeg)).bind fun q3 =>
  gd (inb (x3 + (1 : Int32)) sL = true) <|
  gd (inb (x3 + (2 : Int32)) sL = true) <|
  (F_X9_thin K q3.2 a2 (sx (x3 + (1 : Int32)).toNatClampNeg) (sx (x3 + (2 : Int32)).toNatClampNeg)).bind fun q6 =>
  if q3.1 = q6.1 then
    bd (x3 + (6 : Int32)) fun z8 =>
    k18 q6.2 a1 a2 z8
  else
    some 0

def f_L_law_1349 (K : Kn) (sL : Nat) (sx : Nat → Int32) (k18 : Mem → Nat → Nat → Int32 → Option Int32) (m : Mem) (a1 : Nat) (a2 : Nat) (x3 : Int32) : Option Int32 :=
  gd (inb (x3 + (1 : Int32)) sL = true) <|
  gd (inb (x3 + (2 : Int32)) sL = true) <|
  gd (inb (x3 + (3 : Int32)) sL = true) <|
  (F_X8_cuts K m a1 (sx (x3 + (1 : Int32)).toNatClampNeg) (sx (x3 + (2 : Int32)).toNatClampNeg) (sx (x3 + (3 : Int32)).toNatClampNeg)).bind fun q4 =>
  gd (inb (x3 + (1 : Int32)) sL = true) <|
  gd (inb (x3 + (2 : Int32)) sL = true) <|
  gd (inb (x3 + (3 : Int32)) sL = true) <|
  (F_X9_cuts K q4.2 a2 (sx (x3 + (1 : Int32)).toNatClampNeg) (sx (x3 + (2 : Int32)).toNatClampNeg) (sx (x3 + (3 : Int32)).toNatClampNeg)).bind fun q8 =>
  if q4.1 = q8.1 then
    bd (x3 + (6 : Int32)) fun z10 =>
    k18 q8.2 a1 a2 z10
  else
    some 0

def f_L_law_1392 (K : Kn) (sL : Nat) (sx : Nat → Int32) (k18 : Mem → Nat → Nat → Int32 → Option Int32) (m : Mem) (a1 : Nat) (a2 : Nat) (x3 : Int32) : Option Int32 :=
  gd (inb (x3 + (1 : Int32)) sL = true) <|
  gd (inb (x3 + (2 : Int32)) sL = true) <|
  gd (inb (x3 + (3 : Int32)) sL = true) <|
  (F_X8_join K m a1 (sx (x3 + (1 : Int32)).toNatClampNeg) (sx (x3 + (2 : Int32)).toNatClampNeg) (sx (x3 + (3 : Int32)).toNatClampNeg)).bind fun q4 =>
  gd (inb (x3 + (1 : Int32)) sL = true) <|
  gd (inb (x3 + (2 : Int32)) sL = true) <|
  gd (inb (x3 + (3 : Int32)) sL = true) <|
  (F_X9_join K q4.2 a2 (sx (x3 + (1 : Int32)).toNatClampNeg) (sx (x3 + (2 : Int32)).toNatClampNeg) (sx (x3 + (3 : Int32)).toNatClampNeg)).bind fun q8 =>
  if q4.1 = q8.1 then
    bd (x3 + (6 : Int32)) fun z10 =>
    k18 q8.2 a1 a2 z10
  else
    some 0

def f_L_law_1435 (K : Kn) (sL : Nat) (sx : Nat → Int32) (k18 : Mem → Nat → Nat → Int32 → Option Int32) (m : Mem) (a1 : Nat) (a2 : Nat) (x3 : Int32) : Option Int32 :=
  gd (inb (x3 + (1 : Int32)) sL = true) <|
  gd (inb (x3 + (2 : Int32)) sL = true) <|
  (F_X8_rounds K m a1 (sx (x3 + (1 : Int32)).toNatClampNeg) (sx (x3 + (2 : Int32)).toNatClampNeg)).bind fun q3 =>
  gd (inb (x3 + (1 : Int32)) sL = true) <|
  gd (inb (x3 + (2 : Int32)) sL = true) <|
  (F_X9_rounds K q3.2 a2 (sx (x3 + (1 : Int32)).toNatClampNeg) (sx (x3 + (2 : Int32)).toNatClampNeg)).bind fun q6 =>
  if q3.1 = q6.1 then
    bd (x3 + (6 : Int32)) fun z8 =>
    k18 q6.2 a1 a2 z8
  else
    some 0

def f_L_law_1468 (K : Kn) (sL : Nat) (sx : Nat → Int32) (k18 : Mem → Nat → Nat → Int32 → Option Int32) (m : Mem) (a1 : Nat) (a2 : Nat) (x3 : Int32) : Option Int32 :=
  gd (inb (x3 + (1 : Int32)) sL = true) <|
  gd (inb (x3 + (2 : Int32)) sL = true) <|
  (F_X8_rounded K m a1 (sx (x3 + (1 : Int32)).toNatClampNeg) (sx (x3 + (2 : Int32)).toNatClampNeg)).bind fun q3 =>
  gd (inb (x3 + (1 : Int32)) sL = true) <|
  gd (inb (x3 + (2 : Int32)) sL = true) <|
  (F_X9_rounded K q3.2 a2 (sx (x3 + (1 : Int32)).toNatClampNeg) (sx (x3 + (2 : Int32)).toNatClampNeg)).bind fun q6 =>
  if q3.1 = q6.1 then
    bd (x3 + (6 : Int32)) fun z8 =>
    k18 q6.2 a1 a2 z8
  else
    some 0

def f_L_law_1501 (K : Kn) (sL : Nat) (sx : Nat → Int32) (k18 : Mem → Nat → Nat → Int32 → Option Int32) (m : Mem) (a1 : Nat) (a2 : Nat) (x3 : Int32) : Option Int32 :=
  gd (inb (x3 + (1 : Int32)) sL = true) <|
  gd (inb (x3 + (2 : Int32)) sL = true) <|
  (F_X8_dearest K m a1 (sx (x3 + (1 : Int32)).toNatClampNeg) (sx (x3 + (2 : Int32)).toNatClampNeg)).bind fun q3 =>
  gd (inb (x3 + (1 : Int32)) sL = true) <|
  gd (inb (x3 + (2 : Int32)) sL = true) <|
  (F_X9_dearest K q3.2 a2 (sx (x3 + (1 : Int32)).toNatClampNeg) (sx (x3 + (2 : Int32)).toNatClampNeg)).bind fun q6 =>
  if q3.1 = q6.1 then
    bd (x3 + (6 : Int32)) fun z8 =>
    k18 q6.2 a1 a2 z8
  else
    some 0

def f_L_law_1534 (K : Kn) (sL : Nat) (sx : Nat → Int32) (k18 : Mem → Nat → Nat → Int32 → Option Int32) (m : Mem) (a1 : Nat) (a2 : Nat) (x3 : Int32) : Option Int32 :=
  gd (inb (x3 + (1 : Int32)) sL = true) <|
  gd (inb (x3 + (2 : Int32)) sL = true) <|
  (F_X8_where K m a1 (sx (x3 + (1 : Int32)).toNatClampNeg) (sx (x3 + (2 : Int32)).toNatClampNeg)).bind fun q3 =>
  gd (inb (x3 + (1 : Int32)) sL = true) <|
  gd (inb (x3 + (2 : Int32)) sL = true) <|
  (F_X9_where K q3.2 a2 (sx (x3 + (1 : Int32)).toNatClampNeg) (sx (x3 + (2 : Int32)).toNatClampNeg)).bind fun q6 =>
  if q3.1 = q6.1 then
    bd (x3 + (6 : Int32)) fun z8 =>
    k18 q6.2 a1 a2 z8
  else
    some 0

def f_L_law_1567 (K : Kn) (sL : Nat) (sx : Nat → Int32) (k18 : Mem → Nat → Nat → Int32 → Option Int32) (m : Mem) (a1 : Nat) (a2 : Nat) (x3 : Int32) : Option Int32 :=
  gd (inb (x3 + (1 : Int32)) sL = true) <|
  gd (inb (x3 + (2 : Int32)) sL = true) <|
  (F_X8_copy K m a1 (sx (x3 + (1 : Int32)).toNatClampNeg) (sx (x3 + (2 : Int32)).toNatClampNeg)).bind fun q3 =>
  gd (inb (x3 + (1 : Int32)) sL = true) <|
  gd (inb (x3 + (2 : Int32)) sL = true) <|
  (F_X9_copy K q3.2 a2 (sx (x3 + (1 : Int32)).toNatClampNeg) (sx (x3 + (2 : Int32)).toNatClampNeg)).bind fun q6 =>
  if q3.1 = q6.1 then
    bd (x3 + (6 : Int32)) fun z8 =>
    k18 q6.2 a1 a2 z8
  else
    some 0

def f_L_law_1600 (K : Kn) (sL : Nat) (sx : Nat → Int32) (k18 : Mem → Nat → Nat → Int32 → Option Int32) (m : Mem) (a1 : Nat) (a2 : Nat) (x3 : Int32) : Option Int32 :=
  gd (inb (x3 + (1 : Int32)) sL = true) <|
  gd (inb (x3 + (2 : Int32)) sL = true) <|
  (F_X8_mends K m a1 (sx (x3 + (1 : Int32)).toNatClampNeg) (sx (x3 + (2 : Int32)).toNatClampNeg)).bind fun q3 =>
  gd (inb (x3 + (1 : Int32)) sL = true) <|
  gd (inb (x3 + (2 : Int32)) sL = true) <|
  (F_X9_mends K q3.2 a2 (sx (x3 + (1 : Int32)).toNatClampNeg) (sx (x3 + (2 : Int32)).toNatClampNeg)).bind fun q6 =>
  if q3.1 = q6.1 then
    bd (x3 + (6 : Int32)) fun z8 =>
    k18 q6.2 a1 a2 z8
  else
    some 0

def f_L_law_1633 (K : Kn) (sL : Nat) (sx : Nat → Int32) (k18 : Mem → Nat → Nat → Int32 → Option Int32) (m : Mem) (a1 : Nat) (a2 : Nat) (x3 : Int32) : Option Int32 :=
  gd (inb (x3 + (1 : Int32)) sL = true) <|
  gd (inb (x3 + (2 : Int32)) sL = true) <|
  gd (inb (x3 + (3 : Int32)) sL = true) <|
  gd (inb (x3 + (4 : Int32)) sL = true) <|
  (F_X8_mend K m a1 (sx (x3 + (1 : Int32)).toNatClampNeg) (sx (x3 + (2 : Int32)).toNatClampNeg) (sx (x3 + (3 : Int32)).toNatClampNeg) (sx (x3 + (4 : Int32)).toNatClampNeg)).bind fun q5 =>
  gd (inb (x3 + (1 : Int32)) sL = true) <|
  gd (inb (x3 + (2 : Int32)) sL = true) <|
  gd (inb (x3 + (3 : Int32)) sL = true) <|
  gd (inb (x3 + (4 : Int32)) sL = true) <|
  (F_X9_mend K q5.2 a2 (sx (x3 + (1 : Int32)).toNatClampNeg) (sx (x3 + (2 : Int32)).toNatClampNeg) (sx (x3 + (3 : Int32)).toNatClampNeg) (sx (x3 + (4 : Int32)).toNatClampNeg)).bind fun q10 =>
  if q5.1 = q10.1 then
    bd (x3 + (6 : Int32)) fun z12 =>
    k18 q10.2 a1 a2 z12
  else
    some 0

def f_L_law_1686 (K : Kn) (sL : Nat) (sx : Nat → Int32) (k18 : Mem → Nat → Nat → Int32 → Option Int32) (m : Mem) (a1 : Nat) (a2 : Nat) (x3 : Int32) : Option Int32 :=
  gd (inb (x3 + (1 : Int32)) sL = true) <|
  (F_X8_seals K m a1 (sx (x3 + (1 : Int32)).toNatClampNeg)).bind fun q2 =>
  gd (inb (x3 + (1 : Int32)) sL = true) <|
  (F_X9_seals K q2.2 a2 (sx (x3 + (1 : Int32)).toNatClampNeg)).bind fun q4 =>
  if q2.1 = q4.1 then
    bd (x3 + (6 : Int32)) fun z6 =>
    k18 q4.2 a1 a2 z6
  else
    some 0

def f_L_law_1709 (K : Kn) (sL : Nat) (sx : Nat → Int32) (k18 : Mem → Nat → Nat → Int32 → Option Int32) (m : Mem) (a1 : Nat) (a2 : Nat) (x3 : Int32) : Option Int32 :=
  gd (inb (x3 + (1 : Int32)) sL = true) <|
  gd (inb (x3 + (2 : Int32)) sL = true) <|
  (F_X8_drops K m a1 (sx (x3 + (1 : Int32)).toNatClampNeg) (sx (x3 + (2 : Int32)).toNatClampNeg)).bind fun q3 =>
  gd (inb (x3 + (1 : Int32)) sL = true) <|
  gd (inb (x3 + (2 : Int32)) sL = true) <|
  (F_X9_drops K q3.2 a2 (sx (x3 + (1 : Int32)).toNatClampNeg) (sx (x3 + (2 : Int32)).toNatClampNeg)).bind fun q6 =>
  if q3.1 = q6.1 then
    bd (x3 + (6 : Int32)) fun z8 =>
    k18 q6.2 a1 a2 z8
  else
    some 0

def f_L_law_1742 (K : Kn) (sL : Nat) (sx : Nat → Int32) (k18 : Mem → Nat → Nat → Int32 → Option Int32) (m : Mem) (a1 : Nat) (a2 : Nat) (x3 : Int32) : Option Int32 :=
  gd (inb (x3 + (1 : Int32)) sL = true) <|
  gd (inb (x3 + (2 : Int32)) sL = true) <|
  gd (inb (x3 + (3 : Int32)) sL = true) <|
  gd (inb (x3 + (4 : Int32)) sL = true) <|
  (F_X8_least K m a1 (sx (x3 + (1 : Int32)).toNatClampNeg) (sx (x3 + (2 : Int32)).toNatClampNeg) (sx (x3 + (3 : Int32)).toNatClampNeg) (sx (x3 + (4 : Int32)).toNatClampNeg)).bind fun q5 =>
  gd (inb (x3 + (1 : Int32)) sL = true) <|
  gd (inb (x3 + (2 : Int32)) sL = true) <|
  gd (inb (x3 + (3 : Int32)) sL = true) <|
  gd (inb (x3 + (4 : Int32)) sL = true) <|
  (F_X9_least K q5.2 a2 (sx (x3 + (1 : Int32)).toNatClampNeg) (sx (x3 + (2 : Int32)).toNatClampNeg) (sx (x3 + (3 : Int32)).toNatClampNeg) (sx (x3 + (4 : Int32)).toNatClampNeg)).bind fun q10 =>
  if (lg_cmp q5.1 q10.1) = 0 then
    bd (x3 + (6 : Int32)) fun z12 =>
    k18 q10.2 a1 a2 z12
  else
    some 0

def f_L_law_1796 (K : Kn) (sL : Nat) (sx : Nat → Int32) (k18 : Mem → Nat → Nat → Int32 → Option Int32) (m : Mem) (a1 : Nat) (a2 : Nat) (x3 : Int32) : Option Int32 :=
  gd (inb (x3 + (1 : Int32)) sL = true) <|
  gd (inb (x3 + (2 : Int32)) sL = true) <|
  gd (inb (x3 + (3 : Int32)) sL = true) <|
  (F_X8_passes K m a1 (sx (x3 + (1 : Int32)).toNatClampNeg) ((lshl ((sx (x3 + (2 : Int32)).toNatClampNeg).toInt64) (32 : Int32)) ||| (((sx (x3 + (3 : Int32)).toNatClampNeg).toInt64) &&& (4294967295 : Int64)))).bind fun q4 =>
  gd (inb (x3 + (1 : Int32)) sL = true) <|
  gd (inb (x3 + (2 : Int32)) sL = true) <|
  gd (inb (x3 + (3 : Int32)) sL = true) <|
  (F_X9_passes K q4.2 a2 (sx (x3 + (1 : Int32)).toNatClampNeg) ((lshl ((sx (x3 + (2 : Int32)).toNatClampNeg).toInt64) (32 : Int32)) ||| (((sx (x3 + (3 : Int32)).toNatClampNeg).toInt64) &&& (4294967295 : Int64)))).bind fun q8 =>
  if q4.1 = q8.1 then
    bd (x3 + (6 : Int32)) fun z10 =>
    k18 q8.2 a1 a2 z10
  else
    some 0

def f_L_law_1859 (K : Kn) (sL : Nat) (sx : Nat → Int32) (k18 : Mem → Nat → Nat → Int32 → Option Int32) (m : Mem) (a1 : Nat) (a2 : Nat) (x3 : Int32) : Option Int32 :=
  gd (inb (x3 + (1 : Int32)) sL = true) <|
  gd (inb (x3 + (2 : Int32)) sL = true) <|
  (F_X8_since K m a1 (sx (x3 + (1 : Int32)).toNatClampNeg) (sx (x3 + (2 : Int32)).toNatClampNeg)).bind fun q3 =>
  gd (inb (x3 + (1 : Int32)) sL = true) <|
  gd (inb (x3 + (2 : Int32)) sL = true) <|
  (F_X9_since K q3.2 a2 (sx (x3 + (1 : Int32)).toNatClampNeg) (sx (x3 + (2 : Int32)).toNatClampNeg)).bind fun q6 =>
  if q3.1 = q6.1 then
    bd (x3 + (6 : Int32)) fun z8 =>
    k18 q6.2 a1 a2 z8
  else
    some 0

def f_L_law_1892 (K : Kn) (sL : Nat) (sx : Nat → Int32) (k18 : Mem → Nat → Nat → Int32 → Option Int32) (m : Mem) (a1 : Nat) (a2 : Nat) (x3 : Int32) : Option Int32 :=
  gd (inb (x3 + (1 : Int32)) sL = true) <|
  gd (inb (x3 + (2 : Int32)) sL = true) <|
  gd (inb (x3 + (3 : Int32)) sL = true) <|
  (F_X8_area K m a1 (sx (x3 + (1 : Int32)).toNatClampNeg) (sx (x3 + (2 : Int32)).toNatClampNeg) (sx (x3 + (3 : Int32)).toNatClampNeg)).bind fun q4 =>
  gd (inb (x3 + (1 : Int32)) sL = true) <|
  gd (inb (x3 + (2 : Int32)) sL = true) <|
  gd (inb (x3 + (3 : Int32)) sL = true) <|
  (F_X9_area K q4.2 a2 (sx (x3 + (1 : Int32)).toNatClampNeg) (sx (x3 + (2 : Int32)).toNatClampNeg) (sx (x3 + (3 : Int32)).toNatClampNeg)).bind fun q8 =>
  if (lg_cmp q4.1 q8.1) = 0 then
    bd (x3 + (6 : Int32)) fun z10 =>
    k18 q8.2 a1 a2 z10
  else
    some 0

def f_L_law_1936 (K : Kn) (sL : Nat) (sx : Nat → Int32) (k18 : Mem → Nat → Nat → Int32 → Option Int32) (m : Mem) (a1 : Nat) (a2 : Nat) (x3 : Int32) : Option Int32 :=
  gd (inb (x3 + (1 : Int32)) sL = true) <|
  gd (inb (x3 + (2 : Int32)) sL = true) <|
  gd (inb (x3 + (3 : Int32)) sL = true) <|
  gd (inb (x3 + (4 : Int32)) sL = true) <|
  gd (inb (x3 + (5 : Int32)) sL = true) <|
  (F_X8_feed K m a1 (sx (x3 + (1 : Int32)).toNatClampNeg) (sx (x3 + (2 : Int32)).toNatClampNeg) (sx (x3 + (3 : Int32)).toNatClampNeg) (sx (x3 + (4 : Int32)).toNatClampNeg) (sx (x3 + (5 : Int32)).toNatClampNeg)).bind fun q6 =>
  gd (inb (x3 + (1 : Int32)) sL = true) <|
  gd (inb (x3 + (2 : Int32)) sL = true) <|
  gd (inb (x3 + (3 : Int32)) sL = true) <|
  gd (inb (x3 + (4 : Int32)) sL = true) <|
  gd (inb (x3 + (5 : Int32)) sL = true) <|
  (F_X9_feed K q6.2 a2 (sx (x3 + (1 : Int32)).toNatClampNeg) (sx (x3 + (2 : Int32)).toNatClampNeg) (sx (x3 + (3 : Int32)).toNatClampNeg) (sx (x3 + (4 : Int32)).toNatClampNeg) (sx (x3 + (5 : Int32)).toNatClampNeg)).bind fun q12 =>
  if q6.1 = q12.1 then
    bd (x3 + (6 : Int32)) fun z14 =>
    k18 q12.2 a1 a2 z14
  else
    some 0

def f_L_law_1999 (K : Kn) (sL : Nat) (sx : Nat → Int32) (k18 : Mem → Nat → Nat → Int32 → Option Int32) (m : Mem) (a1 : Nat) (a2 : Nat) (x3 : Int32) : Option Int32 :=
  gd (inb (x3 + (1 : Int32)) sL = true) <|
  (F_X8_end K m a1 (sx (x3 + (1 : Int32)).toNatClampNeg)).bind fun q2 =>
  gd (inb (x3 + (1 : Int32)) sL = true) <|
  (F_X9_end K q2.2 a2 (sx (x3 + (1 : Int32)).toNatClampNeg)).bind fun q4 =>
  if q2.1 = q4.1 then
    bd (x3 + (6 : Int32)) fun z6 =>
    k18 q4.2 a1 a2 z6
  else
    some 0

def f_L_law_2022 (K : Kn) (sL : Nat) (sx : Nat → Int32) (k18 : Mem → Nat → Nat → Int32 → Option Int32) (m : Mem) (a1 : Nat) (a2 : Nat) (x3 : Int32) : Option Int32 :=
  gd (inb (x3 + (1 : Int32)) sL = true) <|
  (F_X8_takes K m a1 (sx (x3 + (1 : Int32)).toNatClampNeg)).bind fun q2 =>
  gd (inb (x3 + (1 : Int32)) sL = true) <|
  (F_X9_takes K q2.2 a2 (sx (x3 + (1 : Int32)).toNatClampNeg)).bind fun q4 =>
  if q2.1 = q4.1 then
    bd (x3 + (6 : Int32)) fun z6 =>
    k18 q4.2 a1 a2 z6
  else
    some 0

def f_L_law_2045 (K : Kn) (sL : Nat) (sx : Nat → Int32) (k18 : Mem → Nat → Nat → Int32 → Option Int32) (m : Mem) (a1 : Nat) (a2 : Nat) (x3 : Int32) : Option Int32 :=
  (F_X8_taped K m a1).bind fun q1 =>
  (F_X9_taped K m a2).bind fun q2 =>
  if q1 = q2 then
    bd (x3 + (6 : Int32)) fun z4 =>
    k18 m a1 a2 z4
  else
    some 0

def f_L_law_18B (K : Kn) (sL : Nat) (sx : Nat → Int32) (k18 : Mem → Nat → Nat → Int32 → Option Int32) (m : Mem) (a1 : Nat) (a2 : Nat) (x3 : Int32) : Option Int32 :=
  if ((Int32.ofNat sL) - (6 : Int32)) < x3 then
    some 1
  else
    gd (inb x3 sL = true) <|
    if ((sx (x3).toNatClampNeg) &&& (63 : Int32)) = 0 then
      f_L_law_228 K sL sx k18 m a1 a2 x3
    else
    if ((sx (x3).toNatClampNeg) &&& (63 : Int32)) = 1 then
      f_L_law_261 K sL sx k18 m a1 a2 x3
    else
    if ((sx (x3).toNatClampNeg) &&& (63 : Int32)) = 2 then
      f_L_law_334 K sL sx k18 m a1 a2 x3
    else
    if ((sx (x3).toNatClampNeg) &&& (63 : Int32)) = 3 then
      f_L_law_407 K sL sx k18 m a1 a2 x3
    else
    if ((sx (x3).toNatClampNeg) &&& (63 : Int32)) = 4 then
      f_L_law_480 K sL sx k18 m a1 a2 x3
    else
    if ((sx (x3).toNatClampNeg) &&& (63 : Int32)) = 5 then
      f_L_law_503 K sL sx k18 m a1 a2 x3
    else
    if ((sx (x3).toNatClampNeg) &&& (63 : Int32)) = 6 then
      f_L_law_536 K sL sx k18 m a1 a2 x3
    else
    if ((sx (x3).toNatClampNeg) &&& (63 : Int32)) = 7 then
      f_L_law_579 K sL sx k18 m a1 a2 x3
    else
    if ((sx (x3).toNatClampNeg) &&& (63 : Int32)) = 8 then
      f_L_law_622 K sL sx k18 m a1 a2 x3
    else
    if ((sx (x3).toNatClampNeg) &&& (63 : Int32)) = 9 then
      f_L_law_665 K sL sx k18 m a1 a2 x3
    else
    if ((sx (x3).toNatClampNeg) &&& (63 : Int32)) = 10 then
      f_L_law_718 K sL sx k18 m a1 a2 x3
    else
    if ((sx (x3).toNatClampNeg) &&& (63 : Int32)) = 11 then
      f_L_law_751 K sL sx k18 m a1 a2 x3
    else
    if ((sx (x3).toNatClampNeg) &&& (63 : Int32)) = 12 then
      f_L_law_785 K sL sx k18 m a1 a2 x3
    else
    if ((sx (x3).toNatClampNeg) &&& (63 : Int32)) = 13 then
      f_L_law_818 K sL sx k18 m a1 a2 x3
    else
    if ((sx (x3).toNatClampNeg) &&& (63 : Int32)) = 14 then
      f_L_law_862 K sL sx k18 m a1 a2 x3
    else
    if ((sx (x3).toNatClampNeg) &&& (63 : Int32)) = 15 then
      f_L_law_915 K sL sx k18 m a1 a2 x3
    else
    if ((sx (x3).toNatClampNeg) &&& (63 : Int32)) = 16 then
      f_L_law_969 K sL sx k18 m a1 a2 x3
    else
    if ((sx (x3).toNatClampNeg) &&& (63 : Int32)) = 17 then
      f_L_law_1052 K sL sx k18 m a1 a2 x3
    else
    if ((sx (x3).toNatClampNeg) &&& (63 : Int32)) = 18 then
      f_L_law_1085 K sL sx k18 m a1 a2 x3
    else
    if ((sx (x3).toNatClampNeg) &&& (63 : Int32)) = 19 then
      f_L_law_1118 K sL sx k18 m a1 a2 x3
    else
    if ((sx (x3).toNatClampNeg) &&& (63 : Int32)) = 20 then
      f_L_law_1151 K sL sx k18 m a1 a2 x3
    else
    if ((sx (x3).toNatClampNeg) &&& (63 : Int32)) = 21 then
      f_L_law_1184 K sL sx k18 m a1 a2 x3
    else
    if ((sx (x3).toNatClampNeg) &&& (63 : Int32)) = 22 then
      f_L_law_1227 K sL sx k18 m a1 a2 x3
    else
    if ((sx (x3).toNatClampNeg) &&& (63 : Int32)) = 23 then
      f_L_law_1260 K sL sx k18 m a1 a2 x3
    else
    if ((sx (x3).toNatClampNeg) &&& (63 : Int32)) = 24 then
      f_L_law_1283 K sL sx k18 m a1 a2 x3
    else
    if ((sx (x3).toNatClampNeg) &&& (63 : Int32)) = 25 then
      f_L_law_1316 K sL sx k18 m a1 a2 x3
    else
    if ((sx (x3).toNatClampNeg) &&& (63 : Int32)) = 26 then
      f_L_law_1349 K sL sx k18 m a1 a2 x3
    else
    if ((sx (x3).toNatClampNeg) &&& (63 : Int32)) = 27 then
      f_L_law_1392 K sL sx k18 m a1 a2 x3
    else
    if ((sx (x3).toNatClampNeg) &&& (63 : Int32)) = 28 then
      f_L_law_1435 K sL sx k18 m a1 a2 x3
    else
    if ((sx (x3).toNatClampNeg) &&& (63 : Int32)) = 29 then
      f_L_law_1468 K sL sx k18 m a1 a2 x3
    else
    if ((sx (x3).toNatClampNeg) &&& (63 : Int32)) = 30 then
      f_L_law_1501 K sL sx k18 m a1 a2 x3
    else
    if ((sx (x3).toNatClampNeg) &&& (63 : Int32)) = 31 then
      f_L_law_1534 K sL sx k18 m a1 a2 x3
    else
    if ((sx (x3).toNatClampNeg) &&& (63 : Int32)) = 32 then
      f_L_law_1567 K sL sx k18 m a1 a2 x3
    else
    if ((sx (x3).toNatClampNeg) &&& (63 : Int32)) = 33 then
      f_L_law_1600 K sL sx k18 m a1 a2 x3
    else
    if ((sx (x3).toNatClampNeg) &&& (63 : Int32)) = 34 then
      f_L_law_1633 K sL sx k18 m a1 a2 x3
    else
    if ((sx (x3).toNatClampNeg) &&& (63 : Int32)) = 35 then
      f_L_law_1686 K sL sx k18 m a1 a2 x3
    else
    if ((sx (x3).toNatClampNeg) &&& (63 : Int32)) = 36 then
      f_L_law_1709 K sL sx k18 m a1 a2 x3
    else
    if ((sx (x3).toNatClampNeg) &&& (63 : Int32)) = 37 then
      f_L_law_1742 K sL sx k18 m a1 a2 x3
    else
    if ((sx (x3).toNatClampNeg) &&& (63 : Int32)) = 38 then
      f_L_law_1796 K sL sx k18 m a1 a2 x3
    else
    if ((sx (x3).toNatClampNeg) &&& (63 : Int32)) = 39 then
      f_L_law_1859 K sL sx k18 m a1 a2 x3
    else
    if ((sx (x3).toNatClampNeg) &&& (63 : Int32)) = 40 then
      f_L_law_1892 K sL sx k18 m a1 a2 x3
    else
    if ((sx (x3).toNatClampNeg) &&& (63 : Int32)) = 41 then
      f_L_law_1936 K sL sx k18 m a1 a2 x3
    else
    if ((sx (x3).toNatClampNeg) &&& (63 : Int32)) = 42 then
      f_L_law_1999 K sL sx k18 m a1 a2 x3
    else
    if ((sx (x3).toNatClampNeg) &&& (63 : Int32)) = 43 then
      f_L_law_2022 K sL sx k18 m a1 a2 x3
    else
    if ((sx (x3).toNatClampNeg) &&& (63 : Int32)) = 44 then
      f_L_law_2045 K sL sx k18 m a1 a2 x3
    else
    bd (x3 + (6 : Int32)) fun z48 =>
    k18 m a1 a2 z48

def f_L_law_18 (K : Kn) (sL : Nat) (sx : Nat → Int32) (n : Nat) : Mem → Nat → Nat → Int32 → Option Int32 := lpM (fun _ _ _ _ => none) (f_L_law_18B K sL sx) n

def f_L_law (K : Kn) (sL : Nat) (sx : Nat → Int32) (m : Mem) : Option Int32 :=
  bd (szm m) fun b1 =>
  bd (upK K b1 (.inl 7)) fun K2 =>
  bd (bump m) fun m3 =>
  (F_X8_init K2 m3 b1).bind fun q4 =>
  bd (szm q4.2) fun b6 =>
  bd (upK q4.1 b6 (.inl 8)) fun K7 =>
  bd (bump q4.2) fun m8 =>
  (F_X9_init K7 m8 b6).bind fun q10 =>
  f_L_law_18 q10.1 sL sx 513 q10.2 b1 b6 (0 : Int32)
