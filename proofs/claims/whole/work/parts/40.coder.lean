/-! ===== the coder ===== -/
theorem gI_sIa {m : Mem} {a k j : Nat} {v : Int32} : gI (sI m a k v) a j = if j = k then v else gI m a j := by simp [gI, sI]
theorem gJ_sJa {m : Mem} {a k j : Nat} {v : Int64} : gJ (sJ m a k v) a j = if j = k then v else gJ m a j := by simp [gJ, sJ]
theorem gR_sRa {m : Mem} {a k j : Nat} {v : Option Nat} : gR (sR m a k v) a j = if j = k then v else gR m a j := by simp [gR, sR]
def iZ (z : Int) : Int32 := Int32.ofInt z
theorem iZ_nat (n : Nat) : iZ (n : Int) = nI n := by
  apply Int32.toBitVec_inj.mp
  simp [iZ, nI]
theorem iZ_sub (a b : Int) : iZ a - iZ b = iZ (a - b) := (Int32.ofInt_sub a b).symm
theorem iZ_add (a b : Int) : iZ a + iZ b = iZ (a + b) := by
  apply Int32.toBitVec_inj.mp
  simp [iZ, BitVec.ofInt_add]
theorem iZ_toInt {z : Int} (h1 : -2147483648 ≤ z) (h2 : z < 2147483648) : (iZ z).toInt = z := by
  unfold iZ
  rw [Int32.toInt_ofInt]
  simp only [Int.bmod, Int32.size]
  omega
theorem iZ_of (x : Int32) : iZ x.toInt = x := by unfold iZ; exact Int32.ofInt_toInt x
theorem xor_c (a b : Int64) : a ^^^ b = b ^^^ a := by
  apply wb_inj
  rw [Int64.toBitVec_xor, Int64.toBitVec_xor, BitVec.xor_comm]
/-- the coder holds the point ahead -/
def coR (m : Mem) (c : Nat) (s : Cs) : Prop := gI m c 0 = nI s.1 ∧ gI m c 1 = nI s.2.1 ∧ gJ m c 2 = s.2.2.1 ∧ (match s.2.2.2 with
  | none => gI m c 3 = -1 ∧ gI m c 4 = nI 0
  | some q => gI m c 3 = nI q.1 ∧ gI m c 4 = nI q.2)
theorem kindOf_ok {s : Int} (h1 : -2147483648 ≤ s) (h2 : s < 2147483648) : F_X1_kindOf (iZ s) = some (nI (kindA s)) := by
  have e := iZ_toInt h1 h2
  have c0 : iZ s = 0 ↔ s = 0 := by rw [fa_eq, e]; rfl
  have c1 : iZ s < (-63 : Int32) ↔ s < -63 := by rw [fa_lt, e]; rfl
  have c2 : (64 : Int32) < iZ s ↔ 64 < s := by rw [fa_lt, e]; rfl
  have c3 : iZ s < (-255 : Int32) ↔ s < -255 := by rw [fa_lt, e]; rfl
  have c4 : (256 : Int32) < iZ s ↔ 256 < s := by rw [fa_lt, e]; rfl
  have c5 : iZ s < (-2047 : Int32) ↔ s < -2047 := by rw [fa_lt, e]; rfl
  have c6 : (2048 : Int32) < iZ s ↔ 2048 < s := by rw [fa_lt, e]; rfl
  unfold F_X1_kindOf f_X1_kindOf f_X1_kindOf_20 f_X1_kindOf_36 f_X1_kindOf_54 kindA
  simp only [c0, c1, c2, c3, c4, c5, c6]
  repeat (first | rfl | (exfalso; omega) | split)
theorem stA1 {k : Nat} (h : k ≤ 4) : stA 1 (nI k) = some (nI (kwid k)) := by
  rcases (show k = 0 ∨ k = 1 ∨ k = 2 ∨ k = 3 ∨ k = 4 by omega) with rfl | rfl | rfl | rfl | rfl <;> decide
theorem stA2 {k : Nat} (h : k ≤ 4) : stA 2 (nI k) = some (nI (cwid k)) := by
  rcases (show k = 0 ∨ k = 1 ∨ k = 2 ∨ k = 3 ∨ k = 4 by omega) with rfl | rfl | rfl | rfl | rfl <;> decide
theorem stA0 {k : Nat} (h : k ≤ 4) : stA 0 (nI k) = some (nI (kpfx k)) := by
  rcases (show k = 0 ∨ k = 1 ∨ k = 2 ∨ k = 3 ∨ k = 4 by omega) with rfl | rfl | rfl | rfl | rfl <;> decide
theorem min31 {a : Nat} (h : a ≤ 64) : F_J9_min_7cf53 (nI a) (31 : Int32) = some (nI (min 31 a)) := by
  unfold F_J9_min_7cf53 f_J9_min_7cf53
  have c : (31 : Int32) < nI a ↔ 31 < a := nI_ltI (a := 31) (by omega) (by omega)
  by_cases h1 : 31 < a
  · rw [if_pos (c.mpr h1), show min 31 a = 31 by omega]; rfl
  · rw [if_neg (fun z => h1 (c.mp z)), show min 31 a = a by omega]
/-- bits that a point would take -/
def costA (s : Cs) (t : Nat) (v : Int64) : Nat := chW (encP s t v)
theorem costA_e (s : Cs) (t : Nat) (v : Int64) : costA s t v = kwid (kindA (secA s t)) + cwid (kindA (secA s t)) + (if wayA s.2.2.2 (v ^^^ s.2.2.1) = 5 then 1 else if wayA s.2.2.2 (v ^^^ s.2.2.1) = 6 then 2 + winW s.2.2.2 else 13 + widA (v ^^^ s.2.2.1)) := by
  unfold costA encP encV
  simp only [chW]
  split
  · simp only [chW]; omega
  split
  · simp only [chW]; omega
  · simp only [chW]; omega
theorem costA_le {s : Cs} (hs : csOk s) (t : Nat) (v : Int64) : 2 ≤ costA s t v ∧ costA s t v ≤ 113 := by
  rw [costA_e]
  have h1 := kindA_le (secA s t)
  have h2 : widA (v ^^^ s.2.2.1) ≤ 64 := by unfold widA; omega
  have h3 : winW s.2.2.2 ≤ 64 := by
    cases s.2.2.2 with
    | none => simp [winW]
    | some q => simp [winW]; omega
  have h4 : 1 ≤ kwid (kindA (secA s t)) ∧ kwid (kindA (secA s t)) + cwid (kindA (secA s t)) ≤ 36 := by
    rcases (show kindA (secA s t) = 0 ∨ kindA (secA s t) = 1 ∨ kindA (secA s t) = 2 ∨ kindA (secA s t) = 3 ∨ kindA (secA s t) = 4 by omega) with h | h | h | h | h <;> rw [h] <;> decide
  split
  · omega
  split
  · omega
  · omega
/-- the memory behind a point that was weighed -/
def wgM (m : Mem) (c : Nat) (s : Cs) (t : Nat) (v : Int64) : Mem :=
  sI (sI (sI (sI (sI (sJ (sI (sI (sJ (sI m c 5 (nI t)) c 6 v) c 7 (iZ (secA s t))) c 8 (nI (kindA (secA s t)))) c 11 (v ^^^ s.2.2.1)) c 12 (nI (leadA (v ^^^ s.2.2.1)))) c 13 (nI (tz (v ^^^ s.2.2.1)))) c 10 (nI (kwid (kindA (secA s t)) + cwid (kindA (secA s t))))) c 9 (nI (wayA s.2.2.2 (v ^^^ s.2.2.1)))) c 10 (nI (costA s t v))
theorem wayA_some {l tt : Nat} {x : Int64} (hx : x ≠ 0) : wayA (some (l, tt)) x = if l ≤ lz x ∧ tt ≤ tz x ∧ lz x + tz x ≤ l + tt + 11 then 6 else 7 := by
  unfold wayA; rw [if_neg hx]
theorem wayA_none {x : Int64} (hx : x ≠ 0) : wayA none x = 7 := by
  unfold wayA; rw [if_neg hx]
theorem inWin_ok {K : Kn} {m : Mem} {c : Nat} {s : Cs} (hc : coR m c s) (hs : csOk s) {x : Int64} (hx : x ≠ 0) : F_X1_isInWindow K m c (nI (lz x)) (nI (tz x)) = some (if wayA s.2.2.2 x = 6 then 1 else 0) := by
  have h1 := lztz hx
  obtain ⟨-, -, -, h4⟩ := hc
  unfold F_X1_isInWindow f_X1_isInWindow f_X1_isInWindow_46
  cases hw : s.2.2.2 with
  | none =>
    rw [hw] at h4
    rw [if_pos h4.1, wayA_none hx]
    rfl
  | some q =>
    rw [hw] at h4
    have hq := hs.2.2
    rw [hw] at hq
    obtain ⟨q1, q2⟩ := hq
    rw [h4.1, h4.2]
    have n1 : ¬ nI q.1 = (-1 : Int32) := by
      intro z
      have := congrArg Int32.toInt z
      rw [nI_toInt (by omega)] at this
      simp at this
    rw [if_neg n1]
    have hwy := wayA_some (l := q.1) (tt := q.2) hx
    have hwy : wayA (some q) x = if q.1 ≤ lz x ∧ q.2 ≤ tz x ∧ lz x + tz x ≤ q.1 + q.2 + 11 then 6 else 7 := hwy
    by_cases a1 : lz x < q.1
    · rw [if_neg (show ¬ (q.1 ≤ lz x ∧ q.2 ≤ tz x ∧ lz x + tz x ≤ q.1 + q.2 + 11) by omega)] at hwy
      rw [if_pos ((nI_ltI (by omega) (by omega)).mpr a1), hwy]; rfl
    rw [if_neg (fun z => a1 ((nI_ltI (by omega) (by omega)).mp z))]
    by_cases a2 : tz x < q.2
    · rw [if_neg (show ¬ (q.1 ≤ lz x ∧ q.2 ≤ tz x ∧ lz x + tz x ≤ q.1 + q.2 + 11) by omega)] at hwy
      rw [if_pos ((nI_ltI (by omega) (by omega)).mpr a2), hwy]; rfl
    rw [if_neg (fun z => a2 ((nI_ltI (by omega) (by omega)).mp z))]
    rw [nI_add, pk_sub (by omega), pk_sub (by omega), show (11 : Int32) = nI 11 from rfl]
    by_cases a3 : 11 < lz x + tz x - q.1 - q.2
    · rw [if_neg (show ¬ (q.1 ≤ lz x ∧ q.2 ≤ tz x ∧ lz x + tz x ≤ q.1 + q.2 + 11) by omega)] at hwy
      rw [if_pos ((nI_ltI (by omega) (by omega)).mpr a3), hwy]; rfl
    · rw [if_pos (show (q.1 ≤ lz x ∧ q.2 ≤ tz x ∧ lz x + tz x ≤ q.1 + q.2 + 11) by omega)] at hwy
      rw [if_neg (fun z => a3 ((nI_ltI (by omega) (by omega)).mp z)), hwy]; rfl
theorem lg0 (x : Int64) : (lg_cmp x (0 : Int64) = 0) ↔ x = 0 := lg_cmp_eq x 0
set_option maxHeartbeats 4000000 in
theorem weigh_ok {K : Kn} {m : Mem} {c : Nat} {s : Cs} (hc : coR m c s) (hs : csOk s) {t : Nat} (ht1 : s.1 ≤ t) (ht : t ≤ 2000000000) (v : Int64) : F_X1_weigh K m c (nI t) v = some (wgM m c s t v) := by
  have hc' := hc
  obtain ⟨h0, h1, h2, h3⟩ := hc
  obtain ⟨b1, b2, b3⟩ := hs
  have hsec : secA s t = (t : Int) - s.1 - s.2.1 := rfl
  unfold F_X1_weigh f_X1_weigh
  simp only [bd_e]
  have r0 : gI (sJ (sI m c 5 (nI t)) c 6 v) c 0 = nI s.1 := by rw [gI_sJ, gI_sIa]; simpa using h0
  have r1 : gI (sJ (sI m c 5 (nI t)) c 6 v) c 1 = nI s.2.1 := by rw [gI_sJ, gI_sIa]; simpa using h1
  have r2 : nI t - nI s.1 - nI s.2.1 = iZ (secA s t) := by rw [← iZ_nat, ← iZ_nat, ← iZ_nat, iZ_sub, iZ_sub]; rfl
  rw [r0, r1, r2]
  rw [show gI (sI (sJ (sI m c 5 (nI t)) c 6 v) c 7 (iZ (secA s t))) c 7 = iZ (secA s t) from gI_sI_s, kindOf_ok (by omega) (by omega), bind_e]
  have r3 : gJ (sI (sI (sJ (sI m c 5 (nI t)) c 6 v) c 7 (iZ (secA s t))) c 8 (nI (kindA (secA s t)))) c 2 ^^^ v = v ^^^ s.2.2.1 := by
    rw [gJ_sI, gJ_sI, gJ_sJa, gJ_sI]
    simp only [show ¬ (2 = 6) by decide, if_false]
    rw [h2, xor_c]
  rw [r3, gJ_sJ_s, (lz_x (v ^^^ s.2.2.1)).1, bind_e, (tz_x (v ^^^ s.2.2.1)).1, bind_e, min31 (lz_x (v ^^^ s.2.2.1)).2.1, bind_e]
  have hk := kindA_le (secA s t)
  generalize hM11 : sI (sI (sJ (sI (sI (sJ (sI m c 5 (nI t)) c 6 v) c 7 (iZ (secA s t))) c 8 (nI (kindA (secA s t)))) c 11 (v ^^^ s.2.2.1)) c 12 (nI (min 31 (lz (v ^^^ s.2.2.1))))) c 13 (nI (tz (v ^^^ s.2.2.1))) = M11
  have k8 : gI M11 c 8 = nI (kindA (secA s t)) := by rw [← hM11]; simp only [gI_sIa, gI_sJ]; rfl
  have k11 : gJ M11 c 11 = v ^^^ s.2.2.1 := by rw [← hM11]; simp only [gJ_sI, gJ_sJa]; rfl
  have k12 : gI M11 c 12 = nI (leadA (v ^^^ s.2.2.1)) := by rw [← hM11]; simp only [gI_sIa]; rfl
  have k13 : gI M11 c 13 = nI (tz (v ^^^ s.2.2.1)) := by rw [← hM11]; simp only [gI_sIa]; rfl
  have k0 : gI M11 c 0 = gI m c 0 ∧ gI M11 c 1 = gI m c 1 ∧ gI M11 c 3 = gI m c 3 ∧ gI M11 c 4 = gI m c 4 ∧ gJ M11 c 2 = gJ m c 2 := by
    rw [← hM11]; simp only [gI_sIa, gI_sJ, gJ_sI, gJ_sJa]; exact ⟨rfl, rfl, rfl, rfl, rfl⟩
  rw [k8, stA1 hk, bind_e, stA2 hk, bind_e, nI_add]
  rw [show gJ (sI M11 c 10 (nI (kwid (kindA (secA s t)) + cwid (kindA (secA s t))))) c 11 = v ^^^ s.2.2.1 from k11]
  have hcost := costA_e s t v
  have hcl := costA_le ⟨b1, b2, b3⟩ t v
  have fin : ∀ y : Nat, ∀ z : Int32, gI (sI (sI M11 c 10 (nI (kwid (kindA (secA s t)) + cwid (kindA (secA s t))))) c 9 z) c 10 = nI (kwid (kindA (secA s t)) + cwid (kindA (secA s t))) := by
    intro y z; simp only [gI_sIa]; rfl
  unfold wgM
  rw [show leadA (v ^^^ s.2.2.1) = min 31 (lz (v ^^^ s.2.2.1)) from rfl, hM11]
  rcases wayA_cases s.2.2.2 (v ^^^ s.2.2.1) with ⟨g1, g2⟩ | ⟨g1, g2⟩ | ⟨g1, g2, l, tt, g3, g4, g5⟩
  · rw [if_pos g2] at hcost
    rw [if_pos ((lg0 _).mpr g1), fin 0, g2, show (1 : Int32) = nI 1 from rfl, nI_add, hcost]; rfl
  · have hcoR : coR (sI M11 c 10 (nI (kwid (kindA (secA s t)) + cwid (kindA (secA s t))))) c s := by
      refine ⟨?_, ?_, ?_, ?_⟩
      · rw [gI_sIa]; simpa using k0.1.trans h0
      · rw [gI_sIa]; simpa using k0.2.1.trans h1
      · rw [gJ_sI]; exact k0.2.2.2.2.trans h2
      · rw [gI_sIa, gI_sIa]; simpa [k0.2.2.1, k0.2.2.2.1] using h3
    rw [if_neg (fun z => g1 ((lg0 _).mp z)), inWin_ok hcoR ⟨b1, b2, b3⟩ g1, bind_e, g2]
    rw [if_neg (by omega : ¬ (7 = 6)), if_pos rfl, fin 0]
    have q12 : gI (sI (sI M11 c 10 (nI (kwid (kindA (secA s t)) + cwid (kindA (secA s t))))) c 9 (7 : Int32)) c 12 = nI (leadA (v ^^^ s.2.2.1)) := by simp only [gI_sIa]; exact k12
    have q13 : gI (sI (sI M11 c 10 (nI (kwid (kindA (secA s t)) + cwid (kindA (secA s t))))) c 9 (7 : Int32)) c 13 = nI (tz (v ^^^ s.2.2.1)) := by simp only [gI_sIa]; exact k13
    have hwd := widA_e g1
    rw [q12, q13, show (77 : Int32) = nI 77 from rfl, pk_sub (by omega), pk_sub (by omega), nI_add]
    rw [g2, if_neg (by omega), if_neg (by omega)] at hcost
    rw [hcost, show 77 - leadA (v ^^^ s.2.2.1) - tz (v ^^^ s.2.2.1) = 13 + widA (v ^^^ s.2.2.1) by omega]; rfl
  · have hcoR : coR (sI M11 c 10 (nI (kwid (kindA (secA s t)) + cwid (kindA (secA s t))))) c s := by
      refine ⟨?_, ?_, ?_, ?_⟩
      · rw [gI_sIa]; simpa using k0.1.trans h0
      · rw [gI_sIa]; simpa using k0.2.1.trans h1
      · rw [gJ_sI]; exact k0.2.2.2.2.trans h2
      · rw [gI_sIa, gI_sIa]; simpa [k0.2.2.1, k0.2.2.2.1] using h3
    rw [if_neg (fun z => g1 ((lg0 _).mp z)), inWin_ok hcoR ⟨b1, b2, b3⟩ g1, bind_e, g2]
    rw [if_pos rfl, if_neg (by decide : ¬ ((1 : Int32) = 0)), fin 0]
    rw [g3] at h3 b3
    have q12 : gI (sI (sI M11 c 10 (nI (kwid (kindA (secA s t)) + cwid (kindA (secA s t))))) c 9 (6 : Int32)) c 3 = nI l := by simp only [gI_sIa]; exact k0.2.2.1.trans h3.1
    have q13 : gI (sI (sI M11 c 10 (nI (kwid (kindA (secA s t)) + cwid (kindA (secA s t))))) c 9 (6 : Int32)) c 4 = nI tt := by simp only [gI_sIa]; exact k0.2.2.2.1.trans h3.2
    have hb3 : l ≤ 31 ∧ l + tt ≤ 63 := b3
    rw [q12, q13, show (66 : Int32) = nI 66 from rfl, pk_sub (by omega), pk_sub (by omega), nI_add]
    rw [g2, if_neg (by omega), if_pos rfl, g3] at hcost
    rw [hcost, show 66 - l - tt = 2 + (64 - l - tt) by omega]; rfl
