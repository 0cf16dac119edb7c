/-! ===== leading and trailing zeros: what is needed of them ===== -/
theorem ius {n : Nat} (h : n < 4294967296) (k : Nat) (hk : k < 32) : iushr (nI n) (nI k) = nI (n / 2 ^ k) := pk_ushrN h (nI k) k (s_u k hk)
theorem nI_m {a b : Nat} (h : b ≤ a) : nI a + (-(nI b)) = nI (a - b) := by
  rw [← Int32.sub_eq_add_neg]; exact pk_sub h
def nlzP (N : Nat) (o : Option Int32) : Prop := ∃ r : Nat, o = some (nI r) ∧ r ≤ 32 ∧ N < 2 ^ (32 - r)
theorem nlz_73 {N i n : Nat} (hi : i < 4) (hn : n ≤ 31) (hn1 : 1 ≤ n) (h : N < (i + 1) * 2 ^ (31 - n)) : nlzP N (f_J6_numberOfLeadingZeros_0f7a4_73 (nI i) (nI n)) := by
  unfold f_J6_numberOfLeadingZeros_0f7a4_73
  have e : iushr (nI i) (1 : Int32) = nI (i / 2) := ius (by omega) 1 (by omega)
  rw [e, pk_sub (by omega)]
  refine ⟨n - i / 2, rfl, by omega, Nat.lt_of_lt_of_le h ?_⟩
  have : i + 1 ≤ 2 ^ (i / 2 + 1) := by
    rcases (show i = 0 ∨ i = 1 ∨ i = 2 ∨ i = 3 by omega) with rfl | rfl | rfl | rfl <;> decide
  calc (i + 1) * 2 ^ (31 - n) ≤ 2 ^ (i / 2 + 1) * 2 ^ (31 - n) := Nat.mul_le_mul_right _ this
    _ = 2 ^ (32 - (n - i / 2)) := by rw [← Nat.pow_add]; congr 1; omega
theorem nlz_sh {N i n k : Nat} (hk : k ≤ n) (hn : n ≤ 31) (h : N < (i + 1) * 2 ^ (31 - n)) : N < (i / 2 ^ k + 1) * 2 ^ (31 - (n - k)) := by
  refine Nat.lt_of_lt_of_le h ?_
  rw [show 31 - (n - k) = k + (31 - n) by omega, Nat.pow_add, ← Nat.mul_assoc]
  refine Nat.mul_le_mul_right _ ?_
  have := Nat.lt_mul_div_succ i (Nat.two_pow_pos k)
  rw [Nat.mul_comm]; omega
theorem nlz_61 {N i n : Nat} (hi : i < 16) (hn : n ≤ 31) (hn1 : 3 ≤ n) (h : N < (i + 1) * 2 ^ (31 - n)) : nlzP N (f_J6_numberOfLeadingZeros_0f7a4_61 (nI i) (nI n)) := by
  unfold f_J6_numberOfLeadingZeros_0f7a4_61
  by_cases c : nI i < (4 : Int32)
  · rw [if_pos c]
    exact nlz_73 ((nI_ltI (b := 4) (by omega) (by omega)).mp c) hn (by omega) h
  · rw [if_neg c]
    have e : iushr (nI i) (2 : Int32) = nI (i / 2 ^ 2) := ius (by omega) 2 (by omega)
    have e2 : nI n + (-2 : Int32) = nI (n - 2) := nI_m (b := 2) (by omega)
    simp only [bd, e, e2]
    exact nlz_73 (by omega) (by omega) (by omega) (nlz_sh (by omega) hn h)
theorem nlz_48 {N i n : Nat} (hi : i < 256) (hn : n ≤ 31) (hn1 : 7 ≤ n) (h : N < (i + 1) * 2 ^ (31 - n)) : nlzP N (f_J6_numberOfLeadingZeros_0f7a4_48 (nI i) (nI n)) := by
  unfold f_J6_numberOfLeadingZeros_0f7a4_48
  by_cases c : nI i < (16 : Int32)
  · rw [if_pos c]
    exact nlz_61 ((nI_ltI (b := 16) (by omega) (by omega)).mp c) hn (by omega) h
  · rw [if_neg c]
    have e : iushr (nI i) (4 : Int32) = nI (i / 2 ^ 4) := ius (by omega) 4 (by omega)
    have e2 : nI n + (-4 : Int32) = nI (n - 4) := nI_m (b := 4) (by omega)
    simp only [bd, e, e2]
    exact nlz_61 (by omega) (by omega) (by omega) (nlz_sh (by omega) hn h)
theorem nlz_33 {N i n : Nat} (hi : i < 65536) (hn : n ≤ 31) (hn1 : 15 ≤ n) (h : N < (i + 1) * 2 ^ (31 - n)) : nlzP N (f_J6_numberOfLeadingZeros_0f7a4_33 (nI i) (nI n)) := by
  unfold f_J6_numberOfLeadingZeros_0f7a4_33
  by_cases c : nI i < (256 : Int32)
  · rw [if_pos c]
    exact nlz_48 ((nI_ltI (b := 256) (by omega) (by omega)).mp c) hn (by omega) h
  · rw [if_neg c]
    have e : iushr (nI i) (8 : Int32) = nI (i / 2 ^ 8) := ius (by omega) 8 (by omega)
    have e2 : nI n + (-8 : Int32) = nI (n - 8) := nI_m (b := 8) (by omega)
    simp only [bd, e, e2]
    exact nlz_48 (by omega) (by omega) (by omega) (nlz_sh (by omega) hn h)
theorem nI_neg {N : Nat} (h1 : 2147483648 ≤ N) (h2 : N < 4294967296) : (nI N).toInt = (N : Int) - 4294967296 := by
  unfold nI
  rw [Int32.toInt_ofNat']
  have e : (Int32.size : Int) = 4294967296 := rfl
  simp only [Int.bmod, Int32.size]
  omega
theorem nlz32 {N : Nat} (hN : N < 4294967296) : nlzP N (F_J6_numberOfLeadingZeros_0f7a4 (nI N)) := by
  unfold F_J6_numberOfLeadingZeros_0f7a4 f_J6_numberOfLeadingZeros_0f7a4
  by_cases c : (0 : Int32) < nI N
  · rw [if_pos c]
    have hN2 : N < 2147483648 := by
      rcases Nat.lt_or_ge N 2147483648 with h | h
      · exact h
      · have := nI_neg h hN
        have h3 := (fa_lt _ _).mp c
        rw [this] at h3
        simp at h3
        omega
    by_cases c2 : nI N < (65536 : Int32)
    · rw [if_pos c2]
      exact nlz_33 (n := 31) ((nI_ltI (b := 65536) (by omega) (by omega)).mp c2) (by omega) (by omega) (by simp)
    · rw [if_neg c2]
      have e : iushr (nI N) (16 : Int32) = nI (N / 2 ^ 16) := ius (by omega) 16 (by omega)
      simp only [bd, e]
      exact nlz_33 (n := 15) (by omega) (by omega) (by omega) (nlz_sh (n := 31) (k := 16) (by omega) (by omega) (by simp))
  · rw [if_neg c]
    by_cases c2 : nI N = 0
    · rw [if_pos c2]
      have : N = 0 := by
        have := pk_tn (n := N) (by omega)
        rw [c2] at this
        simpa using this.symm
      subst this
      exact ⟨32, rfl, by omega, by simp⟩
    · rw [if_neg c2]
      exact ⟨0, rfl, by omega, by omega⟩
/-- trailing zeros of 32 bits -/
theorem ntz_rest : ∀ T : Fin 32, 0 < T.val → (if (0 : Int32) < nI (2 ^ T.val - 1) then
    if nI (2 ^ T.val - 1) ≤ (65536 : Int32) then
      f_J6_numberOfTrailingZeros_0f7a4_34 (nI (2 ^ T.val - 1)) (1 : Int32)
    else
      bd ((1 : Int32) + (16 : Int32)) fun z4 =>
      bd (iushr (nI (2 ^ T.val - 1)) (16 : Int32)) fun z5 =>
      f_J6_numberOfTrailingZeros_0f7a4_34 z5 z4
  else
    some (nI (2 ^ T.val - 1) &&& (32 : Int32))) = some (nI T.val) := by decide +kernel
theorem odd_part : ∀ N : Nat, 0 < N → ∃ T q, N = 2 ^ T * (2 * q + 1) := by
  intro N
  induction N using Nat.strongRecOn with
  | _ N ih =>
    intro h
    by_cases c : N % 2 = 1
    · exact ⟨0, N / 2, by omega⟩
    · obtain ⟨T, q, e⟩ := ih (N / 2) (by omega) (by omega)
      exact ⟨T + 1, q, by rw [Nat.pow_succ, Nat.mul_assoc, Nat.mul_comm 2, ← Nat.mul_assoc, ← e]; omega⟩
theorem mask_low {T q : Nat} (h : 2 ^ T * (2 * q + 1) < 2 ^ 32) : (2 ^ 32 - (2 ^ T * (2 * q + 1) + 1)) &&& (2 ^ T * (2 * q + 1) - 1) = 2 ^ T - 1 := by
  have hp := Nat.two_pow_pos T
  have e1 : 2 ^ T * (2 * q + 1) - 1 = 2 ^ T * (2 * q) + (2 ^ T - 1) := by rw [Nat.mul_add, Nat.mul_one]; omega
  have e2 : 2 ^ T * (2 * q + 1) = 2 ^ T * (2 * q + 1) + 0 := rfl
  apply Nat.eq_of_testBit_eq
  intro j
  rw [Nat.testBit_and, Nat.testBit_two_pow_sub_succ h, e1, Nat.testBit_two_pow_mul_add _ (by omega), Nat.testBit_two_pow_sub_one]
  rw [show (2 ^ T * (2 * q + 1)).testBit j = if j < T then (0 : Nat).testBit j else (2 * q + 1).testBit (j - T) from Nat.testBit_two_pow_mul_add (2 * q + 1) (Nat.two_pow_pos T) j]
  have hT : T < 32 := by
    rcases Nat.lt_or_ge T 32 with h1 | h1
    · exact h1
    · have := Nat.pow_le_pow_right (n := 2) (by omega) h1
      have : 2 ^ T * 1 ≤ 2 ^ T * (2 * q + 1) := Nat.mul_le_mul_left _ (by omega)
      omega
  by_cases c : j < T
  · simp [c, show j < 32 by omega]
  · simp only [c, if_false]
    cases hj : j - T with
    | zero => simp
    | succ k => simp [Nat.testBit_succ, show (2 * q + 1) / 2 = q by omega]
theorem nI_not {N : Nat} (h : N < 2 ^ 32) : nI N ^^^ (-1 : Int32) = nI (2 ^ 32 - (N + 1)) := by
  apply Int32.toBitVec_inj.mp
  apply BitVec.eq_of_toNat_eq
  have e : (-1 : Int32).toBitVec = BitVec.allOnes 32 := by decide
  rw [Int32.toBitVec_xor, e, BitVec.xor_allOnes, BitVec.toNat_not, pk_tn h, pk_tn (by omega)]
  omega
theorem ntz32 {N : Nat} (hN : N < 2 ^ 32) : ∃ r : Nat, F_J6_numberOfTrailingZeros_0f7a4 (nI N) = some (nI r) ∧ r ≤ 32 ∧ 2 ^ r ∣ N ∧ (N ≠ 0 → r < 32) := by
  unfold F_J6_numberOfTrailingZeros_0f7a4 f_J6_numberOfTrailingZeros_0f7a4
  by_cases h0 : N = 0
  · subst h0
    exact ⟨32, by decide +kernel, by omega, ⟨0, rfl⟩, fun h => absurd rfl h⟩
  obtain ⟨T, q, e⟩ := odd_part N (by omega)
  have hT : T < 32 := by
    rcases Nat.lt_or_ge T 32 with h1 | h1
    · exact h1
    · have := Nat.pow_le_pow_right (n := 2) (by omega) h1
      have : 2 ^ T * 1 ≤ 2 ^ T * (2 * q + 1) := Nat.mul_le_mul_left _ (by omega)
      omega
  have e1 : nI N - (1 : Int32) = nI (N - 1) := pk_sub (b := 1) (by omega)
  have e2 : (nI N ^^^ (-1 : Int32)) &&& (nI N - (1 : Int32)) = nI (2 ^ T - 1) := by
    rw [nI_not hN, e1, nx_and]
    congr 1
    subst e
    exact mask_low hN
  simp only [e2]
  refine ⟨T, ?_, by omega, ⟨2 * q + 1, e⟩, fun _ => hT⟩
  by_cases hT0 : T = 0
  · subst hT0; decide +kernel
  · exact ntz_rest ⟨T, hT⟩ (by show 0 < T; omega)
theorem l2i_lN (n : Nat) : (lN n).toInt32 = nI n := lN_i n
theorem nI_mod {n : Nat} : nI n = nI (n % 2 ^ 32) := by
  apply Int32.toBitVec_inj.mp
  apply BitVec.eq_of_toNat_eq
  rw [pk_tn (Nat.mod_lt _ (by decide))]
  simp [nI]
theorem lus {n : Nat} (h : n < 2 ^ 64) (k : Nat) (hk : k < 64) : lushr (lN n) (nI k) = lN (n / 2 ^ k) := wb_shr h hk
theorem nI_zero {n : Nat} (h : n < 2 ^ 32) : nI n = 0 ↔ n = 0 := by
  constructor
  · intro e
    have := pk_tn (n := n) h
    rw [e] at this
    simpa using this.symm
  · intro e; subst e; rfl
theorem lz_ok {n : Nat} (h : n < 2 ^ 64) : F_J13_numberOfLeadingZeros_95d88 (lN n) = some (nI (lz (lN n))) ∧ lz (lN n) ≤ 64 ∧ n < 2 ^ (64 - lz (lN n)) := by
  have key : ∃ r, F_J13_numberOfLeadingZeros_95d88 (lN n) = some (nI r) ∧ r ≤ 64 ∧ n < 2 ^ (64 - r) := by
    unfold F_J13_numberOfLeadingZeros_95d88 f_J13_numberOfLeadingZeros_95d88
    have e : (lushr (lN n) (32 : Int32)).toInt32 = nI (n / 2 ^ 32) := by rw [show lushr (lN n) (32 : Int32) = lN (n / 2 ^ 32) from lus h 32 (by omega), lN_i]
    have e2 : (lN n).toInt32 = nI (n % 2 ^ 32) := by rw [lN_i]; exact nI_mod
    simp only [bd, e, e2]
    by_cases c : nI (n / 2 ^ 32) = 0
    · rw [if_pos c]
      have c' := (nI_zero (by omega)).mp c
      obtain ⟨r, h1, h2, h3⟩ := nlz32 (N := n % 2 ^ 32) (Nat.mod_lt _ (by decide))
      rw [h1]
      refine ⟨32 + r, ?_, by omega, ?_⟩
      · show some ((32 : Int32) + nI r) = _
        rw [show (32 : Int32) = nI 32 from rfl, nI_add]
      · rw [show 64 - (32 + r) = 32 - r by omega]; omega
    · rw [if_neg c]
      obtain ⟨r, h1, h2, h3⟩ := nlz32 (N := n / 2 ^ 32) (by omega)
      rw [h1]
      refine ⟨r, rfl, by omega, ?_⟩
      rw [show 64 - r = 32 - r + 32 by omega, Nat.pow_add]
      exact (Nat.div_lt_iff_lt_mul (by decide)).mp h3
  obtain ⟨r, h1, h2, h3⟩ := key
  have e : lz (lN n) = r := by
    unfold lz; rw [h1]; exact nI_clamp (by omega)
  rw [e]; exact ⟨h1, h2, h3⟩
theorem tz_ok {n : Nat} (h : n < 2 ^ 64) : F_J13_numberOfTrailingZeros_95d88 (lN n) = some (nI (tz (lN n))) ∧ tz (lN n) ≤ 64 ∧ 2 ^ tz (lN n) ∣ n := by
  have key : ∃ r, F_J13_numberOfTrailingZeros_95d88 (lN n) = some (nI r) ∧ r ≤ 64 ∧ 2 ^ r ∣ n := by
    unfold F_J13_numberOfTrailingZeros_95d88 f_J13_numberOfTrailingZeros_95d88
    have e : (lushr (lN n) (32 : Int32)).toInt32 = nI (n / 2 ^ 32) := by rw [show lushr (lN n) (32 : Int32) = lN (n / 2 ^ 32) from lus h 32 (by omega), lN_i]
    have e2 : (lN n).toInt32 = nI (n % 2 ^ 32) := by rw [lN_i]; exact nI_mod
    simp only [bd, e, e2]
    by_cases c : nI (n % 2 ^ 32) = 0
    · rw [if_pos c]
      have c' := (nI_zero (Nat.mod_lt _ (by decide))).mp c
      obtain ⟨r, h1, h2, h3, -⟩ := ntz32 (N := n / 2 ^ 32) (by omega)
      rw [h1]
      refine ⟨32 + r, ?_, by omega, ?_⟩
      · show some ((32 : Int32) + nI r) = _
        rw [show (32 : Int32) = nI 32 from rfl, nI_add]
      · rw [Nat.pow_add]
        obtain ⟨k, hk⟩ := h3
        exact ⟨k, by rw [Nat.mul_assoc, ← hk]; omega⟩
    · rw [if_neg c]
      obtain ⟨r, h1, h2, h3, h4⟩ := ntz32 (N := n % 2 ^ 32) (Nat.mod_lt _ (by decide))
      rw [h1]
      refine ⟨r, rfl, by omega, ?_⟩
      have h5 : 2 ^ r ∣ 2 ^ 32 := Nat.pow_dvd_pow 2 h2
      have h6 := Nat.dvd_add (Nat.dvd_mul_right_of_dvd h5 (n / 2 ^ 32)) h3
      rwa [Nat.div_add_mod] at h6
  obtain ⟨r, h1, h2, h3⟩ := key
  have e : tz (lN n) = r := by
    unfold tz; rw [h1]; exact nI_clamp (by omega)
  rw [e]; exact ⟨h1, h2, h3⟩
theorem uN_lN {n : Nat} (h : n < 2 ^ 64) : uN (lN n) = n := wb_tn h
theorem lN_uN (x : Int64) : lN (uN x) = x := by
  obtain ⟨n, hn, rfl⟩ := wb_of x
  rw [uN_lN hn]
theorem lz_x (x : Int64) : F_J13_numberOfLeadingZeros_95d88 x = some (nI (lz x)) ∧ lz x ≤ 64 ∧ uN x < 2 ^ (64 - lz x) := by
  obtain ⟨n, hn, rfl⟩ := wb_of x
  rw [uN_lN hn]; exact lz_ok hn
theorem tz_x (x : Int64) : F_J13_numberOfTrailingZeros_95d88 x = some (nI (tz x)) ∧ tz x ≤ 64 ∧ 2 ^ tz x ∣ uN x := by
  obtain ⟨n, hn, rfl⟩ := wb_of x
  rw [uN_lN hn]; exact tz_ok hn
theorem uN_pos {x : Int64} (h : x ≠ 0) : 0 < uN x := by
  rcases Nat.eq_zero_or_pos (uN x) with h0 | h0
  · exact absurd (by rw [← lN_uN x, h0]; rfl) h
  · exact h0
theorem lztz {x : Int64} (h : x ≠ 0) : lz x + tz x ≤ 63 := by
  have h1 := uN_pos h
  obtain ⟨-, h2, h3⟩ := lz_x x
  obtain ⟨-, h4, h5⟩ := tz_x x
  have h6 := Nat.le_of_dvd h1 h5
  have h7 : 2 ^ tz x < 2 ^ (64 - lz x) := Nat.lt_of_le_of_lt h6 h3
  have h8 := (Nat.pow_lt_pow_iff_right (a := 2) (by omega)).mp h7
  omega
